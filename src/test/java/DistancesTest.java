/** Promises 10 to 15, sentence by sentence: costs, distances, edit lists and the nearest saying. */
public final class DistancesTest {
    private static final String NO_SAYING = "INVALID_ARGUMENT if there is no such saying.";
    private static final String A = "`a`: number of a saying";
    private static final String B = "`b`: number of a saying";
    private static final String B_OR_THE_SAME = "`b`: number of a saying, possibly the same one";
    private static final int[] EIGHT = Make.steps(8, 0, 4);
    private static final int[] OTHERS = Make.steps(8, 32, 3);

    private static void due(String call, int got, int want) {
        Sentences.due(call, got, want);
    }

    private static int[] row(int... words) {
        return Make.row(words);
    }

    private interface OfTwo {
        int on(ProverbCollection x, int a, int b);
    }

    private static void noSuchSayings(OfTwo call) {
        Make.noSuchSaying((x, number) -> call.on(x, number, 0));
        Make.noSuchSaying((x, number) -> call.on(x, 0, number));
        Make.noSuchSaying((x, number) -> call.on(x, number, number));
        Make.noSuchSaying((x, number) -> call.on(x, -1, number));
        Make.noSuchSaying((x, number) -> call.on(x, number, 99));
    }

    private static void costsAre(String when, ProverbCollection x, int inserting, int replacing, int stem, int swapping) {
        due("INSERTING " + when, x.setCost(ProverbCollection.INSERTING, inserting), inserting);
        due("REPLACING " + when, x.setCost(ProverbCollection.REPLACING, replacing), replacing);
        due("SAME_STEM " + when, x.setCost(ProverbCollection.SAME_STEM, stem), stem);
        due("SWAPPING " + when, x.setCost(ProverbCollection.SWAPPING, swapping), swapping);
    }

    // ---- promise 10

    private static void setCostChangesOne() {
        ProverbCollection x = new ProverbCollection();
        Make.fill(x, 7, 8);
        x.setCost(0, 9);
        due("the buffer stays", x.clear(), 2);
        costsAre("behind the first", x, 9, 3, 1, 2);
        x.setCost(1, 8);
        costsAre("behind the second", x, 9, 8, 1, 2);
        x.setCost(2, 7);
        costsAre("behind the third", x, 9, 8, 7, 2);
        x.setCost(3, 6);
        costsAre("behind the fourth", x, 9, 8, 7, 6);
        due("the limit stays", x.setLimit(3), 3);
    }

    private static void setCostIsAChange() {
        ProverbCollection x = new ProverbCollection();
        for (int cost = 0; cost < 4; cost++) {
            x.setCost(cost, 9);
        }
        for (int left = 3; left >= 0; left--) {
            due("undo", x.undo(), left);
        }
        due("undo again", x.undo(), -2);
        costsAre("behind undo", x, 2, 3, 1, 2);
    }

    private static void fourCosts() {
        ProverbCollection x = Make.with(row(0), row(1), row(40), row(0, 40), row(40, 0));
        for (int cost : row(0, 1, 2, 3)) {
            x.setCost(cost, 9 - cost);
        }
        due("cost 0 is for inserting", x.distance(0, 3), 9);
        due("cost 0 is for removing", x.distance(3, 0), 9);
        due("cost 1 is for replacing", x.distance(0, 2), 8);
        due("cost 2 is for the same stem", x.distance(0, 1), 7);
        due("cost 3 is for swapping", x.distance(3, 4), 6);
    }

    private static void oneToNine() {
        ProverbCollection x = new ProverbCollection();
        for (int cost = 0; cost < 4; cost++) {
            for (int value : row(1, 9, 2, 8, 1)) {
                x.setCost(cost, value);
                due("cost " + cost + " set to " + value, x.setCost(cost, value), value);
            }
        }
    }

    private static void previousValue() {
        ProverbCollection x = new ProverbCollection();
        int[] before = {2, 3, 1, 2};
        for (int cost = 0; cost < 4; cost++) {
            due("the initial value of " + cost, x.setCost(cost, 5 + cost), before[cost]);
            due("the value set", x.setCost(cost, 9), 5 + cost);
            due("the same value", x.setCost(cost, 9), 9);
            x.setCost(cost, 10);
            due("behind a refused value", x.setCost(cost, 1), 9);
            x.undo();
            due("behind an undone value", x.setCost(cost, 1), 9);
        }
    }

    private static void costOrValueOutOfRange() {
        ProverbCollection x = new ProverbCollection();
        for (int fit : row(1, 9)) {
            Make.refusedOutside(0, 3, cost -> x.setCost(cost, fit));
            Make.refusedOutside(0, 3, cost -> x.setCost(cost, 0));
        }
        for (int cost = 0; cost < 4; cost++) {
            int fit = cost;
            Make.refusedOutside(1, 9, value -> x.setCost(fit, value));
        }
        costsAre("behind refused calls", x, 2, 3, 1, 2);
    }

    // ---- promises 11 to 13

    private static ProverbCollection twelveLengths() {
        ProverbCollection x = new ProverbCollection();
        for (int number = 0; number < 12; number++) {
            Make.saying(x, 0, 0, Make.steps(1 + number % 8, number / 8, 4));
        }
        return x;
    }

    private static void allDistances() {
        ProverbCollection x = twelveLengths();
        for (int a = 0; a < 12; a++) {
            for (int b = 0; b < 12; b++) {
                int shorter = Math.min(a % 8, b % 8) + 1;
                int changed = a / 8 == b / 8 ? 0 : shorter;
                due("distance(" + a + ", " + b + ")", x.distance(a, b), 2 * Math.abs(a % 8 - b % 8) + changed);
            }
        }
    }

    private static void ofItself(String call, OfTwo ofTwo, int want) {
        ProverbCollection x = twelveLengths();
        x.setCost(0, 9);
        for (int number = 0; number < 12; number++) {
            due(call + " of " + number + " and itself", ofTwo.on(x, number, number), want);
        }
    }

    private static void firstAndLast(String call, OfTwo ofTwo, int want) {
        ProverbCollection x = Make.with(row(0, 4), row(9), row(9), row(9), row(9), row(9), row(9), row(9), row(9), row(9),
            row(9), row(0, 8));
        due(call + "(0, 11)", ofTwo.on(x, 0, 11), want);
        due(call + "(11, 0)", ofTwo.on(x, 11, 0), want);
    }

    private static void leastAndGreatestDistance() {
        ProverbCollection x = Make.with(EIGHT, OTHERS, EIGHT, Make.changed(EIGHT, 7, 29));
        due("equal ones", x.distance(0, 2), 0);
        due("one word of the same stem", x.distance(0, 3), 1);
        for (int cost = 0; cost < 4; cost++) {
            x.setCost(cost, 9);
        }
        due("eight words and all dear", x.distance(0, 1), 72);
        due("eight words and all dear, back", x.distance(1, 0), 72);
        x.setCost(0, 1);
        due("sixteen cheap edits", x.distance(0, 1), 16);
    }

    private static void similarityBothWays() {
        ProverbCollection x = Make.with(row(0, 4), row(0, 4, 8), row(1));
        due("two and three words", x.similarityBits(0, 1), Float.floatToIntBits(1f - 2f / 10f));
        due("three and two words", x.similarityBits(1, 0), Float.floatToIntBits(1f - 2f / 10f));
        due("two and one", x.similarityBits(0, 2), Float.floatToIntBits(1f - 3f / 6f));
        x.setCost(0, 7);
        due("dearer", x.similarityBits(0, 1), Float.floatToIntBits(1f - 7f / 35f));
    }

    /** Over all that can stand above and below the line: 0 to 16 costs of one, or of one and nine. */
    private static void bitsOfManyShares() {
        for (int inserting = 1; inserting <= 9; inserting++) {
            for (int length = 1; length <= 8; length++) {
                ProverbCollection x = Make.with(EIGHT, Make.steps(length, 1, 4), Make.steps(length, 32, 3));
                x.setCost(0, inserting);
                for (int stem = 1; stem <= 9; stem += 4) {
                    x.setCost(2, stem);
                    x.setCost(1, 10 - stem);
                    bitsOf(x, inserting, 8 + length, 1);
                    bitsOf(x, inserting, 8 + length, 2);
                }
            }
        }
    }

    private static void bitsOf(ProverbCollection x, int inserting, int words, int other) {
        float share = (float) x.distance(0, other) / (float) (inserting * words);
        due("similarity of 0 and " + other, x.similarityBits(0, other), Float.floatToIntBits(1f - share));
    }

    private static void leastAndGreatestSimilarity() {
        ProverbCollection x = Make.with(EIGHT, OTHERS, EIGHT, row(40), row(40));
        due("equal ones", x.similarityBits(0, 2), 1065353216);
        due("equal ones of one word", x.similarityBits(3, 4), 1065353216);
        x.setCost(0, 1);
        due("all removed and inserted, no minus before 0", x.similarityBits(0, 1), 0);
        due("one and eight words, nothing in common", x.similarityBits(3, 0), 0);
    }

    private static void numberOfEdits() {
        ProverbCollection x = Make.with(EIGHT, OTHERS, EIGHT, row(0), row(40), row(28));
        due("none", x.editCount(0, 2), 0);
        due("eight", x.editCount(0, 1), 8);
        due("seven removed", x.editCount(0, 3), 7);
        due("seven inserted", x.editCount(5, 0), 7);
        due("seven removed, one replaced", x.editCount(0, 4), 8);
        due("one", x.editCount(3, 4), 1);
        x.setCost(0, 1);
        due("sixteen", x.editCount(0, 1), 16);
        due("nine", x.editCount(0, 4), 9);
        due("none, behind sixteen", x.editCount(2, 0), 0);
    }

    private static void swapsAndKeptWords() {
        ProverbCollection x = Make.with(EIGHT, row(4, 0, 12, 8, 20, 16, 28, 24), Make.changed(EIGHT, 0, 1));
        due("four swaps", x.editCount(0, 1), 4);
        due("seven kept words", x.editCount(0, 2), 1);
    }

    // ---- promise 14

    private static void editsOfFirstAndLast() {
        ProverbCollection x = Make.singles(11);
        Make.saying(x, 0, 0, 11, 40);
        due("editAt(0, 11, 0)", x.editAt(0, 11, 0), 300);
        due("editAt(0, 11, 1)", x.editAt(0, 11, 1), 101);
        due("editAt(11, 0, 0)", x.editAt(11, 0, 0), 200);
        due("editAt(11, 0, 1)", x.editAt(11, 0, 1), 110);
        due("editAt(11, 11, 0)", x.editAt(11, 11, 0), -4);
    }

    private static void editIndices() {
        ProverbCollection x = Make.with(EIGHT, OTHERS);
        due("editAt(0, 1, 0)", x.editAt(0, 1, 0), 100);
        due("editAt(0, 1, 7)", x.editAt(0, 1, 7), 177);
        due("editAt(0, 1, 8)", x.editAt(0, 1, 8), -4);
        x.setCost(0, 1);
        due("the first of sixteen", x.editAt(0, 1, 0), 300);
        due("the eighth of sixteen", x.editAt(0, 1, 7), 307);
        due("the ninth of sixteen", x.editAt(0, 1, 8), 208);
        due("the last of sixteen", x.editAt(0, 1, 15), 278);
    }

    private static void kindsAndPlaces() {
        int[] later = Make.steps(8, 4, 4);
        Make.edits(Make.with(EIGHT, later), 200, 387);
        Make.edits(Make.with(later, EIGHT), 300, 278);
        Make.edits(Make.with(EIGHT, Make.swapped(EIGHT, 0)), 400);
        Make.edits(Make.with(EIGHT, Make.swapped(EIGHT, 6)), 466);
        Make.edits(Make.with(EIGHT, Make.changed(EIGHT, 0, 1)), 100);
        Make.edits(Make.with(EIGHT, Make.changed(EIGHT, 7, 30)), 177);
        Make.edits(Make.with(row(0), row(28, 0)), 300);
        Make.edits(Make.with(row(0), row(0, 28)), 311);
        Make.edits(Make.with(row(28, 0), row(0)), 200);
        Make.edits(Make.with(row(0, 28), row(0)), 211);
    }

    private static void noSayingOrNegativeIndex() {
        noSuchSayings((x, a, b) -> x.editAt(a, b, 0));
        noSuchSayings((x, a, b) -> x.editAt(a, b, -1));
        noSuchSayings((x, a, b) -> x.editAt(a, b, Make.MAX));
        ProverbCollection x = Make.singles(2);
        for (int index : row(-1, -2, -16, Make.MIN)) {
            due("editAt(0, 1, " + index + ")", x.editAt(0, 1, index), -1);
            due("editAt(0, 0, " + index + ")", x.editAt(0, 0, index), -1);
        }
    }

    private static void indexBehindTheList() {
        ProverbCollection x = Make.with(EIGHT, OTHERS, EIGHT, Make.changed(EIGHT, 7, 30));
        for (int index : row(0, 1, 15, 16, 17, Make.MAX)) {
            due("index " + index + " of none", x.editAt(0, 2, index), -4);
            due("index " + index + " of one", x.editAt(0, 3, index), index == 0 ? 177 : -4);
            due("index " + index + " of eight", x.editAt(0, 1, index), index < 8 ? 100 + 11 * index : -4);
        }
        x.setCost(0, 1);
        due("index 15 of sixteen", x.editAt(0, 1, 15), 278);
        due("index 16 of sixteen", x.editAt(0, 1, 16), -4);
        due("index 0 of none, behind sixteen", x.editAt(0, 2, 0), -4);
        due("index 1 of one, behind sixteen", x.editAt(0, 3, 1), -4);
    }

    // ---- promise 15

    private static void nearestOfSeveral() {
        ProverbCollection x = new ProverbCollection();
        Make.saying(x, 50, 0, 0, 4);
        Make.saying(x, 40, 0, 0, 6);
        Make.saying(x, 30, 0, 40, 4);
        due("the least distance, not the oldest", x.nearest(0), 1);
        Make.saying(x, 39, 0, 0, 7);
        due("as near and older", x.nearest(0), 3);
        Make.saying(x, 39, 0, 0, 5);
        due("as near, as old, a higher number", x.nearest(0), 3);
        Make.saying(x, 41, 0, 1, 4);
        due("as near and younger", x.nearest(0), 3);
        Make.saying(x, 2100, 0, 0, 4);
        due("the same words, the youngest", x.nearest(0), 6);
        Make.saying(x, 2100, 0, 0, 4);
        due("the same words twice", x.nearest(0), 6);
        due("the same words, from the other one", x.nearest(6), 0);
        x.removeSaying(3);
        due("the numbers move along", x.nearest(0), 5);
    }

    private static void nearestOfFirstAndLast() {
        ProverbCollection x = Make.with(row(0), row(40), row(41), row(20), row(24), row(28), row(32), row(36), row(44),
            row(48), row(52), row(1));
        due("nearest(0)", x.nearest(0), 11);
        due("nearest(11)", x.nearest(11), 0);
        due("nearest(2)", x.nearest(2), 1);
        due("nearest of one that is near to none", x.nearest(5), 0);
    }

    private static void nearestIsAnother() {
        ProverbCollection x = Make.with(row(1), Make.times(8, 40));
        x.setCost(0, 9);
        x.setCost(1, 9);
        due("far away, but another one", x.nearest(0), 1);
        due("far away, from the other side", x.nearest(1), 0);
        ProverbCollection same = Make.with(row(1), row(1));
        due("the same words, seen from the older", same.nearest(0), 1);
        due("the same words, seen from the younger", same.nearest(1), 0);
    }

    private static void theOnlyOne() {
        ProverbCollection x = Make.singles(1);
        due("nearest(0)", x.nearest(0), -4);
        Make.saying(x, 0, 0, 1);
        due("nearest(0) of two", x.nearest(0), 1);
        x.removeSaying(1);
        due("nearest(0) behind a removed one", x.nearest(0), -4);
        x.undo();
        due("nearest(0) of two again", x.nearest(0), 1);
    }

    private static void costPromise() {
        Sentences.under("Promise 10: setCost");
        Sentences.test("Sets a cost.", DistancesTest::setCostChangesOne);
        Sentences.test("This is a change.", DistancesTest::setCostIsAChange);
        Sentences.test("`cost`: INSERTING, REPLACING, SAME_STEM or SWAPPING", DistancesTest::fourCosts);
        Sentences.test("`value`: 1 to 9", DistancesTest::oneToNine);
        Sentences.test("Returns the previous value", DistancesTest::previousValue);
        Sentences.test("INVALID_ARGUMENT if an argument is out of range.", DistancesTest::costOrValueOutOfRange);
    }

    private static void distancePromises() {
        Sentences.under("Promise 11: distance");
        Sentences.test("Returns the edit distance of two sayings.", DistancesTest::allDistances);
        Sentences.test(A, () -> firstAndLast("distance", ProverbCollection::distance, 3));
        Sentences.test(B_OR_THE_SAME, () -> ofItself("distance", ProverbCollection::distance, 0));
        Sentences.test("Returns the edit distance", DistancesTest::leastAndGreatestDistance);
        Sentences.test(NO_SAYING, () -> noSuchSayings(ProverbCollection::distance));
        Sentences.under("Promise 12: similarityBits");
        Sentences.test("Returns the similarity of two sayings.", DistancesTest::similarityBothWays);
        Sentences.test(A, () -> firstAndLast("similarityBits", ProverbCollection::similarityBits,
            Float.floatToIntBits(1f - 3f / 8f)));
        Sentences.test(B_OR_THE_SAME, () -> ofItself("similarityBits", ProverbCollection::similarityBits, 0x3f800000));
        Sentences.test("Returns the bits of the float, as Float.floatToIntBits gives them", () -> {
            bitsOfManyShares();
            leastAndGreatestSimilarity();
        });
        Sentences.test(NO_SAYING, () -> noSuchSayings(ProverbCollection::similarityBits));
    }

    private static void editPromises() {
        Sentences.under("Promise 13: editCount");
        Sentences.test("Returns the length of the edit list of two sayings.", DistancesTest::swapsAndKeptWords);
        Sentences.test(A, () -> firstAndLast("editCount", ProverbCollection::editCount, 1));
        Sentences.test(B, () -> ofItself("editCount", ProverbCollection::editCount, 0));
        Sentences.test("Returns the number of edits", DistancesTest::numberOfEdits);
        Sentences.test(NO_SAYING, () -> noSuchSayings(ProverbCollection::editCount));
        Sentences.under("Promise 14: editAt");
        Sentences.test("Returns an edit of the edit list of two sayings.", DistancesTest::editsOfFirstAndLast);
        Sentences.test(A, () -> firstAndLast("editAt", (x, a, b) -> x.editAt(a, b, 0), 111));
        Sentences.test(B, () -> ofItself("editAt", (x, a, b) -> x.editAt(a, b, 0), -4));
        Sentences.test("`index`: 0 or more", DistancesTest::editIndices);
        Sentences.test("Returns 100 times the kind (REPLACE, REMOVE, INSERT or SWAP), plus 10 times i, plus j, where i and "
            + "j are those of the predecessor of the step (the numbers of words of both sayings before the edit)",
            DistancesTest::kindsAndPlaces);
        Sentences.test("INVALID_ARGUMENT if there is no such saying or index is negative",
            DistancesTest::noSayingOrNegativeIndex);
        Sentences.test("NOT_FOUND if the list is not so long.", DistancesTest::indexBehindTheList);
    }

    private static void nearestPromise() {
        Sentences.under("Promise 15: nearest");
        Sentences.test("Finds the saying nearest to another one: the one with the least edit distance from it, of several "
            + "the oldest one.", DistancesTest::nearestOfSeveral);
        Sentences.test("`saying`: number of a saying", DistancesTest::nearestOfFirstAndLast);
        Sentences.test("Returns the number of another saying", DistancesTest::nearestIsAnother);
        Sentences.test("INVALID_ARGUMENT if there is no such saying", () -> Make.noSuchSaying(ProverbCollection::nearest));
        Sentences.test("NOT_FOUND if it is the only one.", DistancesTest::theOnlyOne);
    }

    public static void main(String[] args) {
        costPromise();
        distancePromises();
        editPromises();
        nearestPromise();
        Sentences.complete("## Promise 10:", "## Promise 16:");
        Sentences.close();
    }
}
