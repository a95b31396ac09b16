/** The document's description, sentence by sentence, up to the crossings; ChangesAndErrorsTest has the rest of it. */
public final class DescriptionTest {
    private static final int GAP = Make.GAP;
    private static final int[] EIGHT = Make.steps(8, 0, 4);

    private static void due(String call, int got, int want) {
        Sentences.due(call, got, want);
    }

    private static int[] row(int... words) {
        return Make.row(words);
    }

    // ---- words and sayings

    private static void words() {
        for (int word = 0; word <= 59; word++) {
            ProverbCollection x = new ProverbCollection();
            due("addSaying with the word " + word, Make.saying(x, 0, 0, word), 0);
            due("wordAt", x.wordAt(0, 0), word);
        }
        ProverbCollection x = new ProverbCollection();
        due("append(-1)", x.append(-1), -1);
        due("addSaying with 60", Make.saying(x, 0, 0, 60), -2);
    }

    private static void stems() {
        for (int w = 0; w <= 59; w++) {
            ProverbCollection x = Make.with(row(w));
            for (int v = 0; v <= 59; v++) {
                Make.saying(x, 0, 0, v);
                due("distance of the words " + w + " and " + v, x.distance(0, 1), v == w ? 0 : v / 4 == w / 4 ? 1 : 3);
                x.removeSaying(1);
            }
        }
    }

    private static void twelveSayings() {
        ProverbCollection x = new ProverbCollection();
        for (int number = 0; number < 12; number++) {
            due("lengthOf(" + number + ") before it is there", x.lengthOf(number), -1);
            due("addSaying", Make.saying(x, 0, 0, number), number);
            due("wordAt(" + number + ", 0)", x.wordAt(number, 0), number);
        }
        due("a thirteenth", Make.saying(x, 0, 0, 1), -3);
        due("sayingCount", x.sayingCount(), 12);
        due("lengthOf(12)", x.lengthOf(12), -1);
        due("lengthOf(-1)", x.lengthOf(-1), -1);
    }

    private static void aSaying() {
        lengths();
        years();
        regions();
    }

    private static void lengths() {
        ProverbCollection x = new ProverbCollection();
        due("addSaying without words", x.addSaying(0, 0), -2);
        for (int length = 1; length <= 8; length++) {
            due("addSaying", Make.saying(x, 0, 0, Make.steps(length, length, 7)), length - 1);
            Make.words(length + " words", x, length - 1, Make.steps(length, length, 7));
        }
        Make.fill(x, Make.steps(8, 1, 7));
        due("a ninth word", x.append(1), -3);
        due("addSaying with the eight", x.addSaying(0, 0), 8);
        due("lengthOf(8)", x.lengthOf(8), 8);
    }

    private static void years() {
        ProverbCollection x = new ProverbCollection();
        int[] years = {2100, 2099, 1, 0, -1, -2999, -3000};
        for (int number = 0; number < years.length; number++) {
            due("addSaying(" + years[number] + ", 0)", Make.saying(x, years[number], 0, 1), number);
        }
        Make.order("falling years", x, 6, 5, 4, 3, 2, 1, 0);
        due("year -3001", Make.saying(x, -3001, 0, 1), -1);
        due("year 2101", Make.saying(x, 2101, 0, 1), -1);
    }

    private static void regions() {
        ProverbCollection x = new ProverbCollection();
        for (int region = 0; region <= 9; region++) {
            due("addSaying(0, " + region + ")", Make.saying(x, 0, region, 1), region);
            due("regions up to " + region, x.groupInfo(0, 1), region + 1);
        }
        due("region -1", Make.saying(x, 0, -1, 1), -1);
        due("region 10", Make.saying(x, 0, 10, 1), -1);
    }

    /** Twelve sayings of different words, years and regions, the one with this number left out. */
    private static ProverbCollection twelveBut(int number) {
        ProverbCollection x = new ProverbCollection();
        for (int saying = 0; saying < 12; saying++) {
            if (saying != number) {
                Make.saying(x, saying * 7 % 12, saying * 3 % 10, Make.steps(1 + saying % 8, saying, 5 - saying % 3));
            }
        }
        return x;
    }

    private static void numbersBehindARemovedOne() {
        for (int removed = 0; removed < 12; removed++) {
            ProverbCollection x = twelveBut(-1);
            ProverbCollection y = twelveBut(removed);
            due("removeSaying(" + removed + ")", x.removeSaying(removed), 11);
            x.setLimit(1);
            y.setLimit(1);
            for (int saying = 0; saying < 11; saying++) {
                int before = saying < removed ? saying : saying + 1;
                int[] words = Make.steps(1 + before % 8, before, 5 - before % 3);
                Make.words(before + " without " + removed, x, saying, words);
                due("byAge(" + saying + ") without " + removed, x.byAge(saying), y.byAge(saying));
                due("groupOf(" + saying + ") without " + removed, x.groupOf(saying), y.groupOf(saying));
                due("regions without " + removed, x.groupInfo(saying, 1), y.groupInfo(saying, 1));
            }
            due("lengthOf(11)", x.lengthOf(11), -1);
        }
    }

    private static void older() {
        ProverbCollection x = new ProverbCollection();
        for (int year : row(1500, -1, 1500, 0, -3000, 1499, 2100, -3000, 1500, -2, 2100, 1501)) {
            Make.saying(x, year, 0, 1);
        }
        Make.order("twelve", x, 4, 7, 9, 1, 3, 5, 0, 2, 8, 11, 6, 10);
        x.removeSaying(0);
        Make.order("eleven", x, 3, 6, 8, 0, 2, 4, 1, 7, 10, 5, 9);
        Make.saying(x, 1500, 0, 1);
        Make.order("a new one of the same year", x, 3, 6, 8, 0, 2, 4, 1, 7, 11, 10, 5, 9);
    }

    private static void tokenBuffer() {
        due("clear of a new object", new ProverbCollection().clear(), 0);
        due("addSaying of a new object", new ProverbCollection().addSaying(0, 0), -2);
        due("addPattern of a new object", new ProverbCollection().addPattern(), -2);
        ProverbCollection x = new ProverbCollection();
        for (int count = 1; count <= 8; count++) {
            due("token " + count, x.append(64), count);
        }
        due("token 9", x.append(64), -3);
        due("clear", x.clear(), 8);
    }

    private static void tokens() {
        for (int word = 0; word <= 59; word++) {
            int other = word ^ 1;
            ProverbCollection x = Make.with(row(other), row(word), row(word, word));
            Make.pattern(x, word);
            due("the word " + word + " matches itself alone", x.matchedSayings(0), 2);
        }
        for (int slot = 0; slot <= 3; slot++) {
            ProverbCollection x = Make.with(row(59), row(0), row(5, 5), row(5, 6));
            Make.pattern(x, 60 + slot);
            due("token " + (60 + slot) + " matches one word", x.matchedSayings(0), 3);
            for (int other = 0; other <= 3; other++) {
                due("slotWord of token " + (60 + slot), x.slotWord(0, 0, other), other == slot ? 59 : -4);
            }
        }
        ProverbCollection x = Make.with(row(59), row(0), row(5, 6), EIGHT);
        Make.pattern(x, 64);
        due("token 64 matches all", x.matchedSayings(0), 15);
        due("token 64 is no slot", x.slotWord(0, 0, 0), -4);
        due("token 65", x.append(65), -1);
    }

    // ---- edit distance

    private static ProverbCollection oneForEachCost() {
        return Make.with(row(0), row(1), row(40), row(0, 40), row(40, 0));
    }

    private static void costs() {
        ProverbCollection x = oneForEachCost();
        distances(x, "at the beginning", 2, 3, 1, 2);
        for (int cost = 0; cost < 4; cost++) {
            due("initial cost " + cost, x.setCost(cost, 9), new int[] {2, 3, 1, 2}[cost]);
        }
        for (int cost = 0; cost < 4; cost++) {
            for (int value = 1; value <= 9; value++) {
                due("cost " + cost + " set to " + value, x.setCost(cost, value), value == 1 ? 9 : value - 1);
                int[] now = {9, 9, 9, 9};
                now[cost] = value;
                distances(x, "cost " + cost + " being " + value, now[0], now[1], now[2], now[3]);
            }
            due("cost " + cost + " set to 0", x.setCost(cost, 0), -1);
            due("cost " + cost + " set to 10", x.setCost(cost, 10), -1);
        }
    }

    private static void distances(ProverbCollection x, String when, int inserting, int replacing, int stem, int swapping) {
        due("inserting, " + when, x.distance(0, 3), inserting);
        due("removing, " + when, x.distance(3, 0), inserting);
        due("replacing, " + when, x.distance(0, 2), Math.min(replacing, 2 * inserting));
        due("the same stem, " + when, x.distance(0, 1), Math.min(stem, 2 * inserting));
        due("swapping, " + when, x.distance(3, 4), Math.min(swapping, 2 * Math.min(replacing, inserting)));
    }

    private static void least() {
        for (int inserting = 1; inserting <= 9; inserting++) {
            for (int replacing = 1; replacing <= 9; replacing++) {
                ProverbCollection x = oneForEachCost();
                x.setCost(0, inserting);
                x.setCost(1, replacing);
                for (int value = 1; value <= 9; value++) {
                    x.setCost(2, value);
                    x.setCost(3, value);
                    distances(x, "costs " + inserting + ", " + replacing + ", " + value, inserting, replacing, value, value);
                }
            }
        }
        due("nothing to be done", Make.with(EIGHT, EIGHT).distance(0, 1), 0);
    }

    private static void keepOrReplace() {
        for (int index = 0; index < 8; index++) {
            ProverbCollection x = Make.with(EIGHT, Make.changed(EIGHT, index, 35));
            due("another stem at " + index, x.distance(0, 1), 3);
            Make.edits(x, 100 + 11 * index);
            ProverbCollection y = Make.with(EIGHT, Make.changed(EIGHT, index, 4 * index + 3));
            due("the same stem at " + index, y.distance(0, 1), 1);
            Make.edits(y, 100 + 11 * index);
        }
        ProverbCollection x = Make.with(row(7), row(7));
        due("one word, kept", x.distance(0, 1), 0);
        Make.edits(x);
        ProverbCollection y = Make.with(row(7), row(8));
        due("one word, replaced", y.distance(0, 1), 3);
        Make.edits(y, 100);
    }

    private static void remove() {
        for (int index = 0; index < 8; index++) {
            ProverbCollection x = Make.with(EIGHT, Make.without(EIGHT, index));
            due("one removed at " + index, x.distance(0, 1), 2);
            Make.edits(x, 200 + 11 * index);
            ProverbCollection y = Make.with(EIGHT, row(4 * index));
            due("all removed but " + index, y.distance(0, 1), 14);
            int[] list = new int[7];
            for (int step = 0; step < 7; step++) {
                list[step] = step < index ? 200 + 10 * step : 211 + 10 * step;
            }
            Make.edits(y, list);
        }
    }

    private static void insert() {
        for (int index = 0; index < 8; index++) {
            ProverbCollection x = Make.with(Make.without(EIGHT, index), EIGHT);
            due("one inserted at " + index, x.distance(0, 1), 2);
            Make.edits(x, 300 + 11 * index);
            ProverbCollection y = Make.with(row(4 * index), EIGHT);
            due("all inserted but " + index, y.distance(0, 1), 14);
            int[] list = new int[7];
            for (int step = 0; step < 7; step++) {
                list[step] = step < index ? 300 + step : 311 + step;
            }
            Make.edits(y, list);
        }
    }

    private static void swap() {
        for (int index = 0; index < 7; index++) {
            ProverbCollection x = Make.with(EIGHT, Make.swapped(EIGHT, index));
            due("a swap at " + index, x.distance(0, 1), 2);
            Make.edits(x, 400 + 11 * index);
        }
        ProverbCollection all = Make.with(EIGHT, row(4, 0, 12, 8, 20, 16, 28, 24));
        due("four swaps", all.distance(0, 1), 8);
        Make.edits(all, 400, 422, 444, 466);
        ProverbCollection moved = Make.with(row(0, 4), row(12, 16, 4, 0));
        due("a swap behind inserted words", moved.distance(0, 1), 6);
        Make.edits(moved, 300, 301, 402);
        ProverbCollection back = Make.with(row(12, 16, 4, 0), row(0, 4));
        due("a swap behind removed words", back.distance(0, 1), 6);
        Make.edits(back, 200, 210, 420);
    }

    private static void noSwap() {
        noSwapOf(row(0, 4), row(4, 8));
        noSwapOf(row(0, 4), row(8, 0));
        noSwapOf(row(0, 4), row(5, 1));
        noSwapOf(row(0, 4), row(4, 1));
        noSwapOf(row(0, 4), row(5, 0));
        noSwapOf(row(0, 8, 4), row(4, 12, 0));
        noSwapOf(row(0, 4), row(4, 8, 0));
        noSwapOf(row(0, 8, 4), row(4, 0));
        noSwapOf(row(0), row(4, 0));
        noSwapOf(row(0, 4), row(0));
        noSwapOf(row(0), row(4));
        due("no word is swapped twice", costing(row(0, 4, 8), row(4, 8, 0), 2, 3, 1, 1).distance(0, 1), 4);
    }

    /** The cheapest of costs for a swap makes no difference where there is nothing to swap. */
    private static void noSwapOf(int[] a, int[] b) {
        ProverbCollection x = Make.with(a, b);
        x.setCost(3, 1);
        int cheap = x.distance(0, 1);
        x.setCost(3, 9);
        due("no swap of words like " + b[0] + " at the beginning", cheap, x.distance(0, 1));
    }

    private static void countedFromOne() {
        due("behind the first word stands 1", Make.with(row(0, 4), row(0, 8)).editAt(0, 1, 0), 111);
        due("before the first word stands 0", Make.with(row(0, 4), row(8, 4)).editAt(0, 1, 0), 100);
        due("before the eighth word stands 7", Make.with(EIGHT, Make.changed(EIGHT, 7, 32)).editAt(0, 1, 0), 177);
        int[] first = Make.steps(8, 4, 4);
        due("behind the eighth word of A stands 8", Make.with(EIGHT, first).editAt(0, 1, 1), 387);
        due("behind the eighth word of B stands 8", Make.with(first, EIGHT).editAt(0, 1, 1), 278);
    }

    private static void wholeLengths() {
        for (int m = 1; m <= 8; m++) {
            for (int n = 1; n <= 8; n++) {
                ProverbCollection x = Make.with(Make.steps(m, 0, 1), Make.steps(n, 32, 1));
                due("distance of " + m + " and " + n + " words", x.distance(0, 1), 3 * Math.min(m, n) + 2 * Math.abs(m - n));
            }
        }
        ProverbCollection x = Make.with(EIGHT, Make.steps(8, 32, 3), row(0), row(1));
        due("eight words", x.distance(0, 1), 24);
        due("one word behind eight", x.distance(2, 3), 1);
        due("eight words and one", x.distance(1, 2), 17);
        due("one word behind eight and one", x.distance(3, 2), 1);
        for (int cost = 0; cost < 4; cost++) {
            x.setCost(cost, 9);
        }
        due("the greatest distance", x.distance(0, 1), 72);
    }

    private static ProverbCollection costing(int[] a, int[] b, int inserting, int replacing, int stem, int swapping) {
        ProverbCollection x = Make.with(a, b);
        x.setCost(0, inserting);
        x.setCost(1, replacing);
        x.setCost(2, stem);
        x.setCost(3, swapping);
        return x;
    }

    /** In each pair of sayings exactly two steps give D(i, j), at one place. */
    private static void orderOfSteps() {
        Make.edits(costing(row(0, 0), row(0), 2, 3, 1, 2), 200);
        Make.edits(costing(row(0), row(0, 0), 2, 3, 1, 2), 300);
        Make.edits(costing(row(0, 0), row(4), 2, 3, 1, 2), 200, 110);
        Make.edits(costing(row(0), row(4, 4), 2, 3, 1, 2), 300, 101);
        Make.edits(costing(row(0, 1), row(1, 0), 2, 3, 1, 2), 100, 111);
        Make.edits(costing(row(0), row(4), 1, 9, 9, 2), 300, 201);
        Make.edits(costing(row(0, 0, 1), row(1, 0), 2, 3, 1, 1), 100, 222);
        Make.edits(costing(row(0, 4), row(1, 4, 0), 2, 3, 1, 1), 100, 322);
        Make.edits(costing(row(0, 4), row(4, 0), 9, 9, 9, 9), 400);
    }

    private static void listFromTheBeginning() {
        ProverbCollection x = Make.with(row(0, 4, 8, 12, 16), row(1, 12, 8, 16, 40));
        due("an edit of each kind", x.distance(0, 1), 7);
        Make.edits(x, 100, 211, 421, 354);
        ProverbCollection kept = Make.with(EIGHT, EIGHT);
        Make.edits(kept);
        due("nothing in the list of kept words", kept.editAt(0, 1, 0), -4);
        ProverbCollection same = Make.with(EIGHT, Make.steps(8, 1, 4));
        due("words of the same stem are not kept", same.editCount(0, 1), 8);
        ProverbCollection all = costing(EIGHT, Make.steps(8, 32, 3), 1, 9, 9, 9);
        Make.edits(all, 300, 301, 302, 303, 304, 305, 306, 307, 208, 218, 228, 238, 248, 258, 268, 278);
    }

    /** From a to b, all of b but words of a being inserted behind a. */
    private static void similarityOf(int a, int b, int inserting) {
        ProverbCollection x = Make.with(Make.steps(a, 0, 4), Make.steps(b, 0, 4));
        x.setCost(0, inserting);
        float share = (float) (inserting * (b - a)) / (float) (inserting * (a + b));
        due("similarity of " + a + " and " + b + " words", x.similarityBits(0, 1), Float.floatToIntBits(1f - share));
    }

    private static void similarity() {
        due("the same words", Make.with(EIGHT, EIGHT).similarityBits(0, 1), 0x3f800000);
        ProverbCollection x = Make.with(EIGHT, Make.steps(8, 32, 1));
        x.setCost(0, 1);
        due("no word in common", x.similarityBits(0, 1), 0);
        x.setCost(0, 2);
        due("24 of 32", x.similarityBits(0, 1), 0x3e800000);
        due("1/3 is rounded before it is subtracted", Make.with(row(0), row(0, 4)).similarityBits(0, 1), 0x3f2aaaaa);
        for (int a = 1; a <= 8; a++) {
            for (int b = a; b <= 8; b++) {
                similarityOf(a, b, 1 + (3 * a + b) % 9);
            }
        }
        ProverbCollection least = costing(EIGHT, Make.steps(8, 32, 1), 9, 9, 9, 9);
        due("the dearest costs", least.similarityBits(0, 1), 0x3f000000);
    }

    // ---- patterns

    private static void sixPatterns() {
        ProverbCollection x = Make.with(row(1), Make.times(8, 1));
        due("addPattern without tokens", x.addPattern(), -2);
        for (int number = 0; number < 6; number++) {
            due("matchedSayings(" + number + ") before it is there", x.matchedSayings(number), -1);
            due("addPattern", Make.pattern(x, Make.times(number % 2 == 0 ? 1 : 8, 1)), number);
            due("matchedSayings(" + number + ")", x.matchedSayings(number), number % 2 == 0 ? 1 : 2);
        }
        due("a seventh", Make.pattern(x, 1), -3);
        due("matchedSayings(6)", x.matchedSayings(6), -1);
        due("matchedSayings(-1)", x.matchedSayings(-1), -1);
        ProverbCollection y = Make.with(Make.steps(8, 0, 1));
        for (int length = 1; length <= 5; length++) {
            Make.pattern(y, Make.changed(Make.steps(length, 0, 1), length - 1, GAP));
            due("pattern of " + length + " tokens", y.fillings(length - 1, 0), 1);
        }
    }

    private static void fillings(int[] pattern, int[] words, int want) {
        ProverbCollection x = Make.with(words);
        Make.pattern(x, pattern);
        due("fillings of " + pattern.length + " tokens and " + words.length + " words", x.fillings(0, 0), want);
        due("matchedSayings", x.matchedSayings(0), want > 0 ? 1 : 0);
    }

    private static void matching() {
        fillings(row(60, 60), row(7, 7), 1);
        fillings(row(60, 60), row(7, 6), 0);
        fillings(row(63, 5, 63), row(7, 5, 4), 0);
        fillings(row(60, 61), row(7, 7), 1);
        fillings(row(60, 61, 62, 63, 63, 62, 61, 60), row(1, 2, 3, 4, 4, 3, 2, 1), 1);
        fillings(row(60, 61, 62, 63, 63, 62, 61, 60), row(1, 2, 3, 4, 4, 3, 2, 5), 0);
        fillings(row(60), row(7, 7), 0);
        fillings(row(60, 61), row(7), 0);
        fillings(row(7, 60), row(7), 0);
        fillings(row(GAP, 7), row(7), 1);
        fillings(row(7, GAP), row(7), 1);
        fillings(row(7, GAP, 8), row(7, 8), 1);
        fillings(row(7, GAP, 8), row(7, 1, 2, 3, 4, 5, 6, 8), 1);
        fillings(row(7, GAP), row(6), 0);
        fillings(row(GAP, 7), row(7, 6), 0);
        fillings(row(GAP, 7), EIGHT, 0);
        fillings(row(7), row(7, 8), 0);
        fillings(row(7, 8), row(7), 0);
        fillings(row(7), row(6), 0);
        fillings(Make.times(7, GAP), row(7), 1 * 7);
    }

    /** The number of ways to share n words between g gaps. */
    private static int shares(int n, int g) {
        long ways = 1;
        for (int gap = 1; gap < g; gap++) {
            ways = ways * (n + gap) / gap;
        }
        return (int) ways;
    }

    private static void numberOfFillings() {
        for (int gaps = 1; gaps <= 8; gaps++) {
            for (int length = 1; length <= 8; length++) {
                fillings(Make.times(gaps, GAP), Make.times(length, 5), shares(length, gaps));
            }
        }
        fillings(row(60, 61, 62, 63), row(7, 7, 7, 7), 1);
        fillings(row(GAP, 60, GAP), Make.times(8, 7), 8);
        fillings(row(60, GAP, 60, GAP, 60), Make.times(8, 7), 6);
        fillings(row(GAP, 7, GAP), row(8, 8), 0);
        fillings(row(GAP, 60, GAP, 60, GAP), row(1, 2, 1, 2), 2);
    }

    private static void slots(int[] pattern, int[] words, int... want) {
        ProverbCollection x = Make.with(words);
        Make.pattern(x, pattern);
        for (int slot = 0; slot < want.length; slot++) {
            due("slotWord " + slot + " of " + pattern.length + " tokens", x.slotWord(0, 0, slot), want[slot]);
        }
    }

    private static void firstFilling() {
        slots(row(GAP, 60, GAP), row(1, 2, 3), 1, -4, -4, -4);
        slots(row(GAP, 60), row(1, 2, 3), 3);
        slots(row(GAP, 60, GAP, 61, GAP, 62, GAP, 63), Make.steps(8, 1, 1), 1, 2, 3, 8);
        slots(row(GAP, 60, GAP, 61, GAP, 62, GAP), Make.steps(8, 1, 1), 1, 2, 3);
        slots(row(GAP, GAP, GAP, GAP, GAP, 60, GAP), Make.steps(8, 1, 1), 1);
        slots(row(GAP, 60, 9, GAP, 61, GAP), row(1, 2, 9, 3, 9, 4), 2, 3);
        slots(row(60, GAP, 9, 61, GAP), row(1, 2, 9, 3, 9, 4), 1, 3);
        slots(row(60, GAP, 61, GAP, 9, 62), row(1, 2, 9, 3, 9, 4), 1, 2, 4);
        slots(row(GAP, 60, GAP, 60), row(1, 2, 3, 2), 2);
        slots(row(GAP, 60, GAP, 61, 61, GAP), row(1, 2, 3, 3, 2, 2), 1, 3);
    }

    // ---- groups

    /** Eight words at this distance, 0 to 22, from the words 0, 4, 8 and so on. */
    private static int[] atDistance(int distance) {
        int[] words = EIGHT.clone();
        for (int index = 0; index < distance / 3; index++) {
            words[index] = 32 + index;
        }
        for (int index = 0; index < distance % 3; index++) {
            words[7 - index]++;
        }
        return words;
    }

    private static void groupLimit() {
        ProverbCollection first = Make.with(EIGHT, atDistance(3), atDistance(4));
        due("groups by the initial limit", first.groupCount(), 2);
        due("groupOf at the distance 3", first.groupOf(1), 0);
        due("groupOf at the distance 4", first.groupOf(2), 1);
        due("the initial limit", first.setLimit(0), 3);
        due("limit -1", first.setLimit(-1), -1);
        due("limit 21", first.setLimit(21), -1);
        due("limit 20", first.setLimit(20), 0);
        due("the limit that stands", first.setLimit(20), 20);
    }

    private static void membersByTheLimit() {
        for (int limit = 0; limit <= 20; limit++) {
            ProverbCollection x = Make.with(EIGHT, atDistance(limit), atDistance(limit + 1));
            due("distance " + limit, x.distance(0, 1), limit);
            due("distance " + (limit + 1), x.distance(0, 2), limit + 1);
            x.setLimit(limit);
            due("groupOf at the limit " + limit, x.groupOf(1), 0);
            due("groupOf beyond the limit " + limit, x.groupOf(2), 1);
        }
    }

    private static void fromTheOldest() {
        membersByTheLimit();
        ProverbCollection x = new ProverbCollection();
        Make.saying(x, 5, 0, 0, 4, 8);
        Make.saying(x, 4, 0, 0, 4, 9);
        Make.saying(x, 4, 0, 0, 5, 9);
        Make.saying(x, 4, 0, 1, 5, 9);
        x.setLimit(1);
        due("groups of a chain", x.groupCount(), 2);
        due("the oldest with the lowest number", x.centreOf(0), 1);
        due("a younger one near the centre", x.groupOf(0), 0);
        due("one of the same year near the centre", x.groupOf(2), 0);
        due("near a member, not the centre", x.groupOf(3), 1);
        Make.saying(x, 6, 0, 1, 5, 8);
        Make.saying(x, 7, 0, 2, 5, 9);
        due("nearer to the second centre", x.groupOf(5), 1);
        Make.saying(x, 8, 0, 1, 4, 9);
        due("as near to both centres: the older group", x.groupOf(6), 0);
        ProverbCollection alone = Make.with(row(1));
        due("a single one", alone.groupCount(), 1);
        due("no saying, no group", new ProverbCollection().groupCount(), 0);
    }

    private static void numbersOfGroups() {
        ProverbCollection x = new ProverbCollection();
        for (int number = 0; number < 12; number++) {
            Make.saying(x, 100 - number, 0, 4 * number);
        }
        x.setLimit(2);
        due("twelve groups", x.groupCount(), 12);
        for (int number = 0; number < 12; number++) {
            due("groupOf(" + number + ")", x.groupOf(number), 11 - number);
            due("centreOf(" + number + ")", x.centreOf(number), 11 - number);
        }
        due("centreOf(12)", x.centreOf(12), -4);
        due("centreOf(-1)", x.centreOf(-1), -1);
    }

    // ---- crossings

    private static int costOf(int[] s, int[] a, int[] b) {
        return Make.with(s, a, b).crossingCost(0, 1, 2);
    }

    private static int[] blend(int[] a, int k, int[] b, int n) {
        int[] words = new int[k + n];
        System.arraycopy(a, 0, words, 0, k);
        System.arraycopy(b, b.length - n, words, k, n);
        return words;
    }

    private static void blends() {
        for (int m = 2; m <= 8; m++) {
            for (int length = 2; length <= 8; length++) {
                blendsOf(Make.steps(m, 0, 1), Make.steps(length, 20, 1));
            }
        }
    }

    /** With all costs 9, S being A's and B's words, a distance 0 comes by the very blend alone. */
    private static void blendsOf(int[] a, int[] b) {
        for (int k = 0; k <= a.length; k++) {
            for (int n = 0; n <= b.length; n++) {
                if (k + n >= 1 && k + n <= 8) {
                    boolean allowed = k >= 1 && k < a.length && n >= 1 && n < b.length;
                    int cost = costOf(blend(a, k, b, n), a, b);
                    due("blend of " + k + " of " + a.length + " and " + n + " of " + b.length, cost == 0 ? 1 : 0, allowed ? 1 : 0);
                }
            }
        }
    }

    /** S has eight words of a blend of nine, from which one inserted word would lead back to it. */
    private static void noBlendOfNine() {
        int[] a = Make.steps(8, 0, 4);
        int[] b = {33, 34, 32, 36, 40, 44, 48, 52};
        int[] want = {4, 4, 4, 2, 0, 0, 2, 4, 4};
        for (int index = 0; index < 9; index++) {
            int[] s = Make.without(blend(a, 5, b, 4), index);
            due("nine words without number " + index, costOf(s, a, b), want[index]);
        }
        due("eight of eight words", costOf(blend(a, 4, b, 4), a, b), 0);
    }

    private static void crossingCosts() {
        due("one word in A", costOf(row(0, 9), row(0), row(8, 9)), -4);
        due("one word in B", costOf(row(0, 9), row(0, 4), row(9)), -4);
        due("one word in both", costOf(row(0, 9), row(0), row(9)), -4);
        due("eight words in A, one in B", costOf(row(0, 9), EIGHT, row(9)), -4);
        due("two words in both", costOf(row(0, 9), row(0, 4), row(8, 9)), 0);
        due("two words in both, S of eight", costOf(Make.times(8, 40), row(0, 4), row(8, 9)), 18);
        due("one word in S", costOf(row(0), row(0, 4), row(8, 9)), 2);
        due("the least of several", costOf(row(0, 4, 24, 28), row(0, 4, 8), row(20, 24, 28)), 0);
        due("the words of A again", costOf(row(0, 4), row(0, 4), row(0, 4)), 0);
    }

    private static void allSayings() {
        Sentences.under("Words and sayings");
        Sentences.test("Words are written as numbers from 0 to 59.", DescriptionTest::words);
        Sentences.test("Two words w and v have the same stem if w / 4 equals v / 4 (integer division).",
            DescriptionTest::stems);
        Sentences.test("There are at most 12 sayings, numbered from 0.", DescriptionTest::twelveSayings);
        Sentences.test("A saying is a sequence of 1 to 8 words; it has the year of its first record (-3000 to 2100) and a "
            + "region (0 to 9).", DescriptionTest::aSaying);
        Sentences.test("If a saying is removed, the sayings with higher numbers get a number that is lower by one.",
            DescriptionTest::numbersBehindARemovedOne);
        Sentences.test("A saying is older than another one if its year is lower, or if the years are equal and its number "
            + "is lower.", DescriptionTest::older);
        Sentences.test("There is a token buffer, which contains 0 to 8 tokens and is initially empty.",
            DescriptionTest::tokenBuffer);
        Sentences.test("Tokens 0 to 59 are words, tokens 60 to 63 are the slots 0 to 3, and token 64 is a gap.",
            DescriptionTest::tokens);
    }

    private static void allDistances() {
        Sentences.under("Edit distance");
        Sentences.test("There are four costs, each from 1 to 9: for inserting or removing a word (initially 2), for "
            + "replacing a word by one with another stem (initially 3), for replacing a word by a different one with the "
            + "same stem (initially 1), and for swapping two neighbouring words (initially 2).", DescriptionTest::costs);
        Sentences.test("For two sequences A and B let D(i, j) be defined for the first i words of A and the first j words "
            + "of B: D(0, 0) is 0; otherwise D(i, j) is the least one of the following, as far as they exist:",
            DescriptionTest::least);
        Sentences.test("KEEP or REPLACE D(i - 1, j - 1), plus the cost of replacing word i of A by word j of B (0 if they "
            + "are equal), if i and j are at least 1", DescriptionTest::keepOrReplace);
        Sentences.test("REMOVE D(i - 1, j) plus the cost of removing, if i is at least 1", DescriptionTest::remove);
        Sentences.test("INSERT D(i, j - 1) plus the cost of inserting, if j is at least 1", DescriptionTest::insert);
        Sentences.test("SWAP D(i - 2, j - 2) plus the cost of swapping, if i and j are at least 2, word i of A equals word "
            + "j - 1 of B, and word i - 1 of A equals word j of B", () -> {
                swap();
                noSwap();
            });
        Sentences.test("(Here words are counted from 1.)", DescriptionTest::countedFromOne);
        Sentences.test("The edit distance of A and B is D(m, n), where m and n are their lengths.",
            DescriptionTest::wholeLengths);
        Sentences.test("The edit list of A and B is found from the end: beginning with i = m and j = n, the first step in "
            + "the order above (KEEP or REPLACE, REMOVE, INSERT, SWAP) that gives D(i, j) is chosen, and i and j become "
            + "those of its predecessor, until both are 0.", DescriptionTest::orderOfSteps);
        Sentences.test("The list contains all chosen steps but those that keep a word, in the order from the beginning of "
            + "the sequences to the end.", DescriptionTest::listFromTheBeginning);
        Sentences.test("The similarity of two sayings is 1 - q, where q is their edit distance as float, divided by the "
            + "float of the product of the cost of inserting or removing and the sum of their lengths; all of this is "
            + "computed with floats.", DescriptionTest::similarity);
    }

    private static void allPatterns() {
        Sentences.under("Patterns");
        Sentences.test("There are at most 6 patterns, numbered from 0, each a sequence of 1 to 8 tokens.",
            DescriptionTest::sixPatterns);
        Sentences.test("A pattern matches a saying if a word can be chosen for each slot, the same one wherever the slot "
            + "occurs, and a sequence of zero or more words for each gap, so that the pattern becomes the saying.",
            DescriptionTest::matching);
        Sentences.test("A filling is such a choice; two fillings are different if the lengths of the sequences for some "
            + "gap are different.", DescriptionTest::numberOfFillings);
        Sentences.test("The first filling is the one in which the sequence of the first gap is shortest, of several the "
            + "one in which that of the second gap is shortest, and so on.", DescriptionTest::firstFilling);
    }

    private static void allGroups() {
        Sentences.under("Groups");
        Sentences.test("There is a group limit, from 0 to 20, initially 3.", DescriptionTest::groupLimit);
        Sentences.test("The groups are made from the oldest saying to the youngest: a saying that does not belong to a "
            + "group yet becomes the centre of a new group, and each younger saying that does not belong to a group yet "
            + "joins this group if its edit distance from the centre is at most the group limit.",
            DescriptionTest::fromTheOldest);
        Sentences.test("Groups are numbered from 0 in the order in which they are made.", DescriptionTest::numbersOfGroups);
    }

    private static void allCrossings() {
        Sentences.under("Crossings");
        Sentences.test("For three different sayings S, A and B, a blend of A and B consists of the first k words of A and "
            + "the last n words of B behind them, where k is at least 1 and less than the length of A, n is at least 1 and "
            + "less than the length of B, and k + n is at most 8.", () -> {
                blends();
                noBlendOfNine();
            });
        Sentences.test("The crossing cost of S by A and B is the least edit distance of S and any such blend; it does not "
            + "exist if there is no blend.", DescriptionTest::crossingCosts);
    }

    public static void main(String[] args) {
        allSayings();
        allDistances();
        allPatterns();
        allGroups();
        allCrossings();
        Sentences.complete("### Words and sayings", "### Edits and errors");
        Sentences.close();
    }
}
