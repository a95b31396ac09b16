/** At least one test for each promise: ordinary inputs, the edges that the document names, and wrong inputs. */
public final class PromisesTest {
    private static final int MIN = Integer.MIN_VALUE;
    private static final int MAX = Integer.MAX_VALUE;
    private static final int GAP = 64;
    private static int wrong = 0;

    private static void due(String call, int got, int want) {
        if (got != want) {
            wrong++;
            System.out.println(call + " answered " + got + ", due is " + want);
        }
    }

    private static void fill(ProverbCollection x, int... tokens) {
        x.clear();
        for (int token : tokens) {
            x.append(token);
        }
    }

    private static int saying(ProverbCollection x, int year, int region, int... words) {
        fill(x, words);
        return x.addSaying(year, region);
    }

    private static int pattern(ProverbCollection x, int... tokens) {
        fill(x, tokens);
        return x.addPattern();
    }

    private static void words(String test, ProverbCollection x, int saying, int... words) {
        due(test + ": lengthOf", x.lengthOf(saying), words.length);
        for (int index = 0; index < words.length; index++) {
            due(test + ": wordAt " + index, x.wordAt(saying, index), words[index]);
        }
        due(test + ": wordAt behind the end", x.wordAt(saying, words.length), -4);
    }

    private static void edits(String test, ProverbCollection x, int a, int b, int... list) {
        due(test + ": editCount", x.editCount(a, b), list.length);
        for (int index = 0; index < list.length; index++) {
            due(test + ": editAt " + index, x.editAt(a, b, index), list[index]);
        }
        due(test + ": editAt behind the end", x.editAt(a, b, list.length), -4);
    }

    /** A collection with one saying for each row of words; the years rise. */
    private static ProverbCollection with(int[]... sayings) {
        ProverbCollection x = new ProverbCollection();
        for (int number = 0; number < sayings.length; number++) {
            saying(x, number, 0, sayings[number]);
        }
        return x;
    }

    private static ProverbCollection full() {
        ProverbCollection x = new ProverbCollection();
        for (int number = 0; number < 12; number++) {
            due("full: addSaying " + number, saying(x, number, number % 10, number), number);
        }
        return x;
    }

    private static void promise1NewObject() {
        ProverbCollection x = new ProverbCollection();
        due("1: sayingCount", x.sayingCount(), 0);
        due("1: no pattern", x.removePattern(0), -1);
        due("1: groupCount", x.groupCount(), 0);
        due("1: undo", x.undo(), -2);
        due("1: clear", x.clear(), 0);
        due("1: cost of inserting", x.setCost(0, 5), 2);
        due("1: cost of replacing", x.setCost(1, 5), 3);
        due("1: cost of the same stem", x.setCost(2, 5), 1);
        due("1: cost of swapping", x.setCost(3, 5), 2);
        due("1: limit", x.setLimit(5), 3);
        ProverbCollection other = new ProverbCollection();
        due("1: objects share nothing", other.setCost(0, 5), 2);
    }

    private static void promise2Append() {
        ProverbCollection x = new ProverbCollection();
        due("2: -1", x.append(-1), -1);
        due("2: 65", x.append(65), -1);
        due("2: least int", x.append(MIN), -1);
        due("2: greatest int", x.append(MAX), -1);
        due("2: 0", x.append(0), 1);
        due("2: 59", x.append(59), 2);
        due("2: 60", x.append(60), 3);
        due("2: 63", x.append(63), 4);
        due("2: 64", x.append(64), 5);
        for (int count = 6; count <= 8; count++) {
            due("2: token " + count, x.append(1), count);
        }
        due("2: full", x.append(1), -3);
        due("2: full and out of range", x.append(65), -1);
        due("2: the buffer stays as it was", x.clear(), 8);
    }

    private static void promise3Clear() {
        ProverbCollection x = new ProverbCollection();
        due("3: empty", x.clear(), 0);
        fill(x, 1, 60, 64);
        due("3: three", x.clear(), 3);
        due("3: again", x.clear(), 0);
        due("3: append after clear", x.append(7), 1);
        x.addSaying(0, 0);
        words("3: nothing is left over", x, 0, 7);
        fill(x, 1, 2, 3, 4, 5, 6, 7, 8);
        due("3: full", x.clear(), 8);
    }

    private static void promise4AddSaying() {
        ProverbCollection x = new ProverbCollection();
        fill(x, 5, 6);
        due("4: year too early", x.addSaying(-3001, 0), -1);
        due("4: year too late", x.addSaying(2101, 0), -1);
        due("4: region too low", x.addSaying(0, -1), -1);
        due("4: region too high", x.addSaying(0, 10), -1);
        due("4: far out", x.addSaying(MIN, MAX), -1);
        due("4: earliest year", x.addSaying(-3000, 0), 0);
        due("4: the buffer is empty", x.clear(), 0);
        due("4: latest year", saying(x, 2100, 9, 0, 59, 0, 59, 0, 59, 0, 59), 1);
        words("4: eight words", x, 1, 0, 59, 0, 59, 0, 59, 0, 59);
        words("4: two words", x, 0, 5, 6);
        due("4: empty buffer", x.addSaying(0, 0), -2);
        due("4: empty buffer and bad year", x.addSaying(2101, 0), -1);
        due("4: slot 0", saying(x, 0, 0, 1, 60), -2);
        due("4: slot 3", saying(x, 0, 0, 63, 1), -2);
        due("4: gap", saying(x, 0, 0, 1, GAP, 2), -2);
        due("4: the buffer stays as it was", x.clear(), 3);
        due("4: the age is that of the year", x.byAge(0), 0);
        due("4: sayingCount", x.sayingCount(), 2);
    }

    private static void promise4TwelveSayings() {
        ProverbCollection x = full();
        due("4: thirteenth", saying(x, 0, 0, 1), -3);
        due("4: the buffer stays as it was", x.clear(), 1);
        due("4: full and empty buffer", x.addSaying(0, 0), -2);
        due("4: full and slot", saying(x, 0, 0, 60), -2);
        due("4: full and bad region", saying(x, 0, 10, 1), -1);
        due("4: sayingCount", x.sayingCount(), 12);
        due("4: a refused one is no change", x.undo(), 4);
        due("4: the twelfth is undone", x.sayingCount(), 11);
        due("4: room again, for eight words", saying(x, 0, 0, 1, 2, 3, 4, 5, 6, 7, 8), 11);
        words("4: the twelfth with eight words", x, 11, 1, 2, 3, 4, 5, 6, 7, 8);
    }

    private static void promise5RemoveSaying() {
        ProverbCollection x = new ProverbCollection();
        due("5: none", x.removeSaying(0), -1);
        saying(x, 15, 1, 1, 2, 3);
        saying(x, 20, 2, 4);
        saying(x, 10, 3, 5, 6);
        due("5: negative", x.removeSaying(-1), -1);
        due("5: too high", x.removeSaying(3), -1);
        due("5: least int", x.removeSaying(MIN), -1);
        due("5: greatest int", x.removeSaying(MAX), -1);
        due("5: middle", x.removeSaying(1), 2);
        words("5: before it", x, 0, 1, 2, 3);
        words("5: behind it", x, 1, 5, 6);
        due("5: the years move along", x.byAge(0), 1);
        due("5: first", x.removeSaying(0), 1);
        words("5: the rest", x, 0, 5, 6);
        due("5: last", x.removeSaying(0), 0);
        due("5: none left", x.lengthOf(0), -1);
        due("5: the buffer is not touched", x.append(1), 1);
    }

    private static void promise5Regions() {
        ProverbCollection x = new ProverbCollection();
        x.setLimit(20);
        saying(x, 1, 1, 1);
        saying(x, 2, 2, 1);
        saying(x, 3, 2, 1);
        due("5: two regions", x.groupInfo(0, 1), 2);
        x.removeSaying(0);
        due("5: the regions move along", x.groupInfo(0, 1), 1);
    }

    private static void promise6SayingCount() {
        ProverbCollection x = full();
        due("6: twelve", x.sayingCount(), 12);
        x.removeSaying(11);
        due("6: eleven", x.sayingCount(), 11);
        x.undo();
        due("6: twelve again", x.sayingCount(), 12);
        pattern(x, 1);
        due("6: patterns do not count", x.sayingCount(), 12);
    }

    private static void promise7LengthOf() {
        ProverbCollection x = with(new int[] {1}, new int[] {1, 2, 3, 4, 5, 6, 7, 8});
        due("7: one", x.lengthOf(0), 1);
        due("7: eight", x.lengthOf(1), 8);
        due("7: too high", x.lengthOf(2), -1);
        due("7: negative", x.lengthOf(-1), -1);
        due("7: least int", x.lengthOf(MIN), -1);
        due("7: greatest int", x.lengthOf(MAX), -1);
    }

    private static void promise8WordAt() {
        ProverbCollection x = with(new int[] {9, 0, 59}, new int[] {4});
        words("8", x, 0, 9, 0, 59);
        words("8", x, 1, 4);
        due("8: index 8", x.wordAt(0, 8), -4);
        due("8: greatest index", x.wordAt(0, MAX), -4);
        due("8: negative index", x.wordAt(0, -1), -1);
        due("8: least index", x.wordAt(0, MIN), -1);
        due("8: too high", x.wordAt(2, 0), -1);
        due("8: negative", x.wordAt(-1, 0), -1);
        due("8: no saying and far index", x.wordAt(2, 99), -1);
    }

    private static void promise9ByAge() {
        ProverbCollection x = new ProverbCollection();
        due("9: none", x.byAge(0), -4);
        due("9: none and negative", x.byAge(-1), -1);
        saying(x, 5, 0, 1);
        saying(x, -3000, 0, 1);
        saying(x, 5, 0, 1);
        saying(x, 2100, 0, 1);
        saying(x, -1, 0, 1);
        int[] order = {1, 4, 0, 2, 3};
        for (int place = 0; place < order.length; place++) {
            due("9: place " + place, x.byAge(place), order[place]);
        }
        due("9: behind the youngest", x.byAge(5), -4);
        saying(x, 0, 0, 1);
        int[] longer = {1, 4, 5, 0, 2, 3};
        for (int place = 0; place < longer.length; place++) {
            due("9: with one more, place " + place, x.byAge(place), longer[place]);
        }
        due("9: behind the youngest of six", x.byAge(6), -4);
        due("9: greatest int", x.byAge(MAX), -4);
        due("9: negative", x.byAge(-1), -1);
        due("9: least int", x.byAge(MIN), -1);
    }

    private static void promise10SetCost() {
        ProverbCollection x = with(new int[] {0}, new int[] {1}, new int[] {4}, new int[] {0, 4}, new int[] {4, 0});
        due("10: cost -1", x.setCost(-1, 1), -1);
        due("10: cost 4", x.setCost(4, 1), -1);
        due("10: value 0", x.setCost(0, 0), -1);
        due("10: value 10", x.setCost(0, 10), -1);
        due("10: far out", x.setCost(MAX, 1), -1);
        due("10: far out below", x.setCost(0, MIN), -1);
        due("10: inserting", x.setCost(ProverbCollection.INSERTING, 9), 2);
        due("10: replacing", x.setCost(ProverbCollection.REPLACING, 8), 3);
        due("10: same stem", x.setCost(ProverbCollection.SAME_STEM, 7), 1);
        due("10: swapping", x.setCost(ProverbCollection.SWAPPING, 6), 2);
        due("10: distance by inserting", x.distance(0, 3), 9);
        due("10: distance by removing", x.distance(3, 0), 9);
        due("10: distance by replacing", x.distance(0, 2), 8);
        due("10: distance by the same stem", x.distance(0, 1), 7);
        due("10: distance by swapping", x.distance(3, 4), 6);
        due("10: previous value", x.setCost(0, 1), 9);
        due("10: the same value", x.setCost(0, 1), 1);
    }

    private static void promise11Distance() {
        ProverbCollection x = with(
            new int[] {0, 4, 8}, new int[] {0, 4, 8}, new int[] {3, 4, 8}, new int[] {4, 0, 8}, new int[] {0},
            new int[] {40, 44, 48, 52, 56, 20, 24, 28}, new int[] {0, 4, 8, 12, 16, 21, 25, 29},
            new int[] {4, 8, 0});
        due("11: itself", x.distance(0, 0), 0);
        due("11: the same words", x.distance(0, 1), 0);
        due("11: the same stem", x.distance(0, 2), 1);
        due("11: a swap", x.distance(0, 3), 2);
        due("11: two removed", x.distance(0, 4), 4);
        due("11: two inserted", x.distance(4, 0), 4);
        due("11: eight words", x.distance(5, 6), 18);
        due("11: the other way", x.distance(6, 5), 18);
        due("11: a word goes to the end", x.distance(0, 7), 4);
        due("11: first too high", x.distance(8, 0), -1);
        due("11: second too high", x.distance(0, 8), -1);
        due("11: first negative", x.distance(-1, 0), -1);
        due("11: second negative", x.distance(0, MIN), -1);
        due("11: greatest int", x.distance(MAX, MAX), -1);
        x.setCost(0, 9);
        x.setCost(1, 9);
        x.setCost(2, 9);
        due("11: dearest", x.distance(5, 6), 72);
    }

    private static void promise11Stems() {
        ProverbCollection x = with(new int[] {56}, new int[] {59}, new int[] {55}, new int[] {3}, new int[] {4});
        due("11: 56 and 59", x.distance(0, 1), 1);
        due("11: 55 and 56", x.distance(2, 0), 3);
        due("11: 3 and 4", x.distance(3, 4), 3);
    }

    private static void similarity(String test, ProverbCollection x, int a, int b, float want) {
        due(test, x.similarityBits(a, b), Float.floatToIntBits(want));
    }

    private static void promise12SimilarityBits() {
        ProverbCollection x = with(
            new int[] {0}, new int[] {0}, new int[] {1}, new int[] {40}, new int[] {8, 12, 16, 20, 24, 28, 32, 36});
        similarity("12: itself", x, 0, 0, 1f);
        similarity("12: the same words", x, 0, 1, 1f);
        similarity("12: the same stem", x, 0, 2, 1f - 1f / 4f);
        similarity("12: another stem", x, 0, 3, 1f - 3f / 4f);
        similarity("12: another length", x, 0, 4, 1f - 17f / 18f);
        x.setCost(1, 9);
        similarity("12: nothing in common", x, 0, 3, 0f);
        similarity("12: nothing in common, eight words", x, 4, 0, 0f);
        due("12: first too high", x.similarityBits(5, 0), -1);
        due("12: second too high", x.similarityBits(0, 5), -1);
        due("12: negative", x.similarityBits(-1, 0), -1);
        due("12: second negative", x.similarityBits(0, -1), -1);
    }

    /** A single word against words of another kind, over all costs: shares of many forms. */
    private static void promise12ManyShares() {
        for (int inserting = 1; inserting <= 9; inserting++) {
            // one object for each, since nothing is promised behind 512 calls
            ProverbCollection x = with(new int[] {0, 4, 8}, new int[] {1}, new int[] {40, 5}, new int[] {2, 6, 10, 14, 18});
            x.setCost(0, inserting);
            for (int replacing = 1; replacing <= 9; replacing++) {
                x.setCost(1, replacing);
                for (int a = 0; a < 4; a++) {
                    int b = (a + replacing) % 4;
                    float share = (float) x.distance(a, b) / (float) (inserting * (x.lengthOf(a) + x.lengthOf(b)));
                    if (inserting * replacing % 7 == a) {
                        similarity("12: costs " + inserting + " and " + replacing, x, a, b, 1f - share);
                    }
                }
            }
        }
    }

    private static void promise13EditCount() {
        ProverbCollection x = with(new int[] {0, 4}, new int[] {1, 5}, new int[] {4, 0}, new int[] {0, 4, 8, 12},
            new int[] {20, 24, 28, 32, 36, 40, 44, 48}, new int[] {0, 4, 8, 12, 16, 52, 56, 2});
        due("13: itself", x.editCount(0, 0), 0);
        due("13: two replaced", x.editCount(0, 1), 2);
        due("13: a swap is one", x.editCount(0, 2), 1);
        due("13: two inserted", x.editCount(0, 3), 2);
        due("13: eight replaced", x.editCount(4, 5), 8);
        x.setCost(0, 1);
        due("13: eight removed and eight inserted", x.editCount(4, 5), 16);
        due("13: first too high", x.editCount(6, 0), -1);
        due("13: second too high", x.editCount(0, 6), -1);
        due("13: negative", x.editCount(-1, 0), -1);
        due("13: second negative", x.editCount(0, MIN), -1);
    }

    private static void promise14EditAt() {
        ProverbCollection x = with(new int[] {0, 4, 8}, new int[] {1, 8, 4}, new int[] {0, 4}, new int[] {4, 8});
        edits("14: itself", x, 0, 0);
        edits("14: replaced, then swapped", x, 0, 1, 100, 411);
        edits("14: last removed", x, 0, 2, 222);
        edits("14: first removed", x, 0, 3, 200);
        edits("14: last inserted", x, 2, 0, 322);
        edits("14: first inserted", x, 3, 0, 300);
        due("14: negative index", x.editAt(0, 1, -1), -1);
        due("14: least index", x.editAt(0, 1, MIN), -1);
        due("14: greatest index", x.editAt(0, 1, MAX), -4);
        due("14: first too high", x.editAt(4, 0, 0), -1);
        due("14: second too high", x.editAt(0, 4, 0), -1);
        due("14: negative", x.editAt(-1, 0, 0), -1);
        due("14: no saying and far index", x.editAt(0, 4, 99), -1);
    }

    private static void promise14OrderOfSteps() {
        ProverbCollection x = with(new int[] {0}, new int[] {8}, new int[] {0, 0}, new int[] {1, 9}, new int[] {9, 1},
            new int[] {0, 1}, new int[] {1, 0});
        x.setCost(1, 4);
        edits("14: REPLACE before REMOVE", x, 0, 1, 100);
        edits("14: KEEP before REMOVE", x, 2, 0, 200);
        edits("14: KEEP before INSERT", x, 0, 2, 300);
        edits("14: REPLACE before SWAP", x, 5, 6, 100, 111);
        x.setCost(1, 9);
        edits("14: REMOVE before INSERT", x, 0, 1, 300, 201);
        x.setCost(3, 4);
        edits("14: REMOVE before SWAP", x, 3, 4, 300, 212);
        x.setCost(3, 3);
        edits("14: SWAP", x, 3, 4, 400);
    }

    private static void promise14SixteenEdits() {
        ProverbCollection x = with(new int[] {20, 24, 28, 32, 36, 40, 44, 48}, new int[] {0, 4, 8, 12, 16, 52, 56, 2});
        x.setCost(0, 1);
        for (int index = 0; index < 8; index++) {
            due("14: inserted " + index, x.editAt(0, 1, index), 300 + index);
            due("14: removed " + index, x.editAt(0, 1, 8 + index), 208 + 10 * index);
        }
        due("14: behind sixteen", x.editAt(0, 1, 16), -4);
    }

    private static void promise15Nearest() {
        ProverbCollection x = new ProverbCollection();
        due("15: none", x.nearest(0), -1);
        saying(x, 50, 0, 0, 4);
        due("15: the only one", x.nearest(0), -4);
        due("15: negative", x.nearest(-1), -1);
        due("15: too high", x.nearest(1), -1);
        saying(x, 40, 0, 0, 5);
        saying(x, 30, 0, 1, 4);
        saying(x, 20, 0, 40, 44);
        saying(x, 30, 0, 2, 4);
        due("15: of several the oldest", x.nearest(0), 2);
        due("15: seen from another one", x.nearest(1), 0);
        due("15: of equal years the lower number", x.nearest(4), 2);
        due("15: all far away", x.nearest(3), 2);
        due("15: greatest int", x.nearest(MAX), -1);
        saying(x, -9, 0, 0, 4);
        due("15: the oldest of all", x.nearest(0), 5);
        due("15: it finds another one", x.nearest(5), 0);
        ProverbCollection all = full();
        due("15: twelve sayings", all.nearest(0), 1);
        due("15: the last of twelve", all.nearest(11), 8);
    }

    private static void promise16AddPattern() {
        ProverbCollection x = new ProverbCollection();
        due("16: empty buffer", x.addPattern(), -2);
        due("16: words", pattern(x, 1, 2), 0);
        due("16: the buffer is empty", x.clear(), 0);
        due("16: slots and gaps", pattern(x, 60, 61, 62, 63, GAP, GAP, 0, 59), 1);
        for (int number = 2; number < 6; number++) {
            due("16: pattern " + number, pattern(x, 1), number);
        }
        due("16: seventh", pattern(x, 1, 2, 3), -3);
        due("16: the buffer stays as it was", x.clear(), 3);
        due("16: full and empty buffer", x.addPattern(), -2);
        due("16: a refused one is no change", x.undo(), 4);
        due("16: room again, for eight tokens", pattern(x, 5, GAP, GAP, GAP, GAP, GAP, GAP, GAP), 5);
        saying(x, 0, 0, 5);
        due("16: the new one counts", x.matchedSayings(5), 1);
    }

    private static void promise17RemovePattern() {
        ProverbCollection x = with(new int[] {1}, new int[] {2}, new int[] {3, 3});
        due("17: none", x.removePattern(0), -1);
        pattern(x, 1);
        pattern(x, 2);
        pattern(x, 3, 60);
        due("17: negative", x.removePattern(-1), -1);
        due("17: too high", x.removePattern(3), -1);
        due("17: greatest int", x.removePattern(MAX), -1);
        due("17: middle", x.removePattern(1), 2);
        due("17: before it", x.matchedSayings(0), 1);
        due("17: behind it", x.matchedSayings(1), 4);
        due("17: first", x.removePattern(0), 1);
        due("17: the rest", x.matchedSayings(0), 4);
        due("17: last", x.removePattern(0), 0);
        due("17: none left", x.matchedSayings(0), -1);
        due("17: sayings stay", x.sayingCount(), 3);
    }

    private static void fillings(String test, int[] pattern, int[] words, int want) {
        ProverbCollection x = with(words);
        pattern(x, pattern);
        due(test, x.fillings(0, 0), want);
        due(test + ", as a set", x.matchedSayings(0), want > 0 ? 1 : 0);
    }

    private static void promise18Fillings() {
        fillings("18: the same words", new int[] {1, 2}, new int[] {1, 2}, 1);
        fillings("18: too short", new int[] {1, 2}, new int[] {1, 2, 3}, 0);
        fillings("18: too long", new int[] {1, 2, 3}, new int[] {1, 2}, 0);
        fillings("18: the same stem is not enough", new int[] {1}, new int[] {2}, 0);
        fillings("18: a slot", new int[] {60}, new int[] {7}, 1);
        fillings("18: a slot twice", new int[] {60, 60}, new int[] {7, 7}, 1);
        fillings("18: a slot twice, other words", new int[] {60, 60}, new int[] {7, 8}, 0);
        fillings("18: two slots of the same word", new int[] {60, 63}, new int[] {7, 7}, 1);
        fillings("18: a slot is not empty", new int[] {1, 61}, new int[] {1}, 0);
        fillings("18: a gap of no words", new int[] {1, GAP, 2}, new int[] {1, 2}, 1);
        fillings("18: a gap of all words", new int[] {GAP}, new int[] {1, 2, 3, 4, 5, 6, 7, 8}, 1);
        fillings("18: two gaps", new int[] {GAP, GAP}, new int[] {1, 2, 3, 4, 5, 6, 7, 8}, 9);
        fillings("18: a word between gaps", new int[] {GAP, 1, GAP}, new int[] {1, 2, 1, 1}, 3);
        fillings("18: a slot between gaps", new int[] {GAP, 60, GAP}, new int[] {1, 2, 1, 1}, 4);
        fillings("18: a slot twice with gaps", new int[] {60, GAP, 60, GAP}, new int[] {1, 2, 1, 1}, 2);
        fillings("18: slots tried again", new int[] {GAP, 60, 61, GAP, 60}, new int[] {1, 2, 3, 2}, 1);
        fillings("18: eight gaps", new int[] {GAP, GAP, GAP, GAP, GAP, GAP, GAP, GAP},
            new int[] {1, 1, 1, 1, 1, 1, 1, 1}, 6435);
    }

    private static void promise18WrongInputs() {
        ProverbCollection x = with(new int[] {1});
        due("18: no pattern", x.fillings(0, 0), -1);
        pattern(x, 1);
        due("18: pattern too high", x.fillings(1, 0), -1);
        due("18: pattern negative", x.fillings(-1, 0), -1);
        due("18: saying too high", x.fillings(0, 1), -1);
        due("18: saying negative", x.fillings(0, MIN), -1);
        due("18: pattern greatest int", x.fillings(MAX, 0), -1);
    }

    private static void promise19SlotWord() {
        ProverbCollection x = with(new int[] {5, 6, 5, 0}, new int[] {9}, new int[] {1, 2, 1, 2});
        pattern(x, GAP, 60, GAP, 63, GAP);
        due("19: the first gap is shortest", x.slotWord(0, 0, 0), 5);
        due("19: then the second", x.slotWord(0, 0, 3), 6);
        due("19: a slot that is not there", x.slotWord(0, 0, 1), -4);
        due("19: does not match", x.slotWord(0, 1, 0), -4);
        pattern(x, GAP, 60, GAP, 60);
        due("19: a gap that must not be empty", x.slotWord(1, 2, 0), 2);
        pattern(x, 60, 61, 62, 63);
        due("19: slot 0", x.slotWord(2, 0, 0), 5);
        due("19: slot 1", x.slotWord(2, 0, 1), 6);
        due("19: slot 2", x.slotWord(2, 0, 2), 5);
        due("19: word 0 in slot 3", x.slotWord(2, 0, 3), 0);
        pattern(x, GAP, 62, GAP, 0);
        due("19: the last word is fixed", x.slotWord(3, 0, 2), 5);
        pattern(x, 5, 61, 60, 60);
        due("19: slots of a failed try are no answer", x.slotWord(4, 0, 1), -4);
        due("19: slot negative", x.slotWord(0, 0, -1), -1);
        due("19: slot 4", x.slotWord(0, 0, 4), -1);
        due("19: slot 4 and no match", x.slotWord(0, 1, 4), -1);
        due("19: slot greatest int", x.slotWord(0, 0, MAX), -1);
        due("19: pattern too high", x.slotWord(5, 0, 0), -1);
        due("19: pattern negative", x.slotWord(-1, 0, 0), -1);
        due("19: saying too high", x.slotWord(0, 3, 0), -1);
        due("19: saying negative", x.slotWord(0, -1, 0), -1);
    }

    private static void promise20MatchedSayings() {
        ProverbCollection x = full();
        due("20: no pattern", x.matchedSayings(0), -1);
        pattern(x, GAP);
        pattern(x, 11);
        pattern(x, 60, 60);
        due("20: all", x.matchedSayings(0), 4095);
        due("20: the last", x.matchedSayings(1), 2048);
        due("20: none", x.matchedSayings(2), 0);
        due("20: negative", x.matchedSayings(-1), -1);
        due("20: too high", x.matchedSayings(3), -1);
        due("20: least int", x.matchedSayings(MIN), -1);
        x.removeSaying(0);
        due("20: the set moves along", x.matchedSayings(1), 1024);
    }

    private static void promise21BestPattern() {
        ProverbCollection x = with(new int[] {1, 2, 3}, new int[] {1, 2, 4}, new int[] {9, 9, 9}, new int[] {1});
        due("21: no pattern", x.bestPattern(0), -4);
        due("21: no saying", x.bestPattern(4), -1);
        due("21: negative", x.bestPattern(-1), -1);
        pattern(x, GAP, GAP, 3, GAP);
        due("21: one", x.bestPattern(0), 0);
        due("21: it does not match", x.bestPattern(1), -4);
        pattern(x, 60, 61, 62);
        due("21: a word is more than slots", x.bestPattern(0), 0);
        due("21: slots", x.bestPattern(1), 1);
        pattern(x, 1, GAP);
        due("21: fewer gaps", x.bestPattern(0), 2);
        pattern(x, GAP, 2, 61);
        due("21: of equals the lowest number", x.bestPattern(0), 2);
        pattern(x, GAP, 1, GAP, 2, GAP, GAP, GAP, GAP);
        due("21: words before gaps", x.bestPattern(0), 4);
        pattern(x, 60, 60, 60);
        due("21: slots of equals", x.bestPattern(2), 1);
        due("21: a word and a gap", x.bestPattern(3), 2);
        due("21: greatest int", x.bestPattern(MAX), -1);
        ProverbCollection y = with(new int[] {1, 2, 3});
        pattern(y, GAP, GAP);
        pattern(y, 60, 61, 62);
        due("21: fewer gaps with more slots", y.bestPattern(0), 1);
        pattern(y, 60, 61, 62, GAP);
        due("21: no gap before one", y.bestPattern(0), 1);
        pattern(y, GAP, GAP, GAP, GAP, GAP, GAP, GAP, 3);
        due("21: one word with seven gaps", y.bestPattern(0), 3);
        ProverbCollection z = with(new int[] {1, 2, 3});
        pattern(z, GAP, GAP, GAP, GAP, GAP, GAP, GAP, GAP);
        due("21: nothing but gaps", z.bestPattern(0), 0);
    }

    private static void promise22SetLimit() {
        ProverbCollection x = with(new int[] {0}, new int[] {8});
        due("22: negative", x.setLimit(-1), -1);
        due("22: 21", x.setLimit(21), -1);
        due("22: least int", x.setLimit(MIN), -1);
        due("22: greatest int", x.setLimit(MAX), -1);
        due("22: the first limit groups at 3", x.groupCount(), 1);
        due("22: 2", x.setLimit(2), 3);
        due("22: two groups", x.groupCount(), 2);
        due("22: 0", x.setLimit(0), 2);
        due("22: 20", x.setLimit(20), 0);
        due("22: one group", x.groupCount(), 1);
        due("22: the same limit", x.setLimit(20), 20);
    }

    private static void promise23GroupCount() {
        ProverbCollection x = full();
        due("23: limit 3", x.groupCount(), 1);
        x.setLimit(0);
        due("23: limit 0", x.groupCount(), 12);
        x.setLimit(1);
        due("23: a group for each stem", x.groupCount(), 3);
        x.removeSaying(11);
        x.removeSaying(10);
        x.removeSaying(9);
        x.removeSaying(8);
        due("23: a stem less", x.groupCount(), 2);
        due("23: nothing else has changed", x.sayingCount(), 8);
    }

    /** A chain: each is near its neighbours only, and the oldest one stands in the middle. */
    private static ProverbCollection chain() {
        ProverbCollection x = new ProverbCollection();
        saying(x, 30, 4, 0, 4, 8, 12);
        saying(x, 20, 5, 0, 4, 8, 13);
        saying(x, 10, 4, 0, 4, 9, 13);
        saying(x, 40, 6, 0, 5, 9, 13);
        saying(x, 50, 6, 1, 5, 9, 13);
        x.setLimit(1);
        return x;
    }

    private static void promise24GroupOf() {
        ProverbCollection x = chain();
        due("24: the oldest", x.groupOf(2), 0);
        due("24: near it", x.groupOf(1), 0);
        due("24: near it on the other side", x.groupOf(3), 0);
        due("24: near a member, but not the centre", x.groupOf(0), 1);
        due("24: the youngest", x.groupOf(4), 2);
        due("24: too high", x.groupOf(5), -1);
        due("24: negative", x.groupOf(-1), -1);
        due("24: greatest int", x.groupOf(MAX), -1);
        due("24: empty collection", new ProverbCollection().groupOf(0), -1);
    }

    private static void promise25CentreOf() {
        ProverbCollection x = chain();
        due("25: group 0", x.centreOf(0), 2);
        due("25: group 1", x.centreOf(1), 0);
        due("25: group 2", x.centreOf(2), 4);
        due("25: no such group", x.centreOf(3), -4);
        due("25: more than sayings can be", x.centreOf(12), -4);
        due("25: greatest int", x.centreOf(MAX), -4);
        due("25: negative", x.centreOf(-1), -1);
        due("25: least int", x.centreOf(MIN), -1);
        due("25: empty collection", new ProverbCollection().centreOf(0), -4);
        ProverbCollection same = new ProverbCollection();
        saying(same, 7, 0, 1);
        saying(same, 7, 0, 1);
        due("25: of equal years the lower number", same.centreOf(0), 0);
    }

    private static void promise26GroupInfo() {
        ProverbCollection x = chain();
        due("26: members", x.groupInfo(0, 0), 3);
        due("26: regions", x.groupInfo(0, 1), 3);
        due("26: greatest distance", x.groupInfo(0, 2), 1);
        due("26: a single member", x.groupInfo(1, 0), 1);
        due("26: a single region", x.groupInfo(1, 1), 1);
        due("26: the centre alone", x.groupInfo(1, 2), 0);
        x.setLimit(20);
        due("26: all members", x.groupInfo(0, 0), 5);
        due("26: equal regions count once", x.groupInfo(0, 1), 3);
        due("26: greatest distance of all", x.groupInfo(0, 2), 2);
        due("26: no such group", x.groupInfo(1, 0), -4);
        ProverbCollection y = new ProverbCollection();
        saying(y, 9, 0, 8);
        saying(y, 8, 0, 0);
        saying(y, 7, 0, 1);
        due("26: the first saying is farthest", y.groupInfo(0, 2), 3);
        due("26: no such group, greatest int", x.groupInfo(MAX, 2), -4);
        due("26: group negative", x.groupInfo(-1, 0), -1);
        due("26: what negative", x.groupInfo(0, -1), -1);
        due("26: what 3", x.groupInfo(0, 3), -1);
        due("26: what 3 and no such group", x.groupInfo(9, 3), -1);
        due("26: group negative and what 3", x.groupInfo(MIN, MAX), -1);
    }

    private static void promise26AllRegions() {
        ProverbCollection x = full();
        due("26: twelve members", x.groupInfo(0, 0), 12);
        due("26: ten regions", x.groupInfo(0, 1), 10);
        due("26: farthest", x.groupInfo(0, 2), 3);
    }

    private static void promise27CrossingCost() {
        ProverbCollection x = with(new int[] {0, 4, 8}, new int[] {20, 24, 28}, new int[] {0, 4, 24, 28}, new int[] {50},
            new int[] {0, 28}, new int[] {0, 4, 8, 28});
        due("27: a blend", x.crossingCost(2, 0, 1), 0);
        due("27: the other way round", x.crossingCost(2, 1, 0), 8);
        due("27: the shortest blend", x.crossingCost(4, 0, 1), 0);
        due("27: A is not taken whole", x.crossingCost(5, 0, 1), 2);
        due("27: A has one word", x.crossingCost(0, 3, 1), -4);
        due("27: B has one word", x.crossingCost(0, 1, 3), -4);
        due("27: S may have one word", x.crossingCost(3, 0, 1), 5);
        due("27: S and A the same", x.crossingCost(0, 0, 1), -1);
        due("27: S and B the same", x.crossingCost(0, 1, 0), -1);
        due("27: A and B the same", x.crossingCost(0, 1, 1), -1);
        due("27: the same ones of one word", x.crossingCost(0, 3, 3), -1);
        due("27: S too high", x.crossingCost(6, 0, 1), -1);
        due("27: A too high", x.crossingCost(0, 6, 1), -1);
        due("27: B too high", x.crossingCost(0, 1, 6), -1);
        due("27: S negative", x.crossingCost(-1, 0, 1), -1);
        due("27: A negative", x.crossingCost(0, MIN, 1), -1);
        due("27: B greatest int", x.crossingCost(0, 1, MAX), -1);
    }

    private static void promise27EightWords() {
        ProverbCollection x = with(new int[] {0, 4, 8, 12, 16, 20, 24, 28}, new int[] {32, 36, 40, 44, 48, 52, 56, 2},
            new int[] {0, 4, 8, 12, 16, 20, 24, 2}, new int[] {0, 36, 40, 44, 48, 52, 56, 2});
        due("27: seven and one", x.crossingCost(2, 0, 1), 0);
        due("27: one and seven", x.crossingCost(3, 0, 1), 0);
        saying(x, 9, 0, 0, 4, 8, 12, 16, 20, 24, 56);
        due("27: no blend of nine words, cut or whole", x.crossingCost(4, 0, 1), 3);
        ProverbCollection y = with(new int[] {0, 4, 8, 12, 16, 20, 24}, new int[] {32, 36, 40, 44},
            new int[] {0, 4, 8, 12, 16, 20, 40, 44});
        due("27: six and two", y.crossingCost(2, 0, 1), 0);
        y.setCost(1, 9);
        saying(y, 9, 0, 0, 4, 8, 12, 16, 36, 40, 44);
        due("27: five and three", y.crossingCost(3, 0, 1), 0);
    }

    private static void promise28Crossing() {
        ProverbCollection x = new ProverbCollection();
        due("28: no saying", x.crossing(0, 0), -1);
        saying(x, 30, 0, 0, 4, 8);
        saying(x, 20, 0, 20, 24, 28);
        saying(x, 40, 0, 0, 25, 28);
        due("28: found", x.crossing(2, 20), 1);
        due("28: a limit that it meets", x.crossing(2, 1), 1);
        due("28: a limit below it", x.crossing(2, 0), -4);
        due("28: too few older ones", x.crossing(0, 20), -4);
        due("28: none older", x.crossing(1, 20), -4);
        due("28: limit negative", x.crossing(2, -1), -1);
        due("28: limit 21", x.crossing(2, 21), -1);
        due("28: too high", x.crossing(3, 0), -1);
        due("28: negative", x.crossing(-1, 0), -1);
        due("28: greatest int", x.crossing(2, MAX), -1);
        saying(x, 30, 0, 1, 4, 8);
        due("28: a dearer pair does not win", x.crossing(2, 20), 1);
        saying(x, 35, 0, 20, 25, 28);
        due("28: a cheaper pair wins", x.crossing(2, 20), 4);
    }

    private static void promise28OlderOnly() {
        ProverbCollection x = new ProverbCollection();
        saying(x, 10, 0, 0, 24);
        saying(x, 10, 0, 0, 4);
        saying(x, 10, 0, 20, 24);
        due("28: of equal years only lower numbers are older", x.crossing(0, 20), -4);
        saying(x, 10, 0, 0, 24);
        saying(x, 20, 0, 0, 24);
        due("28: it must be less than the distance", x.crossing(3, 20), 102);
        due("28: one that equals it is no A or B", x.crossing(4, 20), 102);
    }

    private static void promise28Ties() {
        ProverbCollection x = new ProverbCollection();
        saying(x, 4, 0, 20, 24);
        saying(x, 3, 0, 0, 4);
        saying(x, 2, 0, 28, 24);
        saying(x, 1, 0, 0, 8);
        saying(x, 9, 0, 0, 24);
        due("28: the older A, then the older B", x.crossing(4, 20), 302);
        due("28: a cost not less than a distance", with(new int[] {0, 4}, new int[] {20, 24}, new int[] {0, 5})
            .crossing(2, 20), -4);
        due("28: numbers of two digits", tenAndEleven(), 910);
    }

    private static int tenAndEleven() {
        ProverbCollection x = new ProverbCollection();
        for (int number = 0; number < 9; number++) {
            saying(x, 5, 0, 50);
        }
        saying(x, 5, 0, 0, 4);
        saying(x, 5, 0, 20, 24);
        saying(x, 5, 0, 0, 24);
        return x.crossing(11, 0);
    }

    private static void promise29UndoOfEachChange() {
        ProverbCollection x = new ProverbCollection();
        saying(x, 30, 1, 1, 2, 3);
        due("29: addSaying", x.undo(), 0);
        due("29: it is gone", x.sayingCount(), 0);
        due("29: nothing left", x.undo(), -2);
        saying(x, 20, 1, 1, 2, 3);
        saying(x, 30, 1, 1, 2, 0);
        x.removeSaying(0);
        due("29: removeSaying", x.undo(), 2);
        words("29: its words are back", x, 0, 1, 2, 3);
        words("29: the other one too", x, 1, 1, 2, 0);
        due("29: the years are back", x.byAge(0), 0);
        due("29: the regions are back", x.groupInfo(0, 1), 1);
        pattern(x, 1, GAP);
        due("29: addPattern", x.undo(), 2);
        due("29: the pattern is gone", x.matchedSayings(0), -1);
        pattern(x, 1, 2, 3);
        pattern(x, 60);
        x.removePattern(0);
        due("29: removePattern", x.undo(), 4);
        due("29: the pattern is back", x.matchedSayings(0), 1);
        due("29: and the other one", x.matchedSayings(1), 0);
        x.setCost(2, 9);
        due("29: setCost", x.undo(), 4);
        due("29: the cost is back", x.distance(0, 1), 1);
        x.setLimit(0);
        due("29: two groups", x.groupCount(), 2);
        due("29: setLimit", x.undo(), 4);
        due("29: the limit is back", x.groupCount(), 1);
    }

    private static void promise29FiveChanges() {
        ProverbCollection x = new ProverbCollection();
        for (int limit = 4; limit <= 10; limit++) {
            x.setLimit(limit);
        }
        for (int left = 4; left >= 0; left--) {
            due("29: undo", x.undo(), left);
        }
        due("29: a sixth", x.undo(), -2);
        due("29: the limit of the second change", x.setLimit(5), 5);
        due("29: that counts, though nothing changed", x.undo(), 0);
        due("29: still the same", x.setLimit(8), 5);
        x.setCost(0, 2);
        due("29: the same cost counts", x.undo(), 1);
        x.setLimit(9);
        due("29: a new change behind undone ones", x.undo(), 1);
        due("29: back to the first", x.undo(), 0);
        due("29: the first limit stands", x.setLimit(3), 5);
    }

    private static void promise29Buffer() {
        ProverbCollection x = new ProverbCollection();
        saying(x, 0, 0, 1, 2);
        fill(x, 7, 8, 9);
        due("29: undo", x.undo(), 0);
        due("29: the buffer stays", x.addSaying(0, 0), 0);
        words("29: its words too", x, 0, 7, 8, 9);
        x.undo();
        due("29: the buffer does not come back", x.clear(), 0);
    }

    private static void promise29Errors() {
        ProverbCollection x = new ProverbCollection();
        x.setLimit(7);
        x.addSaying(0, 0);
        x.addSaying(9999, 0);
        x.removeSaying(0);
        x.addPattern();
        x.removePattern(0);
        x.setCost(4, 1);
        x.setCost(0, 0);
        x.setLimit(21);
        x.append(1);
        x.clear();
        x.groupCount();
        due("29: errors and questions are no changes", x.undo(), 0);
        due("29: nor is undo one", x.undo(), -2);
        due("29: the limit is the first one", x.setLimit(3), 3);
    }

    public static void main(String[] args) {
        promise1NewObject();
        promise2Append();
        promise3Clear();
        promise4AddSaying();
        promise4TwelveSayings();
        promise5RemoveSaying();
        promise5Regions();
        promise6SayingCount();
        promise7LengthOf();
        promise8WordAt();
        promise9ByAge();
        promise10SetCost();
        promise11Distance();
        promise11Stems();
        promise12SimilarityBits();
        promise12ManyShares();
        promise13EditCount();
        promise14EditAt();
        promise14OrderOfSteps();
        promise14SixteenEdits();
        promise15Nearest();
        promise16AddPattern();
        promise17RemovePattern();
        promise18Fillings();
        promise18WrongInputs();
        promise19SlotWord();
        promise20MatchedSayings();
        promise21BestPattern();
        promise22SetLimit();
        promise23GroupCount();
        promise24GroupOf();
        promise25CentreOf();
        promise26GroupInfo();
        promise26AllRegions();
        promise27CrossingCost();
        promise27EightWords();
        promise28Crossing();
        promise28OlderOnly();
        promise28Ties();
        promise29UndoOfEachChange();
        promise29FiveChanges();
        promise29Buffer();
        promise29Errors();
        System.out.println(wrong == 0 ? "all answers are as due" : wrong + " answers are not as due");
        if (wrong != 0) {
            System.exit(1);
        }
    }
}
