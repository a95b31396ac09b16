/** Promises 22 to 29, sentence by sentence: the group limit, groups, crossings and undo. */
public final class GroupsAndCrossingsTest {
    private static final String NO_SAYING = "INVALID_ARGUMENT if there is no such saying.";
    private static final String OF_A_SAYING = "`saying`: number of a saying";
    private static final String OF_A_GROUP = "`group`: 0 or more";
    private static final int[] EIGHT = Make.steps(8, 0, 4);

    private static void due(String call, int got, int want) {
        Sentences.due(call, got, want);
    }

    private static int[] row(int... words) {
        return Make.row(words);
    }

    /** Twelve sayings of one word, the youngest first, so that by the limit 2 each is a group of its own. */
    private static ProverbCollection twelveGroups() {
        ProverbCollection x = new ProverbCollection();
        for (int number = 0; number < 12; number++) {
            Make.saying(x, -number, 0, 4 * number);
        }
        x.setLimit(2);
        return x;
    }

    // ---- promise 22

    private static void setLimitChangesTheGroups() {
        ProverbCollection x = Make.with(row(0), row(1), row(4));
        due("by the limit 3", x.groupCount(), 1);
        Make.fill(x, 7, 8);
        x.setLimit(2);
        due("the buffer stays", x.clear(), 2);
        due("by the limit 2", x.groupCount(), 2);
        x.setLimit(0);
        due("by the limit 0", x.groupCount(), 3);
        x.setLimit(20);
        due("by the limit 20", x.groupCount(), 1);
        due("the costs stay", x.setCost(1, 3), 3);
    }

    private static void setLimitIsAChange() {
        ProverbCollection x = Make.with(row(0), row(40));
        x.setLimit(0);
        due("two groups", x.groupCount(), 2);
        due("undo", x.undo(), 2);
        due("one group", x.groupCount(), 1);
        due("the limit", x.setLimit(3), 3);
    }

    private static void leastAndGreatestLimit() {
        ProverbCollection x = new ProverbCollection();
        for (int limit = 0; limit <= 20; limit++) {
            due("setLimit(" + limit + ")", x.setLimit(limit), limit == 0 ? 3 : limit - 1);
        }
        due("setLimit(0) behind 20", x.setLimit(0), 20);
        due("setLimit(20) behind 0", x.setLimit(20), 0);
    }

    private static void previousLimit() {
        ProverbCollection x = new ProverbCollection();
        due("the initial limit", x.setLimit(7), 3);
        due("the same limit", x.setLimit(7), 7);
        due("another limit", x.setLimit(0), 7);
        x.setLimit(21);
        due("behind a refused one", x.setLimit(5), 0);
        x.undo();
        due("behind an undone one", x.setLimit(5), 0);
    }

    private static void limitOutOfRange() {
        ProverbCollection x = new ProverbCollection();
        Make.refusedOutside(0, 20, x::setLimit);
        due("the limit that stands", x.setLimit(3), 3);
        due("no change but that one", x.undo(), 0);
    }

    // ---- promise 23

    private static void countOfGroups() {
        due("of no saying", new ProverbCollection().groupCount(), 0);
        due("of one", Make.singles(1).groupCount(), 1);
        ProverbCollection x = twelveGroups();
        due("twelve", x.groupCount(), 12);
        x.setLimit(3);
        due("one of twelve", x.groupCount(), 1);
        x.setLimit(0);
        for (int count = 11; count >= 0; count--) {
            x.removeSaying(count / 2);
            due("of " + count, x.groupCount(), count);
        }
        x.undo();
        due("behind undo", x.groupCount(), 1);
    }

    // ---- promise 24

    private static void groupsOfTheStems() {
        ProverbCollection x = Make.singles(12);
        x.setLimit(1);
        for (int number = 0; number < 12; number++) {
            due("groupOf(" + number + ")", x.groupOf(number), number / 4);
        }
        x.removeSaying(0);
        for (int number = 0; number < 11; number++) {
            due("groupOf(" + number + ") of eleven", x.groupOf(number), (number + 1) / 4);
        }
    }

    private static void groupsOfFirstAndLast() {
        ProverbCollection x = twelveGroups();
        due("groupOf(0)", x.groupOf(0), 11);
        due("groupOf(11)", x.groupOf(11), 0);
    }

    private static void firstAndLastGroup() {
        ProverbCollection x = new ProverbCollection();
        Make.saying(x, 9, 0, 0);
        due("the only one", x.groupOf(0), 0);
        Make.saying(x, 8, 0, 20);
        x.setLimit(0);
        due("the younger", x.groupOf(0), 1);
        due("the older", x.groupOf(1), 0);
        Make.saying(x, 10, 0, 20);
        due("the youngest, like the oldest", x.groupOf(2), 0);
        Make.saying(x, 10, 0, 21);
        due("like none", x.groupOf(3), 2);
    }

    // ---- promise 25

    private static void centres() {
        ProverbCollection x = Make.singles(12);
        Make.saying(x, 0, 0, 1);
        x.setLimit(1);
        due("centreOf(0)", x.centreOf(0), 0);
        due("centreOf(1)", x.centreOf(1), 4);
        due("centreOf(2)", x.centreOf(2), 8);
        x.removeSaying(0);
        due("centreOf(0) of eleven", x.centreOf(0), 0);
        due("centreOf(1) of eleven", x.centreOf(1), 3);
    }

    private static void oldestIsCentre() {
        ProverbCollection x = new ProverbCollection();
        Make.saying(x, 30, 0, 0);
        Make.saying(x, 20, 0, 1);
        Make.saying(x, 20, 0, 2);
        Make.saying(x, 25, 0, 3);
        due("centreOf(0)", x.centreOf(0), 1);
        Make.saying(x, 19, 0, 4);
        due("centreOf(0) with an older one", x.centreOf(0), 4);
        x.setLimit(1);
        due("centreOf(1) by a lower limit", x.centreOf(1), 1);
    }

    private static void firstAndLastCentre() {
        ProverbCollection x = twelveGroups();
        due("centreOf(0)", x.centreOf(0), 11);
        due("centreOf(11)", x.centreOf(11), 0);
        due("centreOf(12)", x.centreOf(12), -4);
    }

    private static void groupNegative() {
        for (int group : row(-1, -2, -12, Make.MIN)) {
            due("centreOf(" + group + ")", twelveGroups().centreOf(group), -1);
            due("centreOf(" + group + ") of none", new ProverbCollection().centreOf(group), -1);
        }
    }

    private static void noSuchCentre() {
        due("centreOf(0) of none", new ProverbCollection().centreOf(0), -4);
        ProverbCollection x = twelveGroups();
        for (int group : row(12, 13, Make.MAX)) {
            due("centreOf(" + group + ")", x.centreOf(group), -4);
        }
        x.setLimit(20);
        for (int group : row(1, 2, 11, 12, Make.MAX)) {
            due("centreOf(" + group + ") of one group", x.centreOf(group), -4);
        }
    }

    // ---- promise 26

    private static ProverbCollection twoGroups() {
        ProverbCollection x = new ProverbCollection();
        Make.saying(x, 9, 0, 0, 4, 8);
        Make.saying(x, 8, 9, 0, 4, 9);
        Make.saying(x, 10, 0, 1, 5, 9);
        Make.saying(x, 7, 4, 40, 44);
        Make.saying(x, 7, 4, 40, 44);
        return x;
    }

    private static void infoByMembers() {
        ProverbCollection x = twoGroups();
        due("the members of the younger centre", x.groupInfo(1, 0), 3);
        due("their regions", x.groupInfo(1, 1), 2);
        due("the farthest of them", x.groupInfo(1, 2), 2);
        due("the members of the older centre", x.groupInfo(0, 0), 2);
        due("their region", x.groupInfo(0, 1), 1);
        due("equal ones", x.groupInfo(0, 2), 0);
        x.removeSaying(1);
        due("the members of another centre", x.groupInfo(1, 0), 2);
        due("their region", x.groupInfo(1, 1), 1);
        due("the farthest of them, from that centre", x.groupInfo(1, 2), 3);
    }

    private static void infoOfFirstAndLastGroup() {
        ProverbCollection x = twelveGroups();
        for (int group : row(0, 11)) {
            due("members of group " + group, x.groupInfo(group, 0), 1);
            due("regions of group " + group, x.groupInfo(group, 1), 1);
            due("distance in group " + group, x.groupInfo(group, 2), 0);
        }
        due("groupInfo(12, 0)", x.groupInfo(12, 0), -4);
    }

    private static void threeKindsOfInfo() {
        ProverbCollection x = new ProverbCollection();
        for (int number = 0; number < 12; number++) {
            Make.saying(x, number, number % 10, number % 3);
        }
        due("twelve members", x.groupInfo(0, 0), 12);
        due("ten regions", x.groupInfo(0, 1), 10);
        due("the greatest distance", x.groupInfo(0, 2), 1);
        x.setLimit(0);
        due("a third of them", x.groupInfo(2, 0), 4);
        due("their regions", x.groupInfo(2, 1), 4);
        due("no distance", x.groupInfo(2, 2), 0);
    }

    private static void leastAndGreatestInfo() {
        ProverbCollection x = Make.singles(1);
        due("one member", x.groupInfo(0, 0), 1);
        due("one region", x.groupInfo(0, 1), 1);
        due("the centre alone", x.groupInfo(0, 2), 0);
        ProverbCollection y = Make.with(EIGHT, row(35, 38, 41, 44, 47, 50, 25, 29));
        y.setLimit(20);
        due("the distance 20", y.groupInfo(0, 2), 20);
        due("the distance 20 is the limit", y.groupInfo(0, 0), 2);
        farthestIsFirstOrLast();
        y.setLimit(19);
        due("one beyond the limit", y.groupInfo(0, 0), 1);
        due("its distance does not count", y.groupInfo(0, 2), 0);
    }

    private static void farthestIsFirstOrLast() {
        ProverbCollection x = new ProverbCollection();
        Make.saying(x, 9, 0, 8);
        for (int number = 1; number < 11; number++) {
            Make.saying(x, 8, 0, 1);
        }
        Make.saying(x, 7, 0, 0);
        due("the first saying is the farthest", x.groupInfo(0, 2), 3);
        x.removeSaying(0);
        due("one of the others is the farthest", x.groupInfo(0, 2), 1);
        Make.saying(x, 9, 0, 8);
        due("the last saying is the farthest", x.groupInfo(0, 2), 3);
    }

    private static void groupOrWhatOutOfRange() {
        ProverbCollection x = twoGroups();
        Make.refusedOutside(0, 2, what -> x.groupInfo(0, what));
        Make.refusedOutside(0, 2, what -> x.groupInfo(1, what));
        Make.refusedOutside(0, 2, what -> x.groupInfo(2, what));
        for (int group : row(-1, -2, Make.MIN)) {
            for (int what = 0; what <= 2; what++) {
                due("groupInfo(" + group + ", " + what + ")", x.groupInfo(group, what), -1);
                due("the same of none", new ProverbCollection().groupInfo(group, what), -1);
            }
        }
    }

    private static void noSuchGroup() {
        ProverbCollection x = twoGroups();
        ProverbCollection full = twelveGroups();
        for (int what = 0; what <= 2; what++) {
            due("group 0 of none, " + what, new ProverbCollection().groupInfo(0, what), -4);
            due("group 2 of two, " + what, x.groupInfo(2, what), -4);
            due("group 5 of two, " + what, x.groupInfo(5, what), -4);
            due("group 12 of twelve, " + what, full.groupInfo(12, what), -4);
            due("greatest int, " + what, full.groupInfo(Make.MAX, what), -4);
        }
    }

    // ---- promise 27

    private static void costByTwoOthers() {
        ProverbCollection x = Make.with(row(0, 24), row(0, 4), row(20, 24), row(24, 0));
        due("S 0 by 1 and 2", x.crossingCost(0, 1, 2), 0);
        due("S 0 by 2 and 1", x.crossingCost(0, 2, 1), 6);
        due("S 3 by 1 and 2", x.crossingCost(3, 1, 2), 2);
        due("S may be older than both", x.crossingCost(0, 2, 3), 4);
    }

    private static ProverbCollection twelveOfTwoWords() {
        ProverbCollection x = new ProverbCollection();
        for (int number = 0; number < 12; number++) {
            Make.saying(x, 0, 0, 4 * number, 4 * number + 1);
        }
        Make.fill(x);
        return x;
    }

    private static void crossingCostsOfFirstAndLast(int s, int a, int b) {
        ProverbCollection x = twelveOfTwoWords();
        due("crossingCost(" + s + ", " + a + ", " + b + ")", x.crossingCost(s, a, b), 6);
        x.removeSaying(5);
        due("crossingCost(12, 12, 12) of eleven", x.crossingCost(11, 0, 1), -1);
    }

    private static void leastAndGreatestCrossingCost() {
        ProverbCollection x = Make.with(EIGHT, Make.steps(8, 32, 3), Make.steps(8, 33, 3), Make.changed(EIGHT, 7, 54));
        due("the cost 0", x.crossingCost(3, 0, 2), 0);
        for (int cost = 0; cost < 4; cost++) {
            x.setCost(cost, 9);
        }
        due("the cost 72", x.crossingCost(0, 1, 2), 72);
    }

    private static void noSayingOrTheSame() {
        Make.noSuchSaying((x, number) -> x.crossingCost(number, 0, 1));
        Make.noSuchSaying((x, number) -> x.crossingCost(0, number, 1));
        Make.noSuchSaying((x, number) -> x.crossingCost(0, 1, number));
        Make.noSuchSaying((x, number) -> x.crossingCost(number, number, number));
        ProverbCollection x = twelveOfTwoWords();
        for (int number : row(0, 5, 11)) {
            int other = number == 5 ? 6 : 5;
            due("S and A the same", x.crossingCost(number, number, other), -1);
            due("S and B the same", x.crossingCost(number, other, number), -1);
            due("A and B the same", x.crossingCost(other, number, number), -1);
            due("all the same", x.crossingCost(number, number, number), -1);
        }
        ProverbCollection equal = Make.with(row(0, 4), row(0, 4), row(0, 4));
        due("equal words of three sayings are fine", equal.crossingCost(0, 1, 2), 0);
    }

    private static void noBlend() {
        ProverbCollection x = Make.with(row(0, 4), row(0), row(4), row(8, 4), EIGHT);
        due("one word in A", x.crossingCost(0, 1, 3), -4);
        due("one word in B", x.crossingCost(0, 3, 2), -4);
        due("one word in both", x.crossingCost(0, 1, 2), -4);
        due("one word in B, eight in A", x.crossingCost(0, 4, 2), -4);
        due("one word in A, eight in B", x.crossingCost(0, 2, 4), -4);
        due("one word in S alone", x.crossingCost(1, 0, 3), 2);
        due("two words in both", x.crossingCost(4, 0, 3), 12);
        due("two and eight words", x.crossingCost(1, 3, 4), 5);
    }

    // ---- promise 28

    /** S is saying 2; A is 0 and B is 1, each at a distance 6 from S, the crossing cost being what the word tells. */
    private static ProverbCollection crossingWith(int word) {
        return Make.with(row(0, 4, 8), row(20, 24, 28), row(0, word, 28));
    }

    private static void crossingLimits() {
        due("the cost 0 by the limit 0", crossingWith(24).crossing(2, 0), 1);
        due("the cost 1 by the limit 0", crossingWith(25).crossing(2, 0), -4);
        due("the cost 1 by the limit 1", crossingWith(25).crossing(2, 1), 1);
        due("the cost 2 by the limit 1", crossingWith(40).crossing(2, 1), -4);
        due("the cost 2 by the limit 2", crossingWith(40).crossing(2, 2), 1);
    }

    private static void lessThanBothDistances() {
        due("less than both", Make.with(row(0, 4), row(20, 24), row(0, 24)).crossing(2, 20), 1);
        due("as far as A", Make.with(row(0, 4, 8), row(20, 9), row(0, 4, 9)).crossing(2, 20), 1);
        due("equal to the distance of A", Make.with(row(0, 4), row(20, 24), row(0, 25)).crossing(2, 20), 1);
        ProverbCollection a = Make.with(row(0, 4), row(20, 24), row(0, 40));
        due("distance from A", a.distance(2, 0), 3);
        due("crossing cost", a.crossingCost(2, 0, 1), 3);
        due("not less than the distance from A", a.crossing(2, 20), -4);
        ProverbCollection b = Make.with(row(0, 4), row(20, 24), row(40, 24));
        due("distance from B", b.distance(2, 1), 3);
        due("crossing cost", b.crossingCost(2, 0, 1), 3);
        due("not less than the distance from B", b.crossing(2, 20), -4);
        ProverbCollection same = Make.with(row(0, 24), row(20, 24), row(0, 24), row(0, 4));
        due("the distance 0 from A", same.crossing(2, 20), -4);
    }

    private static void olderOnes() {
        ProverbCollection x = new ProverbCollection();
        Make.saying(x, 9, 0, 0, 24);
        Make.saying(x, 9, 0, 0, 4);
        Make.saying(x, 9, 0, 20, 24);
        due("of the same year, with higher numbers", x.crossing(0, 20), -4);
        Make.saying(x, 9, 0, 0, 24);
        due("of the same year, with lower numbers", x.crossing(3, 20), 102);
        due("only one of them older", x.crossing(2, 20), -4);
        Make.saying(x, 8, 0, 0, 24);
        due("one that is older than A and B", x.crossing(4, 20), -4);
        ProverbCollection same = Make.with(row(0, 4, 0, 8), row(0, 8, 0, 4));
        Make.saying(same, 9, 0, 0, 4, 0, 4);
        due("A and B are different ones", same.crossing(2, 0), 1);
        ProverbCollection itself = Make.with(row(0, 4), row(50, 51), row(0, 24), row(40, 41, 42, 43));
        due("the youngest is asked first", itself.crossing(3, 20), -4);
        due("the saying itself is neither A nor B", itself.crossing(2, 20), -4);
        due("a younger one is neither A nor B", Make.with(row(0, 4), row(0, 24), row(20, 24)).crossing(1, 20), -4);
        ProverbCollection alone = Make.with(row(0, 4, 0, 24));
        Make.saying(alone, 9, 0, 0, 24);
        due("one alone is no pair", alone.crossing(1, 20), -4);
    }

    private static void bestPairs() {
        ProverbCollection x = new ProverbCollection();
        Make.saying(x, 5, 0, 0, 4);
        Make.saying(x, 5, 0, 20, 24);
        Make.saying(x, 9, 0, 0, 25);
        due("the cost 1", x.crossing(2, 20), 1);
        Make.saying(x, 4, 0, 20, 25);
        due("the least cost, with an older B", x.crossing(2, 20), 3);
        Make.saying(x, 3, 0, 0, 8);
        due("as cheap with an older A", x.crossing(2, 20), 403);
        Make.saying(x, 2, 0, 28, 25);
        due("as cheap with an older B", x.crossing(2, 20), 405);
        Make.saying(x, 3, 0, 0, 12);
        due("as cheap with an A of the same year and a higher number", x.crossing(2, 20), 405);
        Make.saying(x, 1, 0, 1, 25);
        due("dearer with an older A, as cheap with a still older B", x.crossing(2, 20), 407);
        Make.saying(x, 6, 0, 0, 12);
        due("as cheap with a younger A", x.crossing(2, 20), 407);
    }

    private static void olderABeforeOlderB() {
        ProverbCollection x = new ProverbCollection();
        Make.saying(x, 4, 0, 20, 24);
        Make.saying(x, 3, 0, 0, 4);
        Make.saying(x, 2, 0, 28, 24);
        Make.saying(x, 1, 0, 0, 8);
        Make.saying(x, 9, 0, 0, 24);
        due("the older A, then the older B", x.crossing(4, 20), 302);
        ProverbCollection y = new ProverbCollection();
        Make.saying(y, 1, 0, 32, 24);
        Make.saying(y, 2, 0, 0, 4);
        Make.saying(y, 3, 0, 0, 8);
        Make.saying(y, 4, 0, 36, 24);
        Make.saying(y, 9, 0, 0, 24);
        due("the older A, its B being the oldest", y.crossing(4, 20), 100);
        y.removeSaying(1);
        due("the next A", y.crossing(3, 20), 100);
        y.removeSaying(0);
        due("the only pair left", y.crossing(2, 20), 1);
        ProverbCollection z = Make.with(row(0, 40), row(0, 4, 8, 41), row(42, 12), row(43, 4, 8, 12), row(0, 4, 8, 12));
        due("both of them the oldest", z.crossingCost(4, 0, 2), 4);
        due("the younger A and the older B", z.crossingCost(4, 1, 2), 0);
        due("the older A and the younger B", z.crossingCost(4, 0, 3), 0);
        due("the older A is more than the older B", z.crossing(4, 20), 3);
    }

    private static void leastCostBeforeAge() {
        ProverbCollection x = Make.with(row(0, 4), row(20, 25), row(21, 24), row(1, 4), row(0, 8), row(28, 24), row(0, 24));
        due("the older B is dearer", x.crossingCost(6, 0, 1), 1);
        due("the younger B is cheaper", x.crossing(6, 20), 2);
        ProverbCollection y = Make.with(row(1, 4), row(20, 25), row(20, 24), row(0, 4), row(0, 24));
        due("the oldest pair", y.crossingCost(4, 0, 1), 2);
        due("a younger B", y.crossingCost(4, 0, 2), 1);
        due("a younger A and a younger B", y.crossing(4, 20), 302);
        y.removeSaying(3);
        due("the cheaper one of the pairs left", y.crossing(3, 20), 2);
        y.removeSaying(2);
        due("the dearest pair left", y.crossing(2, 20), 1);
    }

    private static void crossingsOfFirstAndLast() {
        ProverbCollection x = new ProverbCollection();
        Make.saying(x, 9, 0, 0, 24);
        Make.saying(x, 2, 0, 0, 4);
        Make.saying(x, 1, 0, 20, 24);
        due("crossing(0, 20)", x.crossing(0, 20), 102);
        for (int number = 3; number < 11; number++) {
            Make.saying(x, 8, 0, 50);
        }
        Make.saying(x, 7, 0, 0, 25);
        due("crossing(11, 20)", x.crossing(11, 20), 102);
    }

    private static void leastAndGreatestLimitOfCrossings() {
        int[] a = {0, 4, 8, 40, 40, 40, 40, 40};
        int[] b = {41, 41, 41, 41, 41, 12, 16, 20};
        ProverbCollection x = Make.with(a, b, row(0, 4, 55, 56, 57, 58, 16, 20));
        x.setCost(0, 9);
        x.setCost(1, 5);
        due("the cost 20", x.crossingCost(2, 0, 1), 20);
        due("the limit 20", x.crossing(2, 20), 1);
        due("the limit 19", x.crossing(2, 19), -4);
        x.setCost(2, 6);
        x.setCost(1, 6);
        due("the cost 24", x.crossingCost(2, 0, 1), 24);
        due("the limit 20, the cost 24", x.crossing(2, 20), -4);
        due("the limit 21", x.crossing(2, 21), -1);
        due("the limit 0", crossingWith(24).crossing(2, 0), 1);
        due("the limit -1", crossingWith(24).crossing(2, -1), -1);
    }

    /** Twelve sayings, the last being a crossing of a and b, and all others too short for a blend. */
    private static int pairOf(int a, int b) {
        ProverbCollection x = new ProverbCollection();
        for (int number = 0; number < 11; number++) {
            Make.saying(x, 0, 0, number == a ? row(0, 4) : number == b ? row(20, 24) : row(50));
        }
        Make.saying(x, 0, 0, 0, 24);
        return x.crossing(11, 0);
    }

    private static void hundredTimesA() {
        due("0 and 1", pairOf(0, 1), 1);
        due("1 and 0", pairOf(1, 0), 100);
        due("0 and 10", pairOf(0, 10), 10);
        due("10 and 0", pairOf(10, 0), 1000);
        due("9 and 10", pairOf(9, 10), 910);
        due("10 and 9", pairOf(10, 9), 1009);
    }

    private static void sayingOrLimitOutOfRange() {
        for (int limit : row(0, 20, -1, 21)) {
            Make.noSuchSaying((x, number) -> x.crossing(number, limit));
        }
        ProverbCollection x = crossingWith(24);
        for (int saying = 0; saying < 3; saying++) {
            int fit = saying;
            Make.refusedOutside(0, 20, limit -> x.crossing(fit, limit));
        }
    }

    private static void noSuchPair() {
        ProverbCollection x = Make.with(row(0, 4), row(20, 24), row(0, 24), row(0, 24));
        due("the oldest one", x.crossing(0, 20), -4);
        due("one older than it", x.crossing(1, 20), -4);
        due("two older than it", x.crossing(2, 20), 1);
        due("three older than it, one the same", x.crossing(3, 20), 1);
        due("no blend", Make.with(row(0), row(24), row(0, 24)).crossing(2, 20), -4);
        due("no blend with A in front", Make.with(row(0), row(20, 24), row(0, 24)).crossing(2, 20), -4);
        due("above the limit", crossingWith(25).crossing(2, 0), -4);
        due("of a single one", Make.singles(1).crossing(0, 20), -4);
    }

    // ---- promise 29

    private static void latestChangeFirst() {
        ProverbCollection x = new ProverbCollection();
        Make.saying(x, 0, 0, 1);
        Make.saying(x, 0, 0, 2);
        x.removeSaying(0);
        x.undo();
        Make.words("the first, back again", x, 0, 1);
        Make.words("the second", x, 1, 2);
        x.undo();
        due("sayingCount", x.sayingCount(), 1);
        Make.words("the first", x, 0, 1);
        Make.saying(x, 0, 0, 3);
        x.undo();
        Make.words("the first, a new change being undone", x, 0, 1);
        due("sayingCount", x.sayingCount(), 1);
        x.undo();
        due("sayingCount", x.sayingCount(), 0);
    }

    private static void changesLeft() {
        for (int changes = 1; changes <= 12; changes++) {
            ProverbCollection x = new ProverbCollection();
            for (int limit = 1; limit <= changes; limit++) {
                x.setLimit(limit);
            }
            for (int left = Math.min(changes, 5) - 1; left >= 0; left--) {
                due("undo behind " + changes, x.undo(), left);
            }
            due("one more undo behind " + changes, x.undo(), -2);
            due("the limit that stands behind " + changes, x.setLimit(0), changes <= 5 ? 3 : changes - 5);
        }
    }

    private static void nothingToUndo() {
        ProverbCollection x = new ProverbCollection();
        due("a new object", x.undo(), -2);
        due("again", x.undo(), -2);
        x.append(1);
        x.append(60);
        x.addSaying(0, 0);
        due("behind a refused change", x.undo(), -2);
        x.addPattern();
        due("behind a change", x.undo(), 0);
        due("behind an undone change", x.undo(), -2);
        x.setLimit(3);
        due("behind another change", x.undo(), 0);
        due("behind another undone change", x.undo(), -2);
    }

    private static void groupPromises() {
        Sentences.under("Promise 22: setLimit");
        Sentences.test("Sets the group limit.", GroupsAndCrossingsTest::setLimitChangesTheGroups);
        Sentences.test("This is a change.", GroupsAndCrossingsTest::setLimitIsAChange);
        Sentences.test("`limit`: 0 to 20", GroupsAndCrossingsTest::leastAndGreatestLimit);
        Sentences.test("Returns the previous limit", GroupsAndCrossingsTest::previousLimit);
        Sentences.test("INVALID_ARGUMENT if limit is out of range.", GroupsAndCrossingsTest::limitOutOfRange);
        Sentences.under("Promise 23: groupCount");
        Sentences.test("Returns the number of groups.", GroupsAndCrossingsTest::countOfGroups);
        Sentences.under("Promise 24: groupOf");
        Sentences.test("Returns the group of a saying.", GroupsAndCrossingsTest::groupsOfTheStems);
        Sentences.test(OF_A_SAYING, GroupsAndCrossingsTest::groupsOfFirstAndLast);
        Sentences.test("Returns the number of its group", GroupsAndCrossingsTest::firstAndLastGroup);
        Sentences.test(NO_SAYING, () -> Make.noSuchSaying(ProverbCollection::groupOf));
        Sentences.under("Promise 25: centreOf");
        Sentences.test("Returns the centre of a group.", GroupsAndCrossingsTest::centres);
        Sentences.test(OF_A_GROUP, GroupsAndCrossingsTest::firstAndLastCentre);
        Sentences.test("Returns the number of the saying that is its centre", GroupsAndCrossingsTest::oldestIsCentre);
        Sentences.test("INVALID_ARGUMENT if group is negative", GroupsAndCrossingsTest::groupNegative);
        Sentences.test("NOT_FOUND if there is no such group.", GroupsAndCrossingsTest::noSuchCentre);
    }

    private static void infoPromise() {
        Sentences.under("Promise 26: groupInfo");
        Sentences.test("Describes a group by its members.", GroupsAndCrossingsTest::infoByMembers);
        Sentences.test(OF_A_GROUP, GroupsAndCrossingsTest::infoOfFirstAndLastGroup);
        Sentences.test("`what`: 0: the number of its members; 1: the number of different regions of its members; 2: the "
            + "greatest edit distance of a member from the centre", GroupsAndCrossingsTest::threeKindsOfInfo);
        Sentences.test("Returns the number", GroupsAndCrossingsTest::leastAndGreatestInfo);
        Sentences.test("INVALID_ARGUMENT if an argument is out of range", GroupsAndCrossingsTest::groupOrWhatOutOfRange);
        Sentences.test("NOT_FOUND if there is no such group.", GroupsAndCrossingsTest::noSuchGroup);
    }

    private static void crossingPromises() {
        Sentences.under("Promise 27: crossingCost");
        Sentences.test("Returns the crossing cost of a saying by two others.", GroupsAndCrossingsTest::costByTwoOthers);
        Sentences.test("`saying`: number of a saying, S", () -> {
            crossingCostsOfFirstAndLast(0, 5, 6);
            crossingCostsOfFirstAndLast(11, 5, 6);
        });
        Sentences.test("`a`: number of another saying, A", () -> {
            crossingCostsOfFirstAndLast(5, 0, 6);
            crossingCostsOfFirstAndLast(5, 11, 6);
        });
        Sentences.test("`b`: number of a third saying, B", () -> {
            crossingCostsOfFirstAndLast(5, 6, 0);
            crossingCostsOfFirstAndLast(5, 6, 11);
        });
        Sentences.test("Returns the crossing cost", GroupsAndCrossingsTest::leastAndGreatestCrossingCost);
        Sentences.test("INVALID_ARGUMENT if there is no such saying or two of them are the same",
            GroupsAndCrossingsTest::noSayingOrTheSame);
        Sentences.test("NOT_FOUND if it does not exist.", GroupsAndCrossingsTest::noBlend);
        Sentences.under("Promise 28: crossing");
        Sentences.test("Finds two older sayings of which a saying may be a crossing: of all pairs of different older sayings "
            + "A and B for which the crossing cost exists, is at most a limit, and is less than the edit distance of the "
            + "saying from A and from B, the pair with the least crossing cost; of several the one with the older A, then "
            + "the one with the older B.", () -> {
                crossingLimits();
                lessThanBothDistances();
                olderOnes();
                bestPairs();
                olderABeforeOlderB();
                leastCostBeforeAge();
            });
        Sentences.test(OF_A_SAYING, GroupsAndCrossingsTest::crossingsOfFirstAndLast);
        Sentences.test("`limit`: 0 to 20", GroupsAndCrossingsTest::leastAndGreatestLimitOfCrossings);
        Sentences.test("Returns 100 times A plus B", GroupsAndCrossingsTest::hundredTimesA);
        Sentences.test("INVALID_ARGUMENT if an argument is out of range", GroupsAndCrossingsTest::sayingOrLimitOutOfRange);
        Sentences.test("NOT_FOUND if there is no such pair.", GroupsAndCrossingsTest::noSuchPair);
    }

    private static void undoPromise() {
        Sentences.under("Promise 29: undo");
        Sentences.test("Undoes the latest change that has not been undone.", GroupsAndCrossingsTest::latestChangeFirst);
        Sentences.test("Returns the number of changes that can still be undone", GroupsAndCrossingsTest::changesLeft);
        Sentences.test("INVALID_STATE if there is none.", GroupsAndCrossingsTest::nothingToUndo);
    }

    public static void main(String[] args) {
        groupPromises();
        infoPromise();
        crossingPromises();
        undoPromise();
        Sentences.complete("## Promise 22:", "## Not promised");
        Sentences.close();
    }
}
