/** Promises 1 to 9, sentence by sentence: a new object, the token buffer, the sayings. */
public final class BufferAndSayingsTest {
    private static final String NO_SAYING = "INVALID_ARGUMENT if there is no such saying.";
    private static final String OF_A_SAYING = "`saying`: number of a saying";
    private static final int GAP = Make.GAP;

    private static void due(String call, int got, int want) {
        Sentences.due(call, got, want);
    }

    // ---- promise 1

    private static void newObject() {
        ProverbCollection used = Make.singles(3);
        Make.pattern(used, 1);
        used.setCost(0, 9);
        used.setLimit(20);
        used.append(1);
        ProverbCollection x = new ProverbCollection();
        due("clear", x.clear(), 0);
        due("undo", x.undo(), -2);
        due("sayingCount", x.sayingCount(), 0);
        due("lengthOf(0)", x.lengthOf(0), -1);
        due("matchedSayings(0)", x.matchedSayings(0), -1);
        due("groupCount", x.groupCount(), 0);
        int[] costs = {2, 3, 1, 2};
        for (int cost = 0; cost < 4; cost++) {
            due("setCost(" + cost + ", 1)", x.setCost(cost, 1), costs[cost]);
        }
        due("setLimit(0)", x.setLimit(0), 3);
    }

    // ---- promise 2

    private static void appendPutsBehind() {
        ProverbCollection x = new ProverbCollection();
        for (int word = 8; word > 0; word--) {
            x.append(word);
        }
        x.addSaying(0, 0);
        Make.words("the words appended", x, 0, 8, 7, 6, 5, 4, 3, 2, 1);
    }

    private static void everyToken() {
        ProverbCollection x = new ProverbCollection();
        for (int token = 0; token <= 64; token++) {
            due("append(" + token + ")", x.append(token), 1);
            x.clear();
        }
    }

    private static void numberOfTokens() {
        ProverbCollection x = new ProverbCollection();
        for (int count = 1; count <= 8; count++) {
            due("append", x.append(0), count);
        }
        x.addPattern();
        due("append behind addPattern", x.append(0), 1);
        x.addSaying(0, 0);
        due("append behind addSaying", x.append(0), 1);
        due("append of the same token", x.append(0), 2);
    }

    private static void tokenOutOfRange() {
        ProverbCollection x = new ProverbCollection();
        Make.refusedOutside(0, 64, x::append);
        due("append(128)", x.append(128), -1);
        due("clear", x.clear(), 0);
        Make.fill(x, 1, 2, 3, 4, 5, 6, 7);
        Make.refusedOutside(0, 64, x::append);
        due("append(64)", x.append(64), 8);
        Make.refusedOutside(0, 64, x::append);
    }

    private static void bufferFull() {
        ProverbCollection x = new ProverbCollection();
        Make.fill(x, 1, 2, 3, 4, 5, 6, 7);
        due("the eighth", x.append(8), 8);
        for (int token : Make.row(0, 9, 59, 60, 63, 64)) {
            due("append(" + token + ") as the ninth", x.append(token), -3);
        }
        x.addSaying(0, 0);
        Make.words("the eight before it", x, 0, 1, 2, 3, 4, 5, 6, 7, 8);
        due("append to the buffer that is empty again", x.append(9), 1);
        Make.fill(x, 1, 2, 3, 4, 5, 6, 7, 8);
        x.clear();
        due("append behind clear", x.append(9), 1);
    }

    // ---- promise 3

    private static void clearEmpties() {
        ProverbCollection x = new ProverbCollection();
        Make.fill(x, 1, 2, 3);
        x.clear();
        due("addSaying behind clear", x.addSaying(0, 0), -2);
        due("addPattern behind clear", x.addPattern(), -2);
        Make.fill(x, GAP, 60, 3, 4, 5, 6, 7, 8);
        x.clear();
        due("append behind clear", x.append(9), 1);
        due("addSaying", x.addSaying(0, 0), 0);
        Make.words("what is left", x, 0, 9);
    }

    private static void clearTellsHowMany() {
        ProverbCollection x = new ProverbCollection();
        for (int count = 0; count <= 8; count++) {
            Make.fill(x, Make.times(count, GAP));
            due("clear", x.clear(), count);
            due("clear again", x.clear(), 0);
        }
        Make.fill(x, Make.times(8, 1));
        x.append(1);
        due("clear behind a refused token", x.clear(), 8);
        Make.saying(x, 0, 0, 1, 2);
        due("clear behind addSaying", x.clear(), 0);
        Make.pattern(x, 1, 2);
        due("clear behind addPattern", x.clear(), 0);
    }

    // ---- promise 4

    private static void addSayingTakesTheBuffer() {
        ProverbCollection x = new ProverbCollection();
        for (int length = 1; length <= 8; length++) {
            Make.saying(x, 0, 0, Make.steps(length, 59, -length));
            due("clear behind " + length + " words", x.clear(), 0);
            due("addSaying again", x.addSaying(0, 0), -2);
            Make.words(length + " words", x, length - 1, Make.steps(length, 59, -length));
        }
    }

    private static void addSayingIsAChange() {
        ProverbCollection x = new ProverbCollection();
        Make.saying(x, 0, 0, 1);
        due("undo", x.undo(), 0);
        due("sayingCount", x.sayingCount(), 0);
        due("undo again", x.undo(), -2);
    }

    private static void earliestAndLatestYear() {
        ProverbCollection x = new ProverbCollection();
        due("year 2100", Make.saying(x, 2100, 0, 1), 0);
        due("year -3000", Make.saying(x, -3000, 0, 1), 1);
        due("year 0", Make.saying(x, 0, 0, 1), 2);
        due("year 2099", Make.saying(x, 2099, 0, 1), 3);
        due("year -2999", Make.saying(x, -2999, 0, 1), 4);
        Make.order("the years", x, 1, 4, 2, 3, 0);
    }

    private static void firstAndLastRegion() {
        ProverbCollection x = new ProverbCollection();
        due("region 0", Make.saying(x, 0, 0, 1), 0);
        due("region 9", Make.saying(x, 0, 9, 1), 1);
        due("two regions", x.groupInfo(0, 1), 2);
        due("region 9 again", Make.saying(x, 0, 9, 1), 2);
        due("region 0 again", Make.saying(x, 0, 0, 1), 3);
        due("still two regions", x.groupInfo(0, 1), 2);
    }

    private static void numberOfTheSaying() {
        ProverbCollection x = new ProverbCollection();
        for (int number = 0; number < 12; number++) {
            due("addSaying", Make.saying(x, -number, 0, number), number);
        }
        x.removeSaying(0);
        due("addSaying behind a removed one", Make.saying(x, 0, 0, 30), 11);
        due("its word", x.wordAt(11, 0), 30);
        x.undo();
        due("addSaying behind an undone one", Make.saying(x, 0, 0, 31), 11);
        due("its word", x.wordAt(11, 0), 31);
    }

    private static void yearOrRegionOutOfRange() {
        ProverbCollection x = new ProverbCollection();
        Make.fill(x, 5, 6);
        Make.refusedOutside(-3000, 2100, year -> x.addSaying(year, 0));
        Make.refusedOutside(-3000, 2100, year -> x.addSaying(year, 9));
        Make.refusedOutside(0, 9, region -> x.addSaying(-3000, region));
        Make.refusedOutside(0, 9, region -> x.addSaying(2100, region));
        Make.refusedOutside(0, 9, region -> x.addSaying(-3001, region));
        due("sayingCount", x.sayingCount(), 0);
        due("clear", x.clear(), 2);
    }

    private static void bufferDoesNotFit() {
        ProverbCollection x = new ProverbCollection();
        due("empty buffer", x.addSaying(0, 0), -2);
        for (int token = 60; token <= 64; token++) {
            due("token " + token + " alone", Make.saying(x, 0, 0, token), -2);
            for (int index = 0; index < 8; index++) {
                due("token " + token + " at " + index, Make.saying(x, 0, 0, Make.changed(Make.times(8, 59), index, token)), -2);
            }
        }
        due("clear", x.clear(), 8);
        due("addSaying behind clear", x.addSaying(0, 0), -2);
        due("sayingCount", x.sayingCount(), 0);
    }

    private static void sayingsFull() {
        ProverbCollection x = Make.singles(11);
        due("the twelfth", Make.saying(x, 0, 0, 11), 11);
        due("the thirteenth", Make.saying(x, 0, 0, 12), -3);
        due("the thirteenth of eight words", Make.saying(x, 2100, 9, Make.times(8, 59)), -3);
        due("sayingCount", x.sayingCount(), 12);
        due("the last word", x.wordAt(11, 0), 11);
        due("removeSaying(3)", x.removeSaying(3), 11);
        due("the twelfth, again", Make.saying(x, 0, 0, 12), 11);
        due("the thirteenth, again", Make.saying(x, 0, 0, 12), -3);
    }

    // ---- promise 5

    private static void removeSayingTakesItAway() {
        ProverbCollection x = new ProverbCollection();
        Make.saying(x, 30, 1, 1, 2, 3);
        Make.saying(x, 10, 2, 4);
        Make.saying(x, 20, 3, 5, 6);
        Make.pattern(x, 1, GAP);
        Make.fill(x, 7, 8);
        x.removeSaying(0);
        due("the buffer stays", x.clear(), 2);
        Make.words("the second", x, 0, 4);
        Make.words("the third", x, 1, 5, 6);
        Make.order("two", x, 0, 1);
        due("matchedSayings", x.matchedSayings(0), 0);
        x.removeSaying(0);
        Make.words("the third", x, 0, 5, 6);
        x.removeSaying(0);
        due("groupCount", x.groupCount(), 0);
        due("byAge(0)", x.byAge(0), -4);
        due("the pattern stays", x.matchedSayings(0), 0);
    }

    private static void removeSayingIsAChange() {
        ProverbCollection x = Make.singles(2);
        x.removeSaying(0);
        due("undo", x.undo(), 2);
        due("sayingCount", x.sayingCount(), 2);
        Make.words("the first", x, 0, 0);
        Make.words("the second", x, 1, 1);
    }

    private static void removeFirstAndLast() {
        ProverbCollection x = Make.singles(12);
        due("removeSaying(11)", x.removeSaying(11), 11);
        due("removeSaying(0)", x.removeSaying(0), 10);
        for (int number = 0; number < 10; number++) {
            Make.words("what is left", x, number, number + 1);
        }
        due("removeSaying(10)", x.removeSaying(10), -1);
    }

    private static void sayingsThatRemain() {
        ProverbCollection x = Make.singles(12);
        for (int count = 11; count >= 0; count--) {
            due("removeSaying", x.removeSaying(count / 2), count);
        }
        due("removeSaying of none", x.removeSaying(0), -1);
    }

    // ---- promise 6

    private static void countOfSayings() {
        ProverbCollection x = new ProverbCollection();
        due("none", x.sayingCount(), 0);
        for (int count = 1; count <= 12; count++) {
            Make.saying(x, 0, 0, 1);
            due("sayingCount", x.sayingCount(), count);
        }
        Make.saying(x, 0, 0, 1);
        due("behind a thirteenth", x.sayingCount(), 12);
        Make.pattern(x, 1);
        due("with a pattern", x.sayingCount(), 12);
        x.undo();
        x.undo();
        due("behind undo", x.sayingCount(), 11);
    }

    // ---- promise 7

    private static ProverbCollection oneToEightWords() {
        ProverbCollection x = new ProverbCollection();
        for (int length = 1; length <= 8; length++) {
            Make.saying(x, 0, 0, Make.steps(length, 0, 3));
        }
        return x;
    }

    private static void lengths() {
        ProverbCollection x = oneToEightWords();
        for (int length = 1; length <= 8; length++) {
            due("lengthOf(" + (length - 1) + ")", x.lengthOf(length - 1), length);
        }
    }

    private static void lengthsOfFirstAndLast() {
        ProverbCollection x = Make.singles(11);
        Make.saying(x, 0, 0, 1, 2);
        due("lengthOf(0)", x.lengthOf(0), 1);
        due("lengthOf(11)", x.lengthOf(11), 2);
    }

    private static void lengthBehindLongerOnes() {
        ProverbCollection x = oneToEightWords();
        x.removeSaying(7);
        Make.saying(x, 0, 0, 5);
        due("one word behind eight", x.lengthOf(7), 1);
        x.removeSaying(6);
        due("one word moved to seven", x.lengthOf(6), 1);
    }

    // ---- promise 8

    private static void wordsOfFirstAndLast() {
        ProverbCollection x = Make.singles(11);
        Make.saying(x, 0, 0, Make.steps(8, 59, -1));
        due("wordAt(0, 0)", x.wordAt(0, 0), 0);
        Make.words("the twelfth", x, 11, Make.steps(8, 59, -1));
    }

    private static void wordIndices() {
        ProverbCollection x = Make.with(Make.steps(8, 59, -8));
        due("wordAt(0, 0)", x.wordAt(0, 0), 59);
        due("wordAt(0, 7)", x.wordAt(0, 7), 3);
        due("wordAt(0, 8)", x.wordAt(0, 8), -4);
        due("greatest int", x.wordAt(0, Make.MAX), -4);
    }

    private static void noSayingOrNegativeIndex() {
        Make.noSuchSaying((x, number) -> x.wordAt(number, 0));
        Make.noSuchSaying((x, number) -> x.wordAt(number, -1));
        Make.noSuchSaying((x, number) -> x.wordAt(number, Make.MAX));
        ProverbCollection x = Make.singles(2);
        for (int index : Make.row(-1, -2, Make.MIN)) {
            due("wordAt(0, " + index + ")", x.wordAt(0, index), -1);
            due("wordAt(1, " + index + ")", x.wordAt(1, index), -1);
        }
    }

    private static void indexBehindTheEnd() {
        ProverbCollection x = oneToEightWords();
        for (int length = 1; length <= 8; length++) {
            due("the last word of " + length, x.wordAt(length - 1, length - 1), 3 * length - 3);
            for (int index : Make.row(length, length + 1, 8, 9, Make.MAX)) {
                due("wordAt " + index + " of " + length, x.wordAt(length - 1, index), -4);
            }
        }
        x.removeSaying(7);
        Make.saying(x, 0, 0, 5);
        due("one word behind eight", x.wordAt(7, 1), -4);
        x.removeSaying(6);
        due("one word moved to seven", x.wordAt(6, 1), -4);
    }

    // ---- promise 9

    private static ProverbCollection twelveYears() {
        ProverbCollection x = new ProverbCollection();
        for (int year : Make.row(3, 2100, 3, -3000, 0, 3, -1, 2100, -3000, 1, 0, 2)) {
            Make.saying(x, year, 0, 1);
        }
        return x;
    }

    private static void order() {
        Make.order("twelve", twelveYears(), 3, 8, 6, 4, 10, 9, 11, 0, 2, 5, 1, 7);
        Make.order("one", Make.singles(1), 0);
    }

    private static void firstAndLastPlace() {
        ProverbCollection x = twelveYears();
        due("byAge(0)", x.byAge(0), 3);
        due("byAge(1)", x.byAge(1), 8);
        due("byAge(11)", x.byAge(11), 7);
        due("byAge(12)", x.byAge(12), -4);
    }

    private static void orderBehindChanges() {
        ProverbCollection x = twelveYears();
        x.removeSaying(3);
        Make.order("eleven", x, 7, 5, 3, 9, 8, 10, 0, 2, 4, 1, 6);
        Make.saying(x, -3000, 0, 1);
        Make.order("one more", x, 7, 11, 5, 3, 9, 8, 10, 0, 2, 4, 1, 6);
        x.undo();
        x.undo();
        Make.order("twelve again", x, 3, 8, 6, 4, 10, 9, 11, 0, 2, 5, 1, 7);
    }

    private static void placeNegative() {
        ProverbCollection x = twelveYears();
        for (int place : Make.row(-1, -2, -12, Make.MIN)) {
            due("byAge(" + place + ")", x.byAge(place), -1);
            due("byAge(" + place + ") of none", new ProverbCollection().byAge(place), -1);
        }
    }

    private static void placeTooHigh() {
        ProverbCollection x = new ProverbCollection();
        for (int count = 0; count <= 12; count++) {
            for (int place : Make.row(count, count + 1, 12, 13, Make.MAX)) {
                due("byAge(" + place + ") of " + count, x.byAge(place), place < count ? place : -4);
            }
            Make.saying(x, 0, 0, 1);
        }
        x.removeSaying(0);
        due("byAge(11) behind a removed one", x.byAge(11), -4);
    }

    private static void bufferPromises() {
        Sentences.under("Promise 1: A new object");
        Sentences.test("Creates a collection without sayings and patterns, with the initial costs and the initial group "
            + "limit.", BufferAndSayingsTest::newObject);
        Sentences.under("Promise 2: append");
        Sentences.test("Appends a token to the token buffer.", BufferAndSayingsTest::appendPutsBehind);
        Sentences.test("`token`: 0 to 64", BufferAndSayingsTest::everyToken);
        Sentences.test("Returns the number of tokens", BufferAndSayingsTest::numberOfTokens);
        Sentences.test("INVALID_ARGUMENT if token is out of range", BufferAndSayingsTest::tokenOutOfRange);
        Sentences.test("LIMIT_REACHED if the buffer has 8 tokens.", BufferAndSayingsTest::bufferFull);
        Sentences.under("Promise 3: clear");
        Sentences.test("Empties the token buffer.", BufferAndSayingsTest::clearEmpties);
        Sentences.test("Returns the number of tokens it had.", BufferAndSayingsTest::clearTellsHowMany);
    }

    private static void changesOfSayings() {
        Sentences.under("Promise 4: addSaying");
        Sentences.test("Adds a saying with the words in the token buffer, which becomes empty.",
            BufferAndSayingsTest::addSayingTakesTheBuffer);
        Sentences.test("This is a change.", BufferAndSayingsTest::addSayingIsAChange);
        Sentences.test("`year`: -3000 to 2100", BufferAndSayingsTest::earliestAndLatestYear);
        Sentences.test("`region`: 0 to 9", BufferAndSayingsTest::firstAndLastRegion);
        Sentences.test("Returns the number of the saying", BufferAndSayingsTest::numberOfTheSaying);
        Sentences.test("INVALID_ARGUMENT if an argument is out of range", BufferAndSayingsTest::yearOrRegionOutOfRange);
        Sentences.test("INVALID_STATE if the buffer is empty or contains a slot or a gap",
            BufferAndSayingsTest::bufferDoesNotFit);
        Sentences.test("LIMIT_REACHED if there are 12 sayings.", BufferAndSayingsTest::sayingsFull);
        Sentences.under("Promise 5: removeSaying");
        Sentences.test("Removes a saying.", BufferAndSayingsTest::removeSayingTakesItAway);
        Sentences.test("This is a change.", BufferAndSayingsTest::removeSayingIsAChange);
        Sentences.test(OF_A_SAYING, BufferAndSayingsTest::removeFirstAndLast);
        Sentences.test("Returns the number of sayings that remain", BufferAndSayingsTest::sayingsThatRemain);
        Sentences.test(NO_SAYING, () -> Make.noSuchSaying(ProverbCollection::removeSaying));
        Sentences.under("Promise 6: sayingCount");
        Sentences.test("Returns the number of sayings.", BufferAndSayingsTest::countOfSayings);
    }

    private static void questionsOfSayings() {
        Sentences.under("Promise 7: lengthOf");
        Sentences.test("Returns the length of a saying.", BufferAndSayingsTest::lengthBehindLongerOnes);
        Sentences.test(OF_A_SAYING, BufferAndSayingsTest::lengthsOfFirstAndLast);
        Sentences.test("Returns the number of words", BufferAndSayingsTest::lengths);
        Sentences.test(NO_SAYING, () -> Make.noSuchSaying(ProverbCollection::lengthOf));
        Sentences.under("Promise 8: wordAt");
        Sentences.test("Returns a word of a saying.", BufferAndSayingsTest::addSayingTakesTheBuffer);
        Sentences.test(OF_A_SAYING, BufferAndSayingsTest::wordsOfFirstAndLast);
        Sentences.test("`index`: 0 or more", BufferAndSayingsTest::wordIndices);
        Sentences.test("Returns the word", BufferAndSayingsTest::appendPutsBehind);
        Sentences.test("INVALID_ARGUMENT if there is no such saying or index is negative",
            BufferAndSayingsTest::noSayingOrNegativeIndex);
        Sentences.test("NOT_FOUND if the saying is not so long.", BufferAndSayingsTest::indexBehindTheEnd);
        Sentences.under("Promise 9: byAge");
        Sentences.test("Returns a saying by its age.", BufferAndSayingsTest::order);
        Sentences.test("`place`: 0 for the oldest one, 1 for the next one, and so on",
            BufferAndSayingsTest::firstAndLastPlace);
        Sentences.test("Returns the number of the saying", BufferAndSayingsTest::orderBehindChanges);
        Sentences.test("INVALID_ARGUMENT if place is negative", BufferAndSayingsTest::placeNegative);
        Sentences.test("NOT_FOUND if there are not so many sayings.", BufferAndSayingsTest::placeTooHigh);
    }

    public static void main(String[] args) {
        bufferPromises();
        changesOfSayings();
        questionsOfSayings();
        Sentences.complete("## Promise 1:", "## Promise 10:");
        Sentences.close();
    }
}
