/** Promises 16 to 21, sentence by sentence: patterns, fillings and what matches. */
public final class PatternsTest {
    private static final String NO_PATTERN = "INVALID_ARGUMENT if there is no such pattern.";
    private static final String OF_A_PATTERN = "`pattern`: number of a pattern";
    private static final String OF_A_SAYING = "`saying`: number of a saying";
    private static final int GAP = Make.GAP;

    private static void due(String call, int got, int want) {
        Sentences.due(call, got, want);
    }

    private static int[] row(int... words) {
        return Make.row(words);
    }

    /** Saying n is the word n; pattern n is the word n with n gaps behind it. */
    private static ProverbCollection sixOfTwelve() {
        ProverbCollection x = Make.singles(12);
        for (int number = 0; number < 6; number++) {
            Make.pattern(x, Make.changed(Make.times(number + 1, GAP), 0, number));
        }
        return x;
    }

    // ---- promise 16

    private static void addPatternTakesTheBuffer() {
        ProverbCollection x = Make.with(row(1), row(1, 2), Make.times(8, 5));
        due("addPattern", Make.pattern(x, 1, 60), 0);
        due("clear", x.clear(), 0);
        due("addPattern again", x.addPattern(), -2);
        due("it is there", x.matchedSayings(0), 2);
        due("eight tokens", Make.pattern(x, 5, 5, 5, 60, 60, GAP, GAP, 5), 1);
        due("clear behind eight", x.clear(), 0);
        due("it is there, with eight tokens", x.matchedSayings(1), 4);
        Make.fill(x, 1, 60, GAP);
        due("words, slots and gaps", x.addPattern(), 2);
        due("the sayings stay", x.sayingCount(), 3);
    }

    private static void addPatternIsAChange() {
        ProverbCollection x = new ProverbCollection();
        Make.pattern(x, 1);
        due("undo", x.undo(), 0);
        due("it is gone", x.matchedSayings(0), -1);
        due("undo again", x.undo(), -2);
    }

    private static void numberOfThePattern() {
        ProverbCollection x = Make.with(row(9));
        for (int number = 0; number < 6; number++) {
            due("addPattern", Make.pattern(x, number), number);
        }
        x.removePattern(0);
        due("addPattern behind a removed one", Make.pattern(x, 9), 5);
        due("it is there", x.matchedSayings(5), 1);
        x.undo();
        due("addPattern behind an undone one", Make.pattern(x, 8), 5);
        due("it is another one", x.matchedSayings(5), 0);
    }

    private static void bufferEmpty() {
        ProverbCollection x = new ProverbCollection();
        due("a new object", x.addPattern(), -2);
        x.append(GAP);
        x.clear();
        due("behind clear", x.addPattern(), -2);
        Make.saying(x, 0, 0, 1);
        due("behind addSaying", x.addPattern(), -2);
        due("one token is enough", Make.pattern(x, GAP), 0);
        due("behind addPattern", x.addPattern(), -2);
        x.undo();
        due("behind undo", x.addPattern(), -2);
    }

    private static void patternsFull() {
        ProverbCollection x = Make.with(row(5), row(1));
        for (int number = 0; number < 5; number++) {
            Make.pattern(x, 1);
        }
        due("the sixth", Make.pattern(x, 5), 5);
        due("the seventh", Make.pattern(x, 1), -3);
        due("the seventh of eight tokens", Make.pattern(x, Make.times(8, GAP)), -3);
        due("the sixth stays", x.matchedSayings(5), 1);
        due("removePattern(2)", x.removePattern(2), 5);
        due("the sixth again", Make.pattern(x, 1), 5);
        due("the seventh again", Make.pattern(x, 1), -3);
    }

    // ---- promise 17

    private static void numbersBehindARemovedOne() {
        for (int removed = 0; removed < 6; removed++) {
            ProverbCollection x = sixOfTwelve();
            Make.fill(x, 7, GAP);
            x.removePattern(removed);
            due("the buffer stays", x.clear(), 2);
            for (int number = 0; number < 5; number++) {
                int before = number < removed ? number : number + 1;
                due("matchedSayings of " + before + " without " + removed, x.matchedSayings(number), 1 << before);
                due("fillings of " + before + " without " + removed, x.fillings(number, before), 1);
            }
            due("the number that is free", x.matchedSayings(5), -1);
        }
    }

    private static void removePatternIsAChange() {
        ProverbCollection x = sixOfTwelve();
        x.removePattern(0);
        due("undo", x.undo(), 4);
        for (int number = 0; number < 6; number++) {
            due("matchedSayings(" + number + ")", x.matchedSayings(number), 1 << number);
        }
    }

    private static void removeFirstAndLast() {
        ProverbCollection x = sixOfTwelve();
        due("removePattern(5)", x.removePattern(5), 5);
        due("removePattern(0)", x.removePattern(0), 4);
        due("what was pattern 1", x.matchedSayings(0), 2);
        due("what was pattern 4", x.matchedSayings(3), 16);
        due("removePattern(4)", x.removePattern(4), -1);
    }

    private static void patternsThatRemain() {
        ProverbCollection x = sixOfTwelve();
        for (int count = 5; count >= 0; count--) {
            due("removePattern", x.removePattern(count / 2), count);
        }
        due("removePattern of none", x.removePattern(0), -1);
    }

    // ---- promise 18

    private static void countOfFillings() {
        ProverbCollection x = Make.with(Make.times(8, 7), row(7), row(8), Make.steps(8, 0, 1));
        Make.pattern(x, Make.times(8, GAP));
        due("eight gaps, eight words", x.fillings(0, 0), 6435);
        due("eight gaps, one word", x.fillings(0, 1), 8);
        Make.pattern(x, 7);
        due("a word", x.fillings(1, 1), 1);
        due("another word", x.fillings(1, 2), 0);
        due("too many words", x.fillings(1, 0), 0);
        Make.pattern(x, GAP, 60, GAP, 60, GAP);
        due("two of eight equal words", x.fillings(2, 0), 28);
        due("two equal words of eight different ones", x.fillings(2, 3), 0);
        due("two words of one", x.fillings(2, 1), 0);
    }

    private static void fillingsOfFirstAndLastPattern() {
        ProverbCollection x = sixOfTwelve();
        due("fillings(0, 0)", x.fillings(0, 0), 1);
        due("fillings(5, 5)", x.fillings(5, 5), 1);
        due("fillings(5, 0)", x.fillings(5, 0), 0);
    }

    private static void fillingsOfFirstAndLastSaying() {
        ProverbCollection x = sixOfTwelve();
        x.removePattern(0);
        Make.pattern(x, GAP, 11, GAP);
        due("fillings(5, 0)", x.fillings(5, 0), 0);
        due("fillings(5, 11)", x.fillings(5, 11), 1);
    }

    private static void noneOrMany() {
        ProverbCollection x = Make.with(row(1, 2, 1), row(1, 2), row(1));
        Make.pattern(x, GAP, 1, GAP);
        due("the word twice", x.fillings(0, 0), 2);
        due("the word once", x.fillings(0, 1), 1);
        Make.pattern(x, 1, 2, 1, GAP);
        due("a gap of no words", x.fillings(1, 0), 1);
        due("a word too few", x.fillings(1, 1), 0);
        due("two words too few", x.fillings(1, 2), 0);
        Make.pattern(x, 60, 60);
        due("different words for a slot", x.fillings(2, 1), 0);
    }

    private static void noPatternOrSaying() {
        Make.noSuchSaying((x, number) -> x.fillings(0, number));
        Make.noSuchSaying((x, number) -> x.fillings(number, number));
        Make.noSuchPattern((x, number) -> x.fillings(number, 0));
        Make.noSuchPattern((x, number) -> x.fillings(number, 99));
    }

    // ---- promise 19

    private static void wordOfTheFirstFilling() {
        ProverbCollection x = Make.with(row(5, 6, 7, 6), row(5, 5));
        Make.pattern(x, GAP, 60, GAP, 61, GAP);
        due("slot 0", x.slotWord(0, 0, 0), 5);
        due("slot 1", x.slotWord(0, 0, 1), 6);
        due("slot 1 of equal words", x.slotWord(0, 1, 1), 5);
        Make.pattern(x, GAP, 63, GAP, 63);
        due("the first gap cannot be empty", x.slotWord(1, 0, 3), 6);
        due("both gaps empty", x.slotWord(1, 1, 3), 5);
    }

    private static void slotsOfFirstAndLastPattern() {
        ProverbCollection x = Make.with(row(9));
        for (int slot : row(60, 61, 62, 63, 60, 61)) {
            Make.pattern(x, slot);
        }
        due("slotWord(0, 0, 0)", x.slotWord(0, 0, 0), 9);
        due("slotWord(5, 0, 1)", x.slotWord(5, 0, 1), 9);
        due("slotWord(5, 0, 0)", x.slotWord(5, 0, 0), -4);
    }

    private static void slotsOfFirstAndLastSaying() {
        ProverbCollection x = Make.singles(12);
        Make.pattern(x, 60);
        due("slotWord(0, 0, 0)", x.slotWord(0, 0, 0), 0);
        due("slotWord(0, 11, 0)", x.slotWord(0, 11, 0), 11);
    }

    private static void fourSlots() {
        ProverbCollection x = Make.with(row(59, 0, 7, 30));
        Make.pattern(x, 60, 61, 62, 63);
        Make.pattern(x, 63, 62, 61, 60);
        for (int slot = 0; slot < 4; slot++) {
            due("slotWord(0, 0, " + slot + ")", x.slotWord(0, 0, slot), row(59, 0, 7, 30)[slot]);
            due("slotWord(1, 0, " + slot + ")", x.slotWord(1, 0, slot), row(30, 7, 0, 59)[slot]);
        }
    }

    private static void leastAndGreatestWord() {
        ProverbCollection x = Make.with(row(0), row(59), row(0, 59, 0));
        Make.pattern(x, 60);
        due("the word 0", x.slotWord(0, 0, 0), 0);
        due("the word 59", x.slotWord(0, 1, 0), 59);
        Make.pattern(x, 60, 61, 60);
        due("the word 0, twice", x.slotWord(1, 2, 0), 0);
        due("the word 59 between them", x.slotWord(1, 2, 1), 59);
    }

    private static void slotOutOfRange() {
        ProverbCollection x = Make.with(row(5), row(6, 7));
        Make.pattern(x, 60);
        Make.refusedOutside(0, 3, slot -> x.slotWord(0, 0, slot));
        Make.refusedOutside(0, 3, slot -> x.slotWord(0, 1, slot));
        due("slot 60 is slot 0", x.slotWord(0, 0, 60), -1);
        for (int slot : row(0, 3, 4)) {
            Make.noSuchSaying((y, number) -> y.slotWord(0, number, slot));
            Make.noSuchPattern((y, number) -> y.slotWord(number, 0, slot));
        }
    }

    private static void noMatchOrNoSlot() {
        ProverbCollection x = Make.with(row(5), row(6, 7), row(6, 6));
        Make.pattern(x, 60);
        for (int slot = 1; slot < 4; slot++) {
            due("slot " + slot + " is not in the pattern", x.slotWord(0, 0, slot), -4);
        }
        due("the saying is too long", x.slotWord(0, 1, 0), -4);
        Make.pattern(x, 60, 60);
        due("different words", x.slotWord(1, 1, 0), -4);
        due("the same word", x.slotWord(1, 2, 0), 6);
        due("the saying is too short", x.slotWord(1, 0, 0), -4);
        Make.pattern(x, 60, 61, GAP, 9);
        due("a filling that fails at the end", x.slotWord(2, 1, 0), -4);
        Make.pattern(x, GAP);
        due("no slot at all", x.slotWord(3, 0, 0), -4);
        due("slots of another question are no answer", x.slotWord(3, 2, 0), -4);
    }

    // ---- promise 20

    private static void setOfSayings() {
        ProverbCollection x = Make.with(row(1, 2), row(1), row(2, 1), row(1, 2, 3));
        Make.pattern(x, 1, GAP);
        due("with 1 in front", x.matchedSayings(0), 11);
        Make.pattern(x, 60, 61);
        due("of two words", x.matchedSayings(1), 5);
        Make.pattern(x, 60, 60);
        due("none", x.matchedSayings(2), 0);
        due("of no sayings", emptyWithAPattern().matchedSayings(0), 0);
    }

    private static ProverbCollection emptyWithAPattern() {
        ProverbCollection x = new ProverbCollection();
        Make.pattern(x, GAP);
        return x;
    }

    private static void setsOfFirstAndLast() {
        ProverbCollection x = sixOfTwelve();
        due("matchedSayings(0)", x.matchedSayings(0), 1);
        due("matchedSayings(5)", x.matchedSayings(5), 32);
    }

    private static void bits() {
        ProverbCollection x = Make.singles(12);
        Make.pattern(x, GAP);
        due("all twelve", x.matchedSayings(0), 4095);
        Make.pattern(x, 0);
        due("saying 0", x.matchedSayings(1), 1);
        Make.pattern(x, 11);
        due("saying 11", x.matchedSayings(2), 2048);
        x.removeSaying(11);
        due("eleven", x.matchedSayings(0), 2047);
        due("saying 11 removed", x.matchedSayings(2), 0);
        x.undo();
        x.removeSaying(0);
        due("saying 11 is 10 now", x.matchedSayings(2), 1024);
    }

    // ---- promise 21

    private static int best(int[] words, int[]... patterns) {
        ProverbCollection x = Make.with(words);
        for (int[] pattern : patterns) {
            Make.pattern(x, pattern);
        }
        return x.bestPattern(0);
    }

    private static void bestOfSeveral() {
        int[] words = row(1, 2, 3);
        due("more words", best(words, row(1, GAP), row(1, 2, GAP)), 1);
        due("more words, the other way round", best(words, row(1, 2, GAP), row(1, GAP)), 0);
        due("eight words before one", best(Make.times(8, 1), Make.changed(Make.times(8, GAP), 0, 1), Make.times(8, 1)), 1);
        due("two words and six gaps before one", best(words, row(1, 60, 61), row(1, GAP, 2, GAP, GAP, GAP, GAP, GAP)), 1);
        due("a word and seven gaps before none", best(words, row(60, 61, 62), row(1, GAP, GAP, GAP, GAP, GAP, GAP, GAP)), 1);
        due("fewer gaps", best(words, row(1, GAP, GAP), row(1, GAP)), 1);
        due("no gap before one", best(words, row(1, 60, GAP), row(1, 60, 61)), 1);
        due("seven gaps before eight", best(words, Make.times(8, GAP), Make.times(7, GAP)), 1);
        due("the lowest number", best(words, row(1, GAP), row(GAP, 3), row(GAP, 2, 60)), 0);
        due("slots make no difference", best(words, row(GAP), row(60, 61, GAP)), 0);
        due("a word is counted as often as it occurs", best(row(1, 1, 2), row(60, 60, 2), row(1, 1, 61)), 1);
        due("only those that match", best(words, row(1, 2), row(1, 2, 3, 4), row(4, GAP), row(GAP)), 3);
        due("as many tokens, more words", best(words, row(60, GAP, 61), row(60, GAP, 3)), 1);
    }

    private static void bestOfFirstAndLastSaying() {
        ProverbCollection x = Make.singles(12);
        Make.pattern(x, 11);
        Make.pattern(x, 0);
        due("bestPattern(0)", x.bestPattern(0), 1);
        due("bestPattern(11)", x.bestPattern(11), 0);
        due("bestPattern(5)", x.bestPattern(5), -4);
    }

    private static void firstAndLastAreBest() {
        ProverbCollection x = sixOfTwelve();
        due("the first", x.bestPattern(0), 0);
        due("the last", x.bestPattern(5), 5);
        x.removePattern(0);
        due("the last, moved", x.bestPattern(5), 4);
        due("the first, removed", x.bestPattern(0), -4);
        x.undo();
        due("the first again", x.bestPattern(0), 0);
    }

    private static void nonePattern() {
        ProverbCollection x = Make.with(row(1, 2));
        due("no pattern", x.bestPattern(0), -4);
        Make.pattern(x, 1);
        Make.pattern(x, 60, 60);
        Make.pattern(x, 60, 61, 62);
        due("no pattern that matches", x.bestPattern(0), -4);
        Make.pattern(x, 60, 61);
        due("a pattern without words or gaps", x.bestPattern(0), 3);
        x.removePattern(3);
        due("no pattern that matches, again", x.bestPattern(0), -4);
        due("eight gaps match", best(row(1), Make.times(8, GAP)), 0);
    }

    private static void changesOfPatterns() {
        Sentences.under("Promise 16: addPattern");
        Sentences.test("Adds a pattern with the tokens in the token buffer, which becomes empty.",
            PatternsTest::addPatternTakesTheBuffer);
        Sentences.test("This is a change.", PatternsTest::addPatternIsAChange);
        Sentences.test("Returns the number of the pattern", PatternsTest::numberOfThePattern);
        Sentences.test("INVALID_STATE if the buffer is empty", PatternsTest::bufferEmpty);
        Sentences.test("LIMIT_REACHED if there are 6 patterns.", PatternsTest::patternsFull);
        Sentences.under("Promise 17: removePattern");
        Sentences.test("Removes a pattern; those with higher numbers get a number that is lower by one.",
            PatternsTest::numbersBehindARemovedOne);
        Sentences.test("This is a change.", PatternsTest::removePatternIsAChange);
        Sentences.test(OF_A_PATTERN, PatternsTest::removeFirstAndLast);
        Sentences.test("Returns the number of patterns that remain", PatternsTest::patternsThatRemain);
        Sentences.test(NO_PATTERN, () -> Make.noSuchPattern(ProverbCollection::removePattern));
    }

    private static void fillingPromises() {
        Sentences.under("Promise 18: fillings");
        Sentences.test("Returns the number of fillings by which a pattern matches a saying.", PatternsTest::countOfFillings);
        Sentences.test(OF_A_PATTERN, PatternsTest::fillingsOfFirstAndLastPattern);
        Sentences.test(OF_A_SAYING, PatternsTest::fillingsOfFirstAndLastSaying);
        Sentences.test("Returns the number of fillings, 0 if it does not match", PatternsTest::noneOrMany);
        Sentences.test("INVALID_ARGUMENT if an argument is out of range.", PatternsTest::noPatternOrSaying);
        Sentences.under("Promise 19: slotWord");
        Sentences.test("Returns the word that the first filling chooses for a slot.", PatternsTest::wordOfTheFirstFilling);
        Sentences.test(OF_A_PATTERN, PatternsTest::slotsOfFirstAndLastPattern);
        Sentences.test(OF_A_SAYING, PatternsTest::slotsOfFirstAndLastSaying);
        Sentences.test("`slot`: 0 to 3", PatternsTest::fourSlots);
        Sentences.test("Returns the word", PatternsTest::leastAndGreatestWord);
        Sentences.test("INVALID_ARGUMENT if an argument is out of range", PatternsTest::slotOutOfRange);
        Sentences.test("NOT_FOUND if the pattern does not match or does not contain the slot.",
            PatternsTest::noMatchOrNoSlot);
    }

    private static void matchingPromises() {
        Sentences.under("Promise 20: matchedSayings");
        Sentences.test("Returns the set of the sayings that a pattern matches.", PatternsTest::setOfSayings);
        Sentences.test(OF_A_PATTERN, PatternsTest::setsOfFirstAndLast);
        Sentences.test("Returns the set as a bit mask (bit s for saying s)", PatternsTest::bits);
        Sentences.test(NO_PATTERN, () -> Make.noSuchPattern(ProverbCollection::matchedSayings));
        Sentences.under("Promise 21: bestPattern");
        Sentences.test("Finds the pattern that fits a saying best: of the patterns that match it the one with the most "
            + "words, of several the one with the fewest gaps, of these the one with the lowest number.",
            PatternsTest::bestOfSeveral);
        Sentences.test(OF_A_SAYING, PatternsTest::bestOfFirstAndLastSaying);
        Sentences.test("Returns the number of the pattern", PatternsTest::firstAndLastAreBest);
        Sentences.test("INVALID_ARGUMENT if there is no such saying", () -> Make.noSuchSaying(ProverbCollection::bestPattern));
        Sentences.test("NOT_FOUND if no pattern matches it.", PatternsTest::nonePattern);
    }

    public static void main(String[] args) {
        changesOfPatterns();
        fillingPromises();
        matchingPromises();
        Sentences.complete("## Promise 16:", "## Promise 22:");
        Sentences.close();
    }
}
