import java.util.ArrayList;
import java.util.List;

/**
 * "Edits and errors", sentence by sentence. What a call leaves as it was is found by twins: two collections are made in
 * the same way, the call is made on one of them, and both must then answer alike, whatever they are asked.
 */
public final class ChangesAndErrorsTest {
    private static final int GAP = Make.GAP;

    private interface Step {
        void on(ProverbCollection x);
    }

    private interface Call {
        int on(ProverbCollection x);
    }

    /** Asks a collection and notes its answers; it may use the collection up. */
    private interface Questions {
        void ask(ProverbCollection x, List<Integer> answers);
    }

    private static void due(String call, int got, int want) {
        Sentences.due(call, got, want);
    }

    // ---- twins

    private static final Questions[] ALL_QUESTIONS = {
        ChangesAndErrorsTest::askSayings, ChangesAndErrorsTest::askPatterns, ChangesAndErrorsTest::askGroups,
        ChangesAndErrorsTest::askCosts, ChangesAndErrorsTest::askBufferForWords,
        ChangesAndErrorsTest::askBufferForTokens, ChangesAndErrorsTest::askUndo, askRegion(0), askRegion(1),
        askRegion(2), askRegion(11),
    };

    /** All but the buffer and what can be undone: what the changes change. */
    private static final Questions[] STATE_QUESTIONS = {
        ChangesAndErrorsTest::askSayings, ChangesAndErrorsTest::askPatterns, ChangesAndErrorsTest::askGroups,
        ChangesAndErrorsTest::askCosts, askRegion(0), askRegion(1), askRegion(2), askRegion(11),
    };

    private static final Questions[] BUFFER_QUESTIONS = {
        ChangesAndErrorsTest::askBufferForWords, ChangesAndErrorsTest::askBufferForTokens,
    };

    private static void askSayings(ProverbCollection x, List<Integer> answers) {
        answers.add(x.sayingCount());
        for (int saying = 0; saying < x.sayingCount() && saying < 12; saying++) {
            answers.add(x.lengthOf(saying));
            for (int index = 0; index <= 8; index++) {
                answers.add(x.wordAt(saying, index));
            }
            answers.add(x.byAge(saying));
            answers.add(x.nearest(saying));
            answers.add(x.distance(saying, 0));
            answers.add(x.similarityBits(0, saying));
            answers.add(x.editCount(saying, 0));
            answers.add(x.editAt(saying, 0, 0));
            answers.add(x.crossing(saying, 20));
            answers.add(x.crossingCost(saying, 0, 1));
        }
    }

    private static void askPatterns(ProverbCollection x, List<Integer> answers) {
        for (int pattern = 0; pattern <= 6; pattern++) {
            askPattern(x, pattern, answers);
        }
        for (int saying = 0; saying <= 12; saying++) {
            answers.add(x.bestPattern(saying));
        }
    }

    private static void askPattern(ProverbCollection x, int pattern, List<Integer> answers) {
        answers.add(x.matchedSayings(pattern));
        for (int saying = 0; saying <= 12; saying++) {
            answers.add(x.fillings(pattern, saying));
        }
        for (int slot = 0; slot < 4; slot++) {
            answers.add(x.slotWord(pattern, 0, slot));
        }
    }

    private static void askGroups(ProverbCollection x, List<Integer> answers) {
        answers.add(x.groupCount());
        for (int number = 0; number <= 12; number++) {
            answers.add(x.groupOf(number));
            answers.add(x.centreOf(number));
            for (int what = 0; what <= 2; what++) {
                answers.add(x.groupInfo(number, what));
            }
        }
    }

    private static void askCosts(ProverbCollection x, List<Integer> answers) {
        for (int cost = 0; cost < 4; cost++) {
            answers.add(x.setCost(cost, 5));
        }
        answers.add(x.setLimit(5));
    }

    /** The region of a saying is found by the one that makes no second one in its group. */
    private static Questions askRegion(int saying) {
        return (x, answers) -> {
            for (int other = x.sayingCount() - 1; other >= 0; other--) {
                answers.add(other == saying ? other : x.removeSaying(other));
            }
            x.setCost(ProverbCollection.INSERTING, 1);
            x.setLimit(20);
            for (int region = 0; region <= 9; region++) {
                Make.saying(x, 0, region, 1);
                answers.add(x.groupInfo(0, 1));
                x.removeSaying(1);
            }
        };
    }

    private static void askBufferForWords(ProverbCollection x, List<Integer> answers) {
        answers.add(x.removeSaying(0));
        int saying = x.addSaying(0, 0);
        answers.add(saying);
        for (int index = 0; index <= 8; index++) {
            answers.add(x.wordAt(saying, index));
        }
        answers.add(x.clear());
    }

    private static void askBufferForTokens(ProverbCollection x, List<Integer> answers) {
        answers.add(x.removePattern(0));
        int pattern = x.addPattern();
        answers.add(pattern);
        askPattern(x, pattern, answers);
        answers.add(x.clear());
    }

    private static void askUndo(ProverbCollection x, List<Integer> answers) {
        for (int undone = 0; undone <= 6; undone++) {
            answers.add(x.undo());
            answers.add(x.sayingCount());
            answers.add(x.wordAt(0, 0));
            answers.add(x.byAge(0));
            answers.add(x.distance(0, 1));
            answers.add(x.groupCount());
            for (int pattern = 0; pattern < 6; pattern++) {
                answers.add(x.matchedSayings(pattern));
            }
        }
        askCosts(x, answers);
    }

    private static ProverbCollection made(Step... steps) {
        ProverbCollection x = new ProverbCollection();
        for (Step step : steps) {
            step.on(x);
        }
        return x;
    }

    private static void alike(String name, Questions[] questions, Step[] one, Step[] other) {
        for (int number = 0; number < questions.length; number++) {
            List<Integer> answers = new ArrayList<>();
            List<Integer> wanted = new ArrayList<>();
            questions[number].ask(made(one), answers);
            questions[number].ask(made(other), wanted);
            due(name + ": answers to questions " + number + " that are alike", answers.equals(wanted) ? 1 : 0, 1);
        }
    }

    /** A call that answers so and changes nothing. */
    private static void idle(String name, Step setting, Call call, int want) {
        due(name, call.on(made(setting)), want);
        alike(name, ALL_QUESTIONS, new Step[] {setting, call::on}, new Step[] {setting});
    }

    // ---- settings

    private static void empty(ProverbCollection x) {
        Make.fill(x);
    }

    private static void ordinary(ProverbCollection x) {
        Make.saying(x, 1500, 1, 0, 4, 8);
        Make.saying(x, 1400, 2, 20, 24, 28);
        Make.pattern(x, 60, GAP);
        Make.pattern(x, GAP, 28, GAP);
        x.setCost(ProverbCollection.SWAPPING, 7);
        x.setLimit(6);
        Make.saying(x, 1600, 1, 0, 25, 28);
        Make.fill(x);
    }

    private static void withWords(ProverbCollection x) {
        ordinary(x);
        Make.fill(x, 0, 25);
    }

    private static void withSlots(ProverbCollection x) {
        ordinary(x);
        Make.fill(x, 61, GAP, 28);
    }

    private static void full(ProverbCollection x) {
        for (int number = 0; number < 6; number++) {
            Make.pattern(x, number, GAP);
        }
        for (int number = 0; number < 12; number++) {
            Make.saying(x, 100 - number, number % 10, number, number + 40);
        }
        x.setLimit(1);
        Make.fill(x);
    }

    private static void fullWithWords(ProverbCollection x) {
        full(x);
        Make.fill(x, Make.steps(8, 1, 7));
    }

    private static void fullWithSlots(ProverbCollection x) {
        full(x);
        Make.fill(x, 1, 60);
    }

    private static void single(ProverbCollection x) {
        Make.pattern(x, 60, 61);
        Make.saying(x, 0, 0, 5);
        Make.fill(x, 5, 6);
    }

    // ---- changes

    private static final Step[] CHANGES = {
        x -> Make.saying(x, 10, 1, 0, 4, 8),
        x -> Make.saying(x, 5, 2, 0, 5, 8),
        x -> Make.pattern(x, 60, GAP),
        x -> x.setCost(2, 4),
        x -> x.setLimit(4),
        x -> Make.saying(x, 7, 3, 20, 24, 28),
        x -> x.removeSaying(0),
        x -> Make.pattern(x, GAP, 28),
        x -> x.setLimit(4),
        x -> x.removePattern(0),
        x -> x.setCost(1, 3),
        x -> x.setCost(3, 9),
        x -> Make.saying(x, 6, 4, 24, 20, 28),
        x -> x.removeSaying(1),
        x -> x.setLimit(0),
    };

    private static Step[] first(int count) {
        Step[] steps = new Step[count];
        System.arraycopy(CHANGES, 0, steps, 0, count);
        return steps;
    }

    private static Step[] join(Step[] steps, Step... more) {
        Step[] all = new Step[steps.length + more.length];
        System.arraycopy(steps, 0, all, 0, steps.length);
        System.arraycopy(more, 0, all, steps.length, more.length);
        return all;
    }

    private static Step undone(int times) {
        return x -> {
            for (int time = 0; time < times; time++) {
                x.undo();
            }
        };
    }

    /** Each kind of change can be undone, with all that it brought. */
    private static void kindsOfChanges() {
        Step[] before = {ChangesAndErrorsTest::withWords};
        String[] names = {"addSaying", "removeSaying", "removeSaying of the last", "addPattern", "removePattern",
            "removePattern of the last", "setCost", "setLimit"};
        Step[] changes = {x -> x.addSaying(0, 9), x -> x.removeSaying(0), x -> x.removeSaying(2), x -> x.addPattern(),
            x -> x.removePattern(0), x -> x.removePattern(1), x -> x.setCost(0, 9), x -> x.setLimit(20)};
        for (int number = 0; number < changes.length; number++) {
            Step[] changed = join(before, changes[number]);
            due(names[number] + ": undo", made(changed).undo(), 4);
            alike(names[number] + " and undo", STATE_QUESTIONS, join(changed, undone(1)), before);
            Step four = x -> {
                for (int cost = 0; cost < 4; cost++) {
                    x.setCost(cost, 8);
                }
            };
            alike(names[number] + ", four more, five undone", STATE_QUESTIONS, join(changed, four, undone(5)), before);
        }
        noChanges();
    }

    /** What is not in the list of changes leaves nothing to undo. */
    private static void noChanges() {
        ProverbCollection x = new ProverbCollection();
        x.append(1);
        x.clear();
        due("undo behind append and clear", x.undo(), -2);
        single(x);
        questions(x);
        Make.fill(x, 1, 2);
        due("undo behind questions", x.undo(), 1);
        due("undo is no change itself", x.undo(), 0);
        due("undo of undo", x.undo(), -2);
    }

    private static void questions(ProverbCollection x) {
        x.sayingCount();
        x.lengthOf(0);
        x.wordAt(0, 0);
        x.byAge(0);
        x.distance(0, 0);
        x.similarityBits(0, 0);
        x.editCount(0, 0);
        x.editAt(0, 0, 0);
        x.nearest(0);
        x.fillings(0, 0);
        x.slotWord(0, 0, 0);
        x.matchedSayings(0);
        x.bestPattern(0);
        x.groupCount();
        x.groupOf(0);
        x.centreOf(0);
        x.groupInfo(0, 0);
        x.crossingCost(0, 0, 0);
        x.crossing(0, 0);
    }

    /** Behind every number of changes, every number of undone ones up to seven. */
    private static void lastFive() {
        for (int count = 0; count <= CHANGES.length; count++) {
            for (int times = 0; times <= 7; times++) {
                String name = count + " changes, " + times + " undone";
                int left = Math.min(count, 5) - times;
                due(name + ": undo", made(join(first(count), undone(times))).undo(), left > 0 ? left - 1 : -2);
                int stand = count - Math.min(times, Math.min(count, 5));
                alike(name, STATE_QUESTIONS, join(first(count), undone(times)), first(stand));
            }
        }
    }

    /** A new change behind undone ones stands in their place; those before it can still be undone. */
    private static void changesBehindUndoneOnes() {
        for (int times = 1; times <= 5; times++) {
            for (int more = 1; more <= 7; more++) {
                Step[] steps = join(first(8), undone(times));
                for (int number = 0; number < more; number++) {
                    int value = 1 + number;
                    steps = join(steps, x -> x.setCost(0, value));
                }
                int left = Math.min(5, 5 - times + more);
                String name = times + " undone, " + more + " more";
                due(name + ": undo", made(steps).undo(), left - 1);
                Step[] back = join(steps, undone(left));
                due(name + ": nothing left", made(back).undo(), -2);
                if (more + 5 - times <= 5) {
                    alike(name + ", all undone", STATE_QUESTIONS, back, first(3));
                }
                alike(name + ", those undone", STATE_QUESTIONS, join(steps, undone(Math.min(more, 5))),
                    more <= 5 ? first(8 - times) : join(first(8 - times), costsUpTo(more - 5)));
            }
        }
    }

    private static Step costsUpTo(int value) {
        return x -> x.setCost(0, value);
    }

    /** The five are always the last five, however many there were before. */
    private static void manyChanges() {
        ProverbCollection x = new ProverbCollection();
        for (int number = 0; number < 480; number++) {
            due("setLimit, change " + number, x.setLimit(number % 21), number == 0 ? 3 : (number - 1) % 21);
        }
        for (int left = 4; left >= 0; left--) {
            due("undo", x.undo(), left);
        }
        due("one more undo", x.undo(), -2);
        due("the limit of change 474", x.setLimit(0), 474 % 21);
    }

    private static void bufferIsNotAffected() {
        Step[][] settings = {{ChangesAndErrorsTest::withWords}, {ChangesAndErrorsTest::withSlots},
            {ChangesAndErrorsTest::ordinary}, {ChangesAndErrorsTest::fullWithWords}};
        for (Step[] setting : settings) {
            int tokens = made(setting).clear();
            for (int times = 1; times <= 5; times++) {
                due("clear behind undo", made(join(setting, undone(times))).clear(), tokens);
            }
            // undoing five changes takes sayings and patterns away that the buffer is read by, so one change is undone
            Step change = x -> x.setLimit(9);
            alike("the buffer behind undo", BUFFER_QUESTIONS, join(setting, change, undone(1)), setting);
        }
        emptiedBufferStaysEmpty();
    }

    private static void emptiedBufferStaysEmpty() {
        ProverbCollection x = new ProverbCollection();
        Make.fill(x, 1, 2);
        x.addSaying(0, 0);
        x.undo();
        due("clear behind an undone addSaying", x.clear(), 0);
        Make.fill(x, 1, 2, 60);
        x.addPattern();
        x.undo();
        due("clear behind an undone addPattern", x.clear(), 0);
        Make.saying(x, 0, 0, 3);
        Make.fill(x, 4, 5);
        x.removeSaying(0);
        due("removeSaying leaves the buffer", x.append(6), 3);
        x.undo();
        due("undo leaves the buffer", x.append(7), 4);
        x.addSaying(0, 0);
        Make.words("the words in the buffer", x, 1, 4, 5, 6, 7);
    }

    private static void changesThatLeaveEverything() {
        int[] costs = {2, 3, 1, 2};
        for (int cost = 0; cost < 4; cost++) {
            int same = cost;
            countsAsAChange("setCost(" + cost + ", the same value)", x -> x.setCost(same, costs[same]));
        }
        countsAsAChange("setLimit(the same limit)", x -> x.setLimit(3));
    }

    private static void countsAsAChange(String name, Step same) {
        ProverbCollection x = made(same);
        due(name + ": undo", x.undo(), 0);
        due(name + ": undo again", x.undo(), -2);
        Step real = y -> y.setCost(0, 9);
        ProverbCollection four = made(real, same, same, same, same);
        for (int left = 4; left >= 0; left--) {
            due(name + ": four behind a change, undo", four.undo(), left);
        }
        due(name + ": four behind a change, all undone", four.setCost(0, 2), 2);
        ProverbCollection five = made(real, same, same, same, same, same);
        for (int left = 4; left >= 0; left--) {
            due(name + ": five behind a change, undo", five.undo(), left);
        }
        due(name + ": five behind a change, one more undo", five.undo(), -2);
        due(name + ": five behind a change, which stands", five.setCost(0, 2), 9);
    }

    // ---- errors

    private static void argumentBeforeState() {
        for (int year : new int[] {-3001, 2101, Make.MIN, Make.MAX}) {
            due("empty buffer and the year " + year, made(ChangesAndErrorsTest::ordinary).addSaying(year, 0), -1);
            due("slots and the year " + year, made(ChangesAndErrorsTest::withSlots).addSaying(year, 0), -1);
            due("full, slots and the year " + year, made(ChangesAndErrorsTest::fullWithSlots).addSaying(year, 0), -1);
            due("full, empty buffer and the year " + year, made(ChangesAndErrorsTest::full).addSaying(year, 0), -1);
            due("full and the year " + year, made(ChangesAndErrorsTest::fullWithWords).addSaying(year, 0), -1);
        }
        for (int region : new int[] {-1, 10, Make.MIN, Make.MAX}) {
            due("empty buffer and the region " + region, made(ChangesAndErrorsTest::ordinary).addSaying(0, region), -1);
            due("slots and the region " + region, made(ChangesAndErrorsTest::withSlots).addSaying(0, region), -1);
            due("full, slots and the region " + region, made(ChangesAndErrorsTest::fullWithSlots).addSaying(0, region), -1);
            due("full, empty buffer and the region " + region, made(ChangesAndErrorsTest::full).addSaying(0, region), -1);
            due("full and the region " + region, made(ChangesAndErrorsTest::fullWithWords).addSaying(0, region), -1);
        }
    }

    private static void stateBeforeLimit() {
        due("addSaying: full and empty buffer", made(ChangesAndErrorsTest::full).addSaying(0, 0), -2);
        due("addSaying: full and a slot", made(ChangesAndErrorsTest::fullWithSlots).addSaying(0, 0), -2);
        due("addSaying: full alone", made(ChangesAndErrorsTest::fullWithWords).addSaying(0, 0), -3);
        due("addPattern: full and empty buffer", made(ChangesAndErrorsTest::full).addPattern(), -2);
        due("addPattern: full alone", made(ChangesAndErrorsTest::fullWithSlots).addPattern(), -3);
        ProverbCollection x = made(ChangesAndErrorsTest::fullWithWords);
        for (int token : new int[] {-1, 65, Make.MIN, Make.MAX}) {
            due("append(" + token + ") to a full buffer", x.append(token), -1);
        }
        due("append(64) to a full buffer", x.append(64), -3);
    }

    private static void argumentBeforeNotFound() {
        ProverbCollection none = new ProverbCollection();
        ProverbCollection x = made(ChangesAndErrorsTest::single);
        due("byAge(-1) of none", none.byAge(-1), -1);
        due("wordAt(1, 9)", x.wordAt(1, 9), -1);
        due("wordAt(-1, 9)", x.wordAt(-1, 9), -1);
        due("editAt(0, 1, 9)", x.editAt(0, 1, 9), -1);
        due("editAt(1, 0, 9)", x.editAt(1, 0, 9), -1);
        due("editAt(0, 0, -1)", x.editAt(0, 0, -1), -1);
        due("nearest(1) of one", x.nearest(1), -1);
        due("nearest(0) of none", none.nearest(0), -1);
        due("slotWord(0, 0, 4) without a match", x.slotWord(0, 0, 4), -1);
        due("slotWord(0, 0, -1) without a match", x.slotWord(0, 0, -1), -1);
        due("slotWord(0, 0, 3) without a match", x.slotWord(0, 0, 3), -4);
        due("slotWord(1, 0, 3)", x.slotWord(1, 0, 3), -1);
        due("slotWord(0, 1, 3)", x.slotWord(0, 1, 3), -1);
        due("bestPattern(1) without a match", x.bestPattern(1), -1);
        due("bestPattern(0) of none", none.bestPattern(0), -1);
        due("centreOf(-1) of none", none.centreOf(-1), -1);
        due("groupInfo(-1, 0) of none", none.groupInfo(-1, 0), -1);
        due("groupInfo(0, 3) of none", none.groupInfo(0, 3), -1);
        due("groupInfo(1, -1)", x.groupInfo(1, -1), -1);
        due("groupInfo(1, 0)", x.groupInfo(1, 0), -4);
        due("crossingCost(0, 0, 0) without a blend", x.crossingCost(0, 0, 0), -1);
        due("crossing(0, 21) without a pair", x.crossing(0, 21), -1);
        due("crossing(0, -1) without a pair", x.crossing(0, -1), -1);
        due("crossing(1, 0) without a pair", x.crossing(1, 0), -1);
        ProverbCollection short3 = Make.with(Make.row(1), Make.row(2), Make.row(3));
        due("crossingCost(0, 1, 1) without a blend", short3.crossingCost(0, 1, 1), -1);
        due("crossingCost(0, 1, 3) without a blend", short3.crossingCost(0, 1, 3), -1);
        due("crossingCost(0, 1, 2) without a blend", short3.crossingCost(0, 1, 2), -4);
    }

    private static void refusedChanges() {
        for (Step setting : new Step[] {ChangesAndErrorsTest::ordinary, ChangesAndErrorsTest::withWords,
            ChangesAndErrorsTest::withSlots, ChangesAndErrorsTest::fullWithWords}) {
            idle("append(-1)", setting, x -> x.append(-1), -1);
            idle("append(65)", setting, x -> x.append(65), -1);
            idle("addSaying(-3001, 0)", setting, x -> x.addSaying(-3001, 0), -1);
            idle("addSaying(2101, 0)", setting, x -> x.addSaying(2101, 0), -1);
            idle("addSaying(0, -1)", setting, x -> x.addSaying(0, -1), -1);
            idle("addSaying(0, 10)", setting, x -> x.addSaying(0, 10), -1);
            idle("removeSaying(-1)", setting, x -> x.removeSaying(-1), -1);
            idle("removeSaying(12)", setting, x -> x.removeSaying(12), -1);
            idle("removePattern(-1)", setting, x -> x.removePattern(-1), -1);
            idle("removePattern(6)", setting, x -> x.removePattern(6), -1);
            idle("setCost(-1, 5)", setting, x -> x.setCost(-1, 5), -1);
            idle("setCost(4, 5)", setting, x -> x.setCost(4, 5), -1);
            idle("setLimit(-1)", setting, x -> x.setLimit(-1), -1);
            idle("setLimit(21)", setting, x -> x.setLimit(21), -1);
            for (int cost = 0; cost < 4; cost++) {
                int same = cost;
                idle("setCost(" + cost + ", 0)", setting, x -> x.setCost(same, 0), -1);
                idle("setCost(" + cost + ", 10)", setting, x -> x.setCost(same, 10), -1);
            }
        }
        idle("removeSaying(3) of three", ChangesAndErrorsTest::withWords, x -> x.removeSaying(3), -1);
        idle("removePattern(2) of two", ChangesAndErrorsTest::withWords, x -> x.removePattern(2), -1);
        refusedForTheBuffer();
    }

    private static void refusedForTheBuffer() {
        for (Step setting : new Step[] {ChangesAndErrorsTest::empty, ChangesAndErrorsTest::ordinary,
            ChangesAndErrorsTest::full}) {
            idle("addSaying with an empty buffer", setting, x -> x.addSaying(0, 0), -2);
            idle("addPattern with an empty buffer", setting, ProverbCollection::addPattern, -2);
        }
        idle("addSaying with slots", ChangesAndErrorsTest::withSlots, x -> x.addSaying(0, 0), -2);
        idle("addSaying with slots, full", ChangesAndErrorsTest::fullWithSlots, x -> x.addSaying(0, 0), -2);
        idle("a thirteenth saying", ChangesAndErrorsTest::fullWithWords, x -> x.addSaying(0, 0), -3);
        idle("a seventh pattern", ChangesAndErrorsTest::fullWithWords, ProverbCollection::addPattern, -3);
        idle("a seventh pattern with slots", ChangesAndErrorsTest::fullWithSlots, ProverbCollection::addPattern, -3);
        idle("a ninth token", ChangesAndErrorsTest::fullWithWords, x -> x.append(5), -3);
        idle("undo of nothing", ChangesAndErrorsTest::empty, ProverbCollection::undo, -2);
        idle("undo of nothing, with words", x -> Make.fill(x, 1, 2), ProverbCollection::undo, -2);
        idle("undo of a sixth change", x -> {
            full(x);
            undone(5).on(x);
            Make.fill(x, 1, 2);
        }, ProverbCollection::undo, -2);
    }

    private static void refusedQuestions() {
        for (Step setting : new Step[] {ChangesAndErrorsTest::withWords, ChangesAndErrorsTest::fullWithWords}) {
            idle("lengthOf", setting, x -> x.lengthOf(12), -1);
            idle("wordAt", setting, x -> x.wordAt(12, 0), -1);
            idle("wordAt, negative index", setting, x -> x.wordAt(0, -1), -1);
            idle("wordAt, behind the end", setting, x -> x.wordAt(0, 3), -4);
            idle("byAge, negative", setting, x -> x.byAge(-1), -1);
            idle("byAge, too high", setting, x -> x.byAge(12), -4);
            idle("distance", setting, x -> x.distance(0, 12), -1);
            idle("similarityBits", setting, x -> x.similarityBits(12, 0), -1);
            idle("editCount", setting, x -> x.editCount(0, -1), -1);
            idle("editAt", setting, x -> x.editAt(-1, 0, 0), -1);
            idle("editAt, negative index", setting, x -> x.editAt(0, 1, -1), -1);
            idle("editAt, behind the list", setting, x -> x.editAt(0, 1, 8), -4);
            idle("nearest", setting, x -> x.nearest(12), -1);
            idle("fillings", setting, x -> x.fillings(6, 0), -1);
            idle("fillings, no saying", setting, x -> x.fillings(0, 12), -1);
            idle("slotWord", setting, x -> x.slotWord(0, 0, 4), -1);
            idle("slotWord, no such slot", setting, x -> x.slotWord(0, 0, 3), -4);
            idle("matchedSayings", setting, x -> x.matchedSayings(6), -1);
            idle("bestPattern", setting, x -> x.bestPattern(12), -1);
            idle("groupOf", setting, x -> x.groupOf(12), -1);
            idle("centreOf, negative", setting, x -> x.centreOf(-1), -1);
            idle("centreOf, too high", setting, x -> x.centreOf(12), -4);
            idle("groupInfo, negative", setting, x -> x.groupInfo(-1, 0), -1);
            idle("groupInfo, what 3", setting, x -> x.groupInfo(0, 3), -1);
            idle("groupInfo, too high", setting, x -> x.groupInfo(12, 2), -4);
            idle("crossingCost", setting, x -> x.crossingCost(0, 1, 1), -1);
            idle("crossing", setting, x -> x.crossing(0, 21), -1);
        }
        idle("nearest, the only one", ChangesAndErrorsTest::single, x -> x.nearest(0), -4);
        idle("bestPattern, none", ChangesAndErrorsTest::single, x -> x.bestPattern(0), -4);
        idle("crossing, none", ChangesAndErrorsTest::single, x -> x.crossing(0, 20), -4);
        idle("crossingCost, no blend", x -> {
            ordinary(x);
            x.removeSaying(0);
            Make.saying(x, 0, 0, 5);
        }, x -> x.crossingCost(0, 1, 2), -4);
    }

    /** "Nothing is promised beyond the answers and state changes described": a question changes nothing. */
    private static void plainQuestions() {
        for (Step setting : new Step[] {ChangesAndErrorsTest::withWords, ChangesAndErrorsTest::withSlots,
            ChangesAndErrorsTest::fullWithWords}) {
            alike("questions", ALL_QUESTIONS, new Step[] {setting, ChangesAndErrorsTest::questions}, new Step[] {setting});
            Step all = x -> {
                askSayings(x, new ArrayList<>());
                askGroups(x, new ArrayList<>());
            };
            due("undo behind many questions", made(setting, all).undo(), 4);
        }
    }

    // ---- 512 calls

    private static void upToTheLastCall() {
        ProverbCollection x = new ProverbCollection();
        for (int round = 0; round < 102; round++) {
            due("append", x.append(round % 60), 1);
            due("addSaying", x.addSaying(round, 0), 0);
            due("wordAt", x.wordAt(0, 0), round % 60);
            due("undo", x.undo(), 0);
            due("sayingCount", x.sayingCount(), 0);
        }
        due("call 511", x.append(1), 1);
        due("call 512", x.addSaying(0, 0), 0);
        ProverbCollection full = new ProverbCollection();
        for (int call = 1; call <= 511; call++) {
            due("append, call " + call, full.append(64), call <= 8 ? call : -3);
        }
        due("clear, call 512", full.clear(), 8);
        ProverbCollection changed = new ProverbCollection();
        for (int call = 1; call <= 506; call++) {
            due("setCost, call " + call, changed.setCost(0, 1 + call % 9), call == 1 ? 2 : 1 + (call - 1) % 9);
        }
        for (int left = 4; left >= 0; left--) {
            due("undo", changed.undo(), left);
        }
        due("undo, call 512", changed.undo(), -2);
    }

    public static void main(String[] args) {
        Sentences.under("What it is");
        Sentences.test("An object is used for at most 512 calls after it has been made; what later calls answer is free.",
            ChangesAndErrorsTest::upToTheLastCall);
        Sentences.under("Edits and errors");
        Sentences.test("addSaying, removeSaying, addPattern, removePattern, setCost and setLimit are changes.",
            ChangesAndErrorsTest::kindsOfChanges);
        Sentences.test("The last 5 changes can be undone (the token buffer is not affected by this).", () -> {
            lastFive();
            changesBehindUndoneOnes();
            manyChanges();
            bufferIsNotAffected();
        });
        Sentences.test("A change that leaves everything as it is counts, too.",
            ChangesAndErrorsTest::changesThatLeaveEverything);
        Sentences.test("If several errors apply to a call, INVALID_ARGUMENT is returned rather than INVALID_STATE, "
            + "INVALID_STATE rather than LIMIT_REACHED, and LIMIT_REACHED rather than NOT_FOUND.", () -> {
                argumentBeforeState();
                stateBeforeLimit();
                argumentBeforeNotFound();
            });
        Sentences.test("A call that returns an error changes nothing.", () -> {
            refusedChanges();
            refusedQuestions();
        });
        Sentences.under("Not promised");
        Sentences.test("Nothing is promised beyond the answers and state changes described above, and nothing about an "
            + "object after its 512th call.", ChangesAndErrorsTest::plainQuestions);
        Sentences.complete("### Edits and errors", "Examples:");
        Sentences.close();
    }
}
