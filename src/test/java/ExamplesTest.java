/** The five worked examples of the document, call by call as they stand there. */
public final class ExamplesTest {
    private static int wrong = 0;

    private static void due(String call, int got, int want) {
        if (got != want) {
            wrong++;
            System.out.println(call + " answered " + got + ", due is " + want);
        }
    }

    private static void wordIsReplacedByOneWithTheSameStem() {
        ProverbCollection x = new ProverbCollection();
        due("1: append(0)", x.append(0), 1);
        due("1: append(4)", x.append(4), 2);
        due("1: append(8)", x.append(8), 3);
        due("1: addSaying(1500, 1)", x.addSaying(1500, 1), 0);
        due("1: append(0)", x.append(0), 1);
        due("1: append(5)", x.append(5), 2);
        due("1: append(8)", x.append(8), 3);
        due("1: addSaying(1400, 2)", x.addSaying(1400, 2), 1);
        due("1: distance(0, 1)", x.distance(0, 1), 1);
        due("1: editAt(0, 1, 0)", x.editAt(0, 1, 0), 111);
        due("1: similarityBits(0, 1)", x.similarityBits(0, 1), 1063955115);
    }

    private static void neighbouringWordsAreSwapped() {
        ProverbCollection x = new ProverbCollection();
        due("2: append(1)", x.append(1), 1);
        due("2: append(9)", x.append(9), 2);
        due("2: addSaying(1500, 1)", x.addSaying(1500, 1), 0);
        due("2: append(9)", x.append(9), 1);
        due("2: append(1)", x.append(1), 2);
        due("2: addSaying(1500, 1)", x.addSaying(1500, 1), 1);
        due("2: editAt(0, 1, 0)", x.editAt(0, 1, 0), 400);
        due("2: groupCount()", x.groupCount(), 1);
        due("2: centreOf(0)", x.centreOf(0), 0);
        due("2: nearest(0)", x.nearest(0), 1);
    }

    private static void slotOccursTwice() {
        ProverbCollection x = new ProverbCollection();
        due("3: append(3)", x.append(3), 1);
        due("3: append(7)", x.append(7), 2);
        due("3: append(3)", x.append(3), 3);
        due("3: addSaying(10, 0)", x.addSaying(10, 0), 0);
        due("3: append(60)", x.append(60), 1);
        due("3: append(64)", x.append(64), 2);
        due("3: append(60)", x.append(60), 3);
        due("3: addPattern()", x.addPattern(), 0);
        due("3: fillings(0, 0)", x.fillings(0, 0), 1);
        due("3: slotWord(0, 0, 0)", x.slotWord(0, 0, 0), 3);
        due("3: slotWord(0, 0, 1)", x.slotWord(0, 0, 1), -4);
    }

    private static void sayingCannotContainSlots() {
        ProverbCollection x = new ProverbCollection();
        due("4: addSaying(0, 0)", x.addSaying(0, 0), -2);
        due("4: append(60)", x.append(60), 1);
        due("4: addSaying(0, 0)", x.addSaying(0, 0), -2);
        due("4: addPattern()", x.addPattern(), 0);
        due("4: matchedSayings(0)", x.matchedSayings(0), 0);
        due("4: nearest(0)", x.nearest(0), -1);
    }

    private static void crossingOfTwoOlderSayings() {
        ProverbCollection x = new ProverbCollection();
        due("5: append(0)", x.append(0), 1);
        due("5: append(4)", x.append(4), 2);
        due("5: addSaying(1, 0)", x.addSaying(1, 0), 0);
        due("5: append(20)", x.append(20), 1);
        due("5: append(24)", x.append(24), 2);
        due("5: addSaying(2, 0)", x.addSaying(2, 0), 1);
        due("5: append(0)", x.append(0), 1);
        due("5: append(24)", x.append(24), 2);
        due("5: addSaying(3, 0)", x.addSaying(3, 0), 2);
        due("5: crossingCost(2, 0, 1)", x.crossingCost(2, 0, 1), 0);
        due("5: crossing(2, 1)", x.crossing(2, 1), 1);
    }

    public static void main(String[] args) {
        wordIsReplacedByOneWithTheSameStem();
        neighbouringWordsAreSwapped();
        slotOccursTwice();
        sayingCannotContainSlots();
        crossingOfTwoOlderSayings();
        System.out.println(wrong == 0 ? "all answers are as due" : wrong + " answers are not as due");
        if (wrong != 0) {
            System.exit(1);
        }
    }
}
