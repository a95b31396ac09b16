/** Makes collections, and looks at them. */
final class Make {
    static final int MIN = Integer.MIN_VALUE;
    static final int MAX = Integer.MAX_VALUE;
    static final int GAP = 64;

    private Make() {
    }

    static int[] row(int... tokens) {
        return tokens;
    }

    /** The words first, first + step, first + 2 step and so on. */
    static int[] steps(int length, int first, int step) {
        int[] words = new int[length];
        for (int index = 0; index < length; index++) {
            words[index] = first + step * index;
        }
        return words;
    }

    static int[] times(int length, int token) {
        return steps(length, token, 0);
    }

    static int[] changed(int[] words, int index, int word) {
        int[] other = words.clone();
        other[index] = word;
        return other;
    }

    static int[] without(int[] words, int index) {
        int[] other = new int[words.length - 1];
        System.arraycopy(words, 0, other, 0, index);
        System.arraycopy(words, index + 1, other, index, other.length - index);
        return other;
    }

    static int[] swapped(int[] words, int index) {
        return changed(changed(words, index, words[index + 1]), index + 1, words[index]);
    }

    static void fill(ProverbCollection x, int... tokens) {
        x.clear();
        for (int token : tokens) {
            x.append(token);
        }
    }

    static int saying(ProverbCollection x, int year, int region, int... words) {
        fill(x, words);
        return x.addSaying(year, region);
    }

    static int pattern(ProverbCollection x, int... tokens) {
        fill(x, tokens);
        return x.addPattern();
    }

    /** A saying for each row of words; the years rise. */
    static ProverbCollection with(int[]... sayings) {
        ProverbCollection x = new ProverbCollection();
        for (int number = 0; number < sayings.length; number++) {
            saying(x, number, 0, sayings[number]);
        }
        return x;
    }

    /** Sayings of one word each: saying n has the word n. */
    static ProverbCollection singles(int count) {
        ProverbCollection x = new ProverbCollection();
        for (int number = 0; number < count; number++) {
            saying(x, number, number % 10, number);
        }
        return x;
    }

    static void words(String of, ProverbCollection x, int saying, int... words) {
        Sentences.due("lengthOf " + of, x.lengthOf(saying), words.length);
        for (int index = 0; index < words.length; index++) {
            Sentences.due("wordAt " + index + " of " + of, x.wordAt(saying, index), words[index]);
        }
    }

    static void order(String of, ProverbCollection x, int... sayings) {
        for (int place = 0; place < sayings.length; place++) {
            Sentences.due("byAge(" + place + ") of " + of, x.byAge(place), sayings[place]);
        }
    }

    /** The edit list from saying 0 to saying 1 of a collection with the two rows of words. */
    static void edits(ProverbCollection x, int... list) {
        Sentences.due("editCount", x.editCount(0, 1), list.length);
        for (int index = 0; index < list.length; index++) {
            Sentences.due("editAt " + index, x.editAt(0, 1, index), list[index]);
        }
    }

    interface Numbered {
        int on(ProverbCollection x, int number);
    }

    /** The call is one that takes the number of a saying, its other arguments being fit for 0 to 2 as numbers. */
    static void noSuchSaying(Numbered call) {
        refused("in an empty collection", new ProverbCollection(), 0, call);
        ProverbCollection x = singles(3);
        pattern(x, 1);
        refused("of three", x, 3, call);
        saying(x, 5, 5, 5);
        x.undo();
        refused("behind an undone one", x, 3, call);
        saying(x, 5, 5, 5);
        x.removeSaying(0);
        refused("behind a removed one", x, 3, call);
        ProverbCollection full = singles(12);
        pattern(full, 1);
        refused("of twelve", full, 12, call);
    }

    static void noSuchPattern(Numbered call) {
        ProverbCollection x = singles(3);
        refused("where there is none", x, 0, call);
        for (int number = 0; number < 3; number++) {
            pattern(x, number);
        }
        refused("of three", x, 3, call);
        x.removePattern(0);
        refused("behind a removed one", x, 2, call);
        x.undo();
        pattern(x, 3);
        x.undo();
        refused("behind an undone one", x, 3, call);
        for (int number = 3; number < 6; number++) {
            pattern(x, number);
        }
        refused("of six", x, 6, call);
    }

    private static void refused(String where, ProverbCollection x, int count, Numbered call) {
        for (int number : new int[] {-1, count, count + 1, -2, MIN, MAX}) {
            Sentences.due("number " + number + " " + where, call.on(x, number), -1);
        }
    }

    /** The call must refuse these arguments, and none between the least and the greatest one. */
    static void refusedOutside(int least, int greatest, java.util.function.IntUnaryOperator call) {
        for (int argument : new int[] {least - 1, least - 2, greatest + 1, greatest + 2, MIN, MAX}) {
            Sentences.due("the call with " + argument, call.applyAsInt(argument), -1);
        }
    }
}
