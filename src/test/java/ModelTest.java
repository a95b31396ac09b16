import java.util.ArrayList;
import java.util.Arrays;
import java.util.Collections;
import java.util.Comparator;
import java.util.List;
import java.util.TreeSet;

/**
 * Long runs of calls, each answered by the class and by a second, slower telling of the document's words:
 * recursion instead of tables, all lengths of gaps tried one after the other, copies of everything for undo.
 * The calls come from a fixed row of numbers, so that every run of this test is the same.
 */
public final class ModelTest {
    private static final int RUNS = 600;
    private static final int CALLS = 512;
    private static final int BAD = -1, STATE = -2, FULL = -3, NO = -4;
    private static int wrong = 0;
    private static long row;

    /** A number from 0 to bound - 1. */
    private static int next(int bound) {
        row = row * 6364136223846793005L + 1442695040888963407L;
        return (int) ((row >>> 33) % bound);
    }

    private static final class Saying {
        final List<Integer> words;
        final int year;
        final int region;

        Saying(List<Integer> words, int year, int region) {
            this.words = words;
            this.year = year;
            this.region = region;
        }
    }

    private static final class Kept {
        List<Saying> sayings = new ArrayList<>();
        List<List<Integer>> patterns = new ArrayList<>();
        int[] costs = {2, 3, 1, 2};
        int limit = 3;

        Kept copy() {
            Kept copy = new Kept();
            copy.sayings = new ArrayList<>(sayings);
            copy.patterns = new ArrayList<>(patterns);
            copy.costs = costs.clone();
            copy.limit = limit;
            return copy;
        }
    }

    private static final class Model {
        List<Integer> buffer = new ArrayList<>();
        Kept now = new Kept();
        final List<Kept> before = new ArrayList<>();

        boolean no(int saying) {
            return saying < 0 || saying >= now.sayings.size();
        }

        boolean noPattern(int pattern) {
            return pattern < 0 || pattern >= now.patterns.size();
        }

        void change() {
            before.add(now.copy());
            if (before.size() > 5) {
                before.remove(0);
            }
        }

        List<Integer> takeBuffer() {
            List<Integer> taken = buffer;
            buffer = new ArrayList<>();
            return taken;
        }

        int append(int token) {
            if (token < 0 || token > 64) return BAD;
            if (buffer.size() == 8) return FULL;
            buffer.add(token);
            return buffer.size();
        }

        int addSaying(int year, int region) {
            if (year < -3000 || year > 2100 || region < 0 || region > 9) return BAD;
            if (buffer.isEmpty() || Collections.max(buffer) > 59) return STATE;
            if (now.sayings.size() == 12) return FULL;
            change();
            now.sayings.add(new Saying(takeBuffer(), year, region));
            return now.sayings.size() - 1;
        }

        int removeSaying(int saying) {
            if (no(saying)) return BAD;
            change();
            now.sayings.remove(saying);
            return now.sayings.size();
        }

        int addPattern() {
            if (buffer.isEmpty()) return STATE;
            if (now.patterns.size() == 6) return FULL;
            change();
            now.patterns.add(takeBuffer());
            return now.patterns.size() - 1;
        }

        int removePattern(int pattern) {
            if (noPattern(pattern)) return BAD;
            change();
            now.patterns.remove(pattern);
            return now.patterns.size();
        }

        int setCost(int cost, int value) {
            if (cost < 0 || cost > 3 || value < 1 || value > 9) return BAD;
            change();
            int old = now.costs[cost];
            now.costs[cost] = value;
            return old;
        }

        int setLimit(int limit) {
            if (limit < 0 || limit > 20) return BAD;
            change();
            int old = now.limit;
            now.limit = limit;
            return old;
        }

        int undo() {
            if (before.isEmpty()) return STATE;
            now = before.remove(before.size() - 1);
            return before.size();
        }

        List<Integer> byAge() {
            List<Integer> order = new ArrayList<>();
            for (int saying = 0; saying < now.sayings.size(); saying++) order.add(saying);
            order.sort(Comparator.comparingInt((Integer saying) -> now.sayings.get(saying).year));
            return order;
        }

        List<Integer> words(int saying) {
            return now.sayings.get(saying).words;
        }

        int distance(int a, int b) {
            return new Way(words(a), words(b), now.costs).d(words(a).size(), words(b).size());
        }

        int nearest(int saying) {
            if (no(saying)) return BAD;
            List<Integer> others = byAge();
            others.remove((Integer) saying);
            if (others.isEmpty()) return NO;
            return Collections.min(others, Comparator.comparingInt((Integer other) -> distance(saying, other)));
        }

        int bestPattern(int saying) {
            if (no(saying)) return BAD;
            List<Integer> matching = new ArrayList<>();
            for (int pattern = 0; pattern < now.patterns.size(); pattern++) {
                if (!fillings(pattern, saying).isEmpty()) matching.add(pattern);
            }
            matching.sort(Comparator
                .comparingLong((Integer pattern) -> -now.patterns.get(pattern).stream().filter(t -> t < 60).count())
                .thenComparingLong(pattern -> now.patterns.get(pattern).stream().filter(t -> t == 64).count()));
            return matching.isEmpty() ? NO : matching.get(0);
        }

        /** The slots' words of each filling, the first filling first. */
        List<int[]> fillings(int pattern, int saying) {
            List<int[]> found = new ArrayList<>();
            List<Integer> tokens = now.patterns.get(pattern);
            int gaps = Collections.frequency(tokens, 64);
            int length = words(saying).size();
            int tries = 1;
            for (int gap = 0; gap < gaps; gap++) tries *= length + 1;
            if (tries > 5000) return null;
            for (int number = 0; number < tries; number++) {
                int[] slots = filling(tokens, words(saying), number, gaps);
                if (slots != null) found.add(slots);
            }
            return found;
        }

        /** Digits of the number, the first gap's digit in front, are the lengths of the gaps. */
        private int[] filling(List<Integer> tokens, List<Integer> words, int number, int gaps) {
            int base = words.size() + 1;
            int[] lengths = new int[gaps];
            for (int gap = gaps - 1, rest = number; gap >= 0; gap--, rest /= base) lengths[gap] = rest % base;
            int[] slots = {NO, NO, NO, NO};
            int at = 0;
            int gap = 0;
            for (int token : tokens) {
                if (token == 64) {
                    at += lengths[gap++];
                    continue;
                }
                if (at >= words.size()) return null;
                int word = words.get(at++);
                if (token < 60 && token != word) return null;
                if (token >= 60 && slots[token - 60] != NO && slots[token - 60] != word) return null;
                if (token >= 60) slots[token - 60] = word;
            }
            return at == words.size() ? slots : null;
        }

        /** Each group as the list of its members, its centre first. */
        List<List<Integer>> groups() {
            List<List<Integer>> groups = new ArrayList<>();
            List<Integer> left = byAge();
            while (!left.isEmpty()) {
                int centre = left.get(0);
                List<Integer> group = new ArrayList<>(left);
                group.removeIf(saying -> distance(centre, saying) > now.limit);
                left.removeAll(group);
                groups.add(group);
            }
            return groups;
        }

        int groupOf(int saying) {
            if (no(saying)) return BAD;
            List<List<Integer>> groups = groups();
            for (int group = 0; group < groups.size(); group++) {
                if (groups.get(group).contains(saying)) return group;
            }
            return NO;
        }

        int groupInfo(int group, int what) {
            if (group < 0 || what < 0 || what > 2) return BAD;
            if (group >= groups().size()) return NO;
            List<Integer> members = groups().get(group);
            TreeSet<Integer> regions = new TreeSet<>();
            TreeSet<Integer> distances = new TreeSet<>();
            for (int saying : members) {
                regions.add(now.sayings.get(saying).region);
                distances.add(distance(members.get(0), saying));
            }
            return what == 0 ? members.size() : what == 1 ? regions.size() : distances.last();
        }

        int crossingCost(int saying, int a, int b) {
            if (no(saying) || no(a) || no(b) || saying == a || a == b || saying == b) return BAD;
            int least = Integer.MAX_VALUE;
            for (int k = 1; k < words(a).size(); k++) {
                for (int n = 1; n < words(b).size(); n++) {
                    List<Integer> blend = new ArrayList<>(words(a).subList(0, k));
                    blend.addAll(words(b).subList(words(b).size() - n, words(b).size()));
                    if (blend.size() <= 8) {
                        Way way = new Way(words(saying), blend, now.costs);
                        least = Math.min(least, way.d(words(saying).size(), blend.size()));
                    }
                }
            }
            return least == Integer.MAX_VALUE ? NO : least;
        }

        int crossing(int saying, int limit) {
            if (no(saying) || limit < 0 || limit > 20) return BAD;
            List<Integer> older = byAge().subList(0, byAge().indexOf(saying));
            List<int[]> pairs = new ArrayList<>();
            for (int a : older) {
                for (int b : older) {
                    int cost = crossingCost(saying, a, b);
                    boolean fits = cost >= 0 && cost <= limit;
                    if (fits && cost < distance(saying, a) && cost < distance(saying, b)) {
                        pairs.add(new int[] {cost, 100 * a + b});
                    }
                }
            }
            pairs.sort(Comparator.comparingInt((int[] pair) -> pair[0]));
            return pairs.isEmpty() ? NO : pairs.get(0)[1];
        }
    }

    /** D(i, j) by recursion, and the edit list by it. */
    private static final class Way {
        final List<Integer> a;
        final List<Integer> b;
        final int[] costs;
        final Integer[][] known;

        Way(List<Integer> a, List<Integer> b, int[] costs) {
            this.a = a;
            this.b = b;
            this.costs = costs;
            known = new Integer[a.size() + 1][b.size() + 1];
        }

        int d(int i, int j) {
            if (known[i][j] == null) {
                known[i][j] = i + j == 0 ? 0 : Collections.min(Arrays.asList(steps(i, j)));
            }
            return known[i][j];
        }

        Integer[] steps(int i, int j) {
            Integer[] steps = {999, 999, 999, 999};
            if (i >= 1 && j >= 1) {
                int v = a.get(i - 1);
                int w = b.get(j - 1);
                steps[0] = d(i - 1, j - 1) + (v == w ? 0 : v / 4 == w / 4 ? costs[2] : costs[1]);
            }
            if (i >= 1) steps[1] = d(i - 1, j) + costs[0];
            if (j >= 1) steps[2] = d(i, j - 1) + costs[0];
            if (i >= 2 && j >= 2 && a.get(i - 1).equals(b.get(j - 2)) && a.get(i - 2).equals(b.get(j - 1))) {
                steps[3] = d(i - 2, j - 2) + costs[3];
            }
            return steps;
        }

        List<Integer> list(int i, int j) {
            if (i + j == 0) return new ArrayList<>();
            int kind = 1 + Arrays.asList(steps(i, j)).indexOf(d(i, j));
            int[] down = {1, 1, 0, 2};
            int[] across = {1, 0, 1, 2};
            int k = i - down[kind - 1];
            int n = j - across[kind - 1];
            List<Integer> list = list(k, n);
            boolean keeps = kind == 1 && a.get(k).equals(b.get(n));
            if (!keeps) list.add(100 * kind + 10 * k + n);
            return list;
        }
    }

    /** Mostly a number below the count, sometimes one just outside, seldom one far out. */
    private static int number(int count) {
        int draw = next(40);
        if (draw == 0) return -1;
        if (draw == 1) return count;
        if (draw == 2) return next(2) == 0 ? Integer.MIN_VALUE : Integer.MAX_VALUE;
        return count == 0 ? 0 : next(count);
    }

    private static int token(int words, boolean forPattern) {
        if (forPattern && next(2) == 0) {
            int draw = next(5);
            return draw < 2 ? 64 : 60 + next(4);
        }
        return next(60) == 0 ? number(65) : next(words);
    }

    private static void due(int run, String call, int got, int want) {
        if (got != want) {
            wrong++;
            if (wrong <= 20) System.out.println("run " + run + ": " + call + " answered " + got + ", due is " + want);
        }
    }

    private static void fillBuffer(int run, ProverbCollection x, Model m, int words, boolean forPattern) {
        int had = m.takeBuffer().size();
        due(run, "clear", x.clear(), had);
        int length = next(30) == 0 ? next(10) : 1 + next(next(3) == 0 ? 8 : 4);
        for (int index = 0; index < length; index++) {
            int token = token(words, forPattern);
            due(run, "append(" + token + ")", x.append(token), m.append(token));
        }
    }

    private static int changeOnce(int run, ProverbCollection x, Model m, int words) {
        int draw = next(12);
        int a = number(12);
        int b = number(10);
        if (draw < 4) {
            fillBuffer(run, x, m, words, next(25) == 0);
            int year = next(30) == 0 ? (next(2) == 0 ? -3001 : 2101) : next(20) == 0 ? -3000 + 5100 * next(2) : next(6);
            due(run, "addSaying(" + year + ", " + b + ")", x.addSaying(year, b), m.addSaying(year, b));
            return 10;
        }
        if (draw < 7) {
            fillBuffer(run, x, m, words, true);
            due(run, "addPattern()", x.addPattern(), m.addPattern());
            return 10;
        }
        switch (draw) {
            case 7:
                if (next(2) == 0) due(run, "removeSaying " + a, x.removeSaying(a), m.removeSaying(a));
                break;
            case 8:
                int pattern = number(6);
                due(run, "removePattern " + pattern, x.removePattern(pattern), m.removePattern(pattern));
                break;
            case 9:
                int cost = number(4);
                int value = next(3) == 0 ? number(11) : 1 + next(5);
                due(run, "setCost " + cost + ", " + value, x.setCost(cost, value), m.setCost(cost, value));
                break;
            case 10:
                int limit = number(21);
                due(run, "setLimit " + limit, x.setLimit(limit), m.setLimit(limit));
                break;
            default:
                for (int times = 1 + next(next(4) == 0 ? 7 : 2); times > 0; times--) {
                    due(run, "undo", x.undo(), m.undo());
                }
        }
        return 2;
    }

    private static void askEdits(int run, ProverbCollection x, Model m) {
        int a = number(m.now.sayings.size());
        int b = number(m.now.sayings.size());
        String pair = "(" + a + ", " + b;
        if (m.no(a) || m.no(b)) {
            due(run, "distance" + pair, x.distance(a, b), BAD);
            due(run, "similarityBits" + pair, x.similarityBits(a, b), BAD);
            due(run, "editCount" + pair, x.editCount(a, b), BAD);
            due(run, "editAt" + pair, x.editAt(a, b, number(3)), BAD);
            return;
        }
        int words = m.words(a).size() + m.words(b).size();
        float similarity = 1f - (float) m.distance(a, b) / (float) (m.now.costs[0] * words);
        List<Integer> list = new Way(m.words(a), m.words(b), m.now.costs).list(m.words(a).size(), m.words(b).size());
        due(run, "distance" + pair, x.distance(a, b), m.distance(a, b));
        due(run, "similarityBits" + pair, x.similarityBits(a, b), Float.floatToIntBits(similarity));
        due(run, "editCount" + pair, x.editCount(a, b), list.size());
        int index = number(list.size());
        int edit = index < 0 ? BAD : index >= list.size() ? NO : list.get(index);
        due(run, "editAt" + pair + ", " + index, x.editAt(a, b, index), edit);
    }

    private static void askPatterns(int run, ProverbCollection x, Model m) {
        int pattern = number(m.now.patterns.size());
        int saying = number(m.now.sayings.size());
        int slot = number(4);
        String call = "(" + pattern + ", " + saying;
        boolean bad = m.noPattern(pattern) || m.no(saying);
        List<int[]> all = bad ? null : m.fillings(pattern, saying);
        if (bad || all != null) {
            due(run, "fillings" + call, x.fillings(pattern, saying), bad ? BAD : all.size());
            int word = bad || slot < 0 || slot > 3 ? BAD : all.isEmpty() ? NO : all.get(0)[slot];
            due(run, "slotWord" + call + ", " + slot, x.slotWord(pattern, saying, slot), word);
        }
        int matched = 0;
        for (int other = 0; !m.noPattern(pattern) && other < m.now.sayings.size(); other++) {
            List<int[]> some = m.fillings(pattern, other);
            if (some == null) return;
            matched |= some.isEmpty() ? 0 : 1 << other;
        }
        due(run, "matchedSayings", x.matchedSayings(pattern), m.noPattern(pattern) ? BAD : matched);
    }

    private static boolean fewGaps(Model m) {
        for (List<Integer> tokens : m.now.patterns) {
            if (Collections.frequency(tokens, 64) > 3) return false;
        }
        return true;
    }

    private static void askGroups(int run, ProverbCollection x, Model m) {
        List<List<Integer>> groups = m.groups();
        int saying = number(m.now.sayings.size());
        int group = number(groups.size());
        int what = number(3);
        due(run, "groupCount", x.groupCount(), groups.size());
        due(run, "groupOf " + saying, x.groupOf(saying), m.groupOf(saying));
        int centre = group < 0 ? BAD : group >= groups.size() ? NO : groups.get(group).get(0);
        due(run, "centreOf " + group, x.centreOf(group), centre);
        due(run, "groupInfo " + group + ", " + what, x.groupInfo(group, what), m.groupInfo(group, what));
    }

    private static void askSayings(int run, ProverbCollection x, Model m) {
        int count = m.now.sayings.size();
        int saying = number(count);
        int index = number(8);
        int place = number(count);
        int length = m.no(saying) ? BAD : m.words(saying).size();
        due(run, "sayingCount", x.sayingCount(), count);
        due(run, "lengthOf " + saying, x.lengthOf(saying), length);
        int word = m.no(saying) || index < 0 ? BAD : index >= length ? NO : m.words(saying).get(index);
        due(run, "wordAt " + saying + ", " + index, x.wordAt(saying, index), word);
        due(run, "byAge " + place, x.byAge(place), place < 0 ? BAD : place >= count ? NO : m.byAge().get(place));
        due(run, "nearest " + saying, x.nearest(saying), m.nearest(saying));
        if (fewGaps(m)) due(run, "bestPattern " + saying, x.bestPattern(saying), m.bestPattern(saying));
    }

    private static void askCrossings(int run, ProverbCollection x, Model m) {
        int count = m.now.sayings.size();
        int saying = number(count);
        int a = number(count);
        int b = number(count);
        int limit = number(21);
        String call = "(" + saying + ", " + a + ", " + b;
        due(run, "crossingCost" + call, x.crossingCost(saying, a, b), m.crossingCost(saying, a, b));
        due(run, "crossing(" + saying + ", " + limit, x.crossing(saying, limit), m.crossing(saying, limit));
    }

    private static void run(int run) {
        row = run * 7919L + 17;
        ProverbCollection x = new ProverbCollection();
        Model m = new Model();
        int words = 2 + next(next(3) == 0 ? 58 : 12);
        for (int calls = 0; calls < CALLS - 32; ) {
            switch (next(8)) {
                case 0: askEdits(run, x, m); calls += 4; break;
                case 1: askPatterns(run, x, m); calls += 3; break;
                case 2: askGroups(run, x, m); calls += 4; break;
                case 3: askSayings(run, x, m); calls += 6; break;
                case 4: askCrossings(run, x, m); calls += 2; break;
                default: calls += changeOnce(run, x, m, words);
            }
        }
    }

    public static void main(String[] args) {
        for (int run = 0; run < RUNS; run++) {
            run(run);
        }
        System.out.println(wrong == 0 ? "the class answers as the model does" : wrong + " answers differ");
        if (wrong != 0) {
            System.exit(1);
        }
    }
}
