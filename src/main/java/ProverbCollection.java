/** Proverbs and their variants. What each call answers stands in ../shared/DOC.md, by the number of its promise. */
public final class ProverbCollection {
    public static final int INVALID_ARGUMENT = -1;
    public static final int INVALID_STATE = -2;
    public static final int LIMIT_REACHED = -3;
    public static final int NOT_FOUND = -4;
    public static final int INSERTING = 0, REPLACING = 1, SAME_STEM = 2, SWAPPING = 3;
    public static final int REPLACE = 1, REMOVE = 2, INSERT = 3, SWAP = 4;

    private static final int MOST_TOKENS = 8;
    private static final int MOST_SAYINGS = 12;
    private static final int MOST_PATTERNS = 6;
    private static final int MOST_UNDOABLE = 5;
    private static final int WORDS_OF_A_STEM = 4;
    private static final int FIRST_SLOT = 60;
    private static final int SLOTS = 4;
    private static final int GAP = 64;
    private static final int FIRST_YEAR = -3000;
    private static final int LAST_YEAR = 2100;
    private static final int LAST_REGION = 9;
    private static final int COSTS = 4;
    private static final int LEAST_COST = 1;
    private static final int GREATEST_COST = 9;
    private static final int GREATEST_LIMIT = 20;
    /** What stands where there is no number of a word, a saying or a group. */
    private static final int NONE = -1;
    /** Above every cost that can come about. */
    private static final int NEVER = 1000000;

    private final Sequence buffer = new Sequence();
    private final State now = new State();
    private final History history = new History();
    private final Edits edits = new Edits();
    private final Matcher matcher = new Matcher();
    private final Groups groups = new Groups();
    private final Crossings crossings = new Crossings();
    private final int[] ageOrder = new int[MOST_SAYINGS];

    public ProverbCollection() {
    }

    // ---- token buffer

    public int append(int token) {
        if (token < 0 || token > GAP) {
            return INVALID_ARGUMENT;
        }
        if (buffer.length >= MOST_TOKENS) {
            return LIMIT_REACHED;
        }
        buffer.add(token);
        return buffer.length;
    }

    public int clear() {
        int had = buffer.length;
        buffer.length = 0;
        return had;
    }

    // ---- sayings

    public int addSaying(int year, int region) {
        if (year < FIRST_YEAR || year > LAST_YEAR || region < 0 || region > LAST_REGION) {
            return INVALID_ARGUMENT;
        }
        if (buffer.length == 0 || buffer.wordCount() < buffer.length) {
            return INVALID_STATE;
        }
        if (now.sayings.isFull()) {
            return LIMIT_REACHED;
        }
        history.keep(now);
        int saying = now.takeSaying(buffer, year, region);
        buffer.length = 0;
        return saying;
    }

    public int removeSaying(int saying) {
        if (!now.sayings.has(saying)) {
            return INVALID_ARGUMENT;
        }
        history.keep(now);
        now.dropSaying(saying);
        return now.sayings.count;
    }

    public int sayingCount() {
        return now.sayings.count;
    }

    public int lengthOf(int saying) {
        if (!now.sayings.has(saying)) {
            return INVALID_ARGUMENT;
        }
        return now.sayings.size(saying);
    }

    public int wordAt(int saying, int index) {
        if (!now.sayings.has(saying) || index < 0) {
            return INVALID_ARGUMENT;
        }
        if (index >= now.sayings.size(saying)) {
            return NOT_FOUND;
        }
        return now.sayings.token(saying, index);
    }

    public int byAge(int place) {
        if (place < 0) {
            return INVALID_ARGUMENT;
        }
        if (place >= now.sayings.count) {
            return NOT_FOUND;
        }
        now.sortByAge(ageOrder);
        return ageOrder[place];
    }

    // ---- distances

    public int setCost(int cost, int value) {
        if (cost < 0 || cost >= COSTS || value < LEAST_COST || value > GREATEST_COST) {
            return INVALID_ARGUMENT;
        }
        history.keep(now);
        int previous = now.costs[cost];
        now.costs[cost] = value;
        return previous;
    }

    public int distance(int a, int b) {
        if (!hasBoth(a, b)) {
            return INVALID_ARGUMENT;
        }
        return edits.between(now, a, b);
    }

    public int similarityBits(int a, int b) {
        if (!hasBoth(a, b)) {
            return INVALID_ARGUMENT;
        }
        int words = now.sayings.size(a) + now.sayings.size(b);
        int whole = Math.max(1, now.costs[INSERTING] * words);
        float share = (float) edits.between(now, a, b) / (float) whole;
        return bitsOf(1f - share);
    }

    public int editCount(int a, int b) {
        if (!hasBoth(a, b)) {
            return INVALID_ARGUMENT;
        }
        edits.between(now, a, b);
        edits.trace(now.costs);
        return edits.listed;
    }

    public int editAt(int a, int b, int index) {
        if (!hasBoth(a, b) || index < 0) {
            return INVALID_ARGUMENT;
        }
        edits.between(now, a, b);
        edits.trace(now.costs);
        return edits.fromBeginning(index);
    }

    public int nearest(int saying) {
        if (!now.sayings.has(saying)) {
            return INVALID_ARGUMENT;
        }
        now.sortByAge(ageOrder);
        int found = NOT_FOUND;
        int least = NEVER;
        for (int place = 0; place < now.sayings.count; place++) {
            int other = ageOrder[place];
            int apart = other == saying ? NEVER : edits.between(now, saying, other);
            if (apart < least) {
                least = apart;
                found = other;
            }
        }
        return found;
    }

    // ---- patterns

    public int addPattern() {
        if (buffer.length == 0) {
            return INVALID_STATE;
        }
        if (now.patterns.isFull()) {
            return LIMIT_REACHED;
        }
        history.keep(now);
        int pattern = now.patterns.add(buffer);
        buffer.length = 0;
        return pattern;
    }

    public int removePattern(int pattern) {
        if (!now.patterns.has(pattern)) {
            return INVALID_ARGUMENT;
        }
        history.keep(now);
        now.patterns.drop(pattern);
        return now.patterns.count;
    }

    public int fillings(int pattern, int saying) {
        if (!now.patterns.has(pattern) || !now.sayings.has(saying)) {
            return INVALID_ARGUMENT;
        }
        return matcher.match(now, pattern, saying);
    }

    public int slotWord(int pattern, int saying, int slot) {
        if (!now.patterns.has(pattern) || !now.sayings.has(saying) || slot < 0 || slot >= SLOTS) {
            return INVALID_ARGUMENT;
        }
        matcher.match(now, pattern, saying);
        int word = matcher.firstWord[slot];
        return word == NONE ? NOT_FOUND : word;
    }

    public int matchedSayings(int pattern) {
        if (!now.patterns.has(pattern)) {
            return INVALID_ARGUMENT;
        }
        int matched = 0;
        for (int saying = 0; saying < now.sayings.count; saying++) {
            if (matcher.match(now, pattern, saying) > 0) {
                matched |= 1 << saying;
            }
        }
        return matched;
    }

    public int bestPattern(int saying) {
        if (!now.sayings.has(saying)) {
            return INVALID_ARGUMENT;
        }
        int best = NOT_FOUND;
        int bestFit = NONE;
        for (int pattern = 0; pattern < now.patterns.count; pattern++) {
            int fit = matcher.match(now, pattern, saying) > 0 ? matcher.fit() : NONE;
            if (fit > bestFit) {
                bestFit = fit;
                best = pattern;
            }
        }
        return best;
    }

    // ---- groups

    public int setLimit(int limit) {
        if (limit < 0 || limit > GREATEST_LIMIT) {
            return INVALID_ARGUMENT;
        }
        history.keep(now);
        int previous = now.limit;
        now.limit = limit;
        return previous;
    }

    public int groupCount() {
        groups.form(now, edits);
        return groups.count;
    }

    public int groupOf(int saying) {
        if (!now.sayings.has(saying)) {
            return INVALID_ARGUMENT;
        }
        groups.form(now, edits);
        return groups.memberOf[saying];
    }

    public int centreOf(int group) {
        if (group < 0) {
            return INVALID_ARGUMENT;
        }
        groups.form(now, edits);
        return groups.centre(group);
    }

    public int groupInfo(int group, int what) {
        if (group < 0 || what < 0 || what > 2) {
            return INVALID_ARGUMENT;
        }
        groups.form(now, edits);
        if (group >= groups.count) {
            return NOT_FOUND;
        }
        if (what == 0) {
            return groups.members(now, group);
        }
        return what == 1 ? groups.regions(now, group) : groups.radius(now, edits, group);
    }

    // ---- crossings

    public int crossingCost(int saying, int a, int b) {
        if (!now.sayings.has(saying) || !hasBoth(a, b) || saying == a || saying == b || a == b) {
            return INVALID_ARGUMENT;
        }
        int cost = crossings.cost(now, edits, saying, a, b);
        return cost == NEVER ? NOT_FOUND : cost;
    }

    public int crossing(int saying, int limit) {
        if (!now.sayings.has(saying) || limit < 0 || limit > GREATEST_LIMIT) {
            return INVALID_ARGUMENT;
        }
        return crossings.bestPair(now, edits, saying, limit);
    }

    // ---- changes

    public int undo() {
        if (history.count == 0) {
            return INVALID_STATE;
        }
        history.restore(now);
        return history.count;
    }

    private boolean hasBoth(int a, int b) {
        return now.sayings.has(a) && now.sayings.has(b);
    }

    /** The language part has no Float.floatToIntBits; this one serves values from 0 to 1, as similarities are. */
    private static int bitsOf(float value) {
        if (!(value > 0f)) {
            return 0;
        }
        float fraction = value;
        int exponent = 127;
        for (; exponent > 1 && fraction < 1f; exponent--) {
            fraction = fraction * 2f;
        }
        return (exponent << 23) + (int) ((fraction - 1f) * 8388608f);
    }

    private static void copyAll(int[] from, int[] to) {
        System.arraycopy(from, 0, to, 0, Math.min(from.length, to.length));
    }

    /** Moves all rows behind this one up by one. */
    private static void closeUp(int[] rows, int row, int width) {
        int next = (row + 1) * width;
        if (row >= 0 && width > 0 && next <= rows.length) {
            System.arraycopy(rows, next, rows, row * width, rows.length - next);
        }
    }

    /** Up to eight tokens; made once and filled again, so that no call needs new arrays. */
    private static final class Sequence {
        private final int[] tokens = new int[MOST_TOKENS];
        private int length;

        private void add(int token) {
            if (length < MOST_TOKENS) {
                tokens[length] = token;
                length++;
            }
        }

        private void addPart(Sequence other, int from, int to) {
            for (int index = from; index < to; index++) {
                add(other.at(index));
            }
        }

        private int at(int index) {
            return index >= 0 && index < length ? tokens[index] : NONE;
        }

        private int wordCount() {
            int words = 0;
            for (int index = 0; index < length; index++) {
                words += tokens[index] < FIRST_SLOT ? 1 : 0;
            }
            return words;
        }

        private int gapCount() {
            int gaps = 0;
            for (int index = 0; index < length; index++) {
                gaps += tokens[index] == GAP ? 1 : 0;
            }
            return gaps;
        }
    }

    /** Numbered rows of tokens: the words of the sayings, or the patterns. */
    private static final class Shelf {
        private final int most;
        private final int[] tokens;
        private final int[] lengths;
        private int count;

        private Shelf(int most) {
            this.most = most;
            tokens = new int[most * MOST_TOKENS];
            lengths = new int[most];
        }

        private boolean isFull() {
            return count >= most;
        }

        private boolean has(int row) {
            return row >= 0 && row < count;
        }

        private int size(int row) {
            return has(row) ? lengths[row] : 0;
        }

        private int token(int row, int index) {
            return has(row) && index >= 0 && index < lengths[row] ? tokens[row * MOST_TOKENS + index] : NONE;
        }

        private int add(Sequence sequence) {
            int row = count;
            if (row >= most) {
                return NONE;
            }
            for (int index = 0; index < sequence.length; index++) {
                tokens[row * MOST_TOKENS + index] = sequence.at(index);
            }
            lengths[row] = sequence.length;
            count++;
            return row;
        }

        private void drop(int row) {
            if (has(row)) {
                closeUp(tokens, row, MOST_TOKENS);
                closeUp(lengths, row, 1);
                count--;
            }
        }

        private void load(int row, Sequence target) {
            target.length = 0;
            for (int index = 0; index < size(row); index++) {
                target.add(token(row, index));
            }
        }

        private void copyFrom(Shelf other) {
            copyAll(other.tokens, tokens);
            copyAll(other.lengths, lengths);
            count = other.count;
        }
    }

    /** All that a change can change. */
    private static final class State {
        private final Shelf sayings = new Shelf(MOST_SAYINGS);
        private final int[] years = new int[MOST_SAYINGS];
        private final int[] regions = new int[MOST_SAYINGS];
        private final Shelf patterns = new Shelf(MOST_PATTERNS);
        private final int[] costs = new int[COSTS];
        private int limit = 3;

        private State() {
            costs[INSERTING] = 2;
            costs[REPLACING] = 3;
            costs[SAME_STEM] = 1;
            costs[SWAPPING] = 2;
        }

        private void copyFrom(State other) {
            sayings.copyFrom(other.sayings);
            copyAll(other.years, years);
            copyAll(other.regions, regions);
            patterns.copyFrom(other.patterns);
            copyAll(other.costs, costs);
            limit = other.limit;
        }

        private int takeSaying(Sequence words, int year, int region) {
            int saying = sayings.add(words);
            if (sayings.has(saying)) {
                years[saying] = year;
                regions[saying] = region;
            }
            return saying;
        }

        private void dropSaying(int saying) {
            sayings.drop(saying);
            closeUp(years, saying, 1);
            closeUp(regions, saying, 1);
        }

        /** How many sayings are older than this one: its place in the order of age. */
        private int place(int saying) {
            int older = 0;
            for (int other = 0; other < sayings.count; other++) {
                older += isOlder(other, saying) ? 1 : 0;
            }
            return older;
        }

        private boolean isOlder(int a, int b) {
            return sayings.has(a) && sayings.has(b)
                && (years[a] < years[b] || years[a] == years[b] && a < b);
        }

        private void sortByAge(int[] order) {
            for (int saying = 0; saying < sayings.count; saying++) {
                int place = place(saying);
                if (place < order.length) {
                    order[place] = saying;
                }
            }
        }
    }

    /** The states before the last changes, in a ring: a sixth change takes the place of the first. */
    private static final class History {
        private final State[] ring = new State[MOST_UNDOABLE];
        private int next;
        private int count;

        private History() {
            for (int index = 0; index < MOST_UNDOABLE; index++) {
                ring[index] = new State();
            }
        }

        private void keep(State state) {
            next = next < MOST_UNDOABLE ? next : 0;
            ring[next].copyFrom(state);
            next++;
            count = Math.min(count + 1, MOST_UNDOABLE);
        }

        private void restore(State state) {
            next = next > 0 ? next - 1 : MOST_UNDOABLE - 1;
            count--;
            state.copyFrom(ring[next]);
        }
    }

    /** The table D(i, j) of two sequences, and their edit list. */
    private static final class Edits {
        private final Sequence first = new Sequence();
        private final Sequence second = new Sequence();
        private final int[][] table = new int[MOST_TOKENS + 1][MOST_TOKENS + 1];
        private final int[] list = new int[2 * MOST_TOKENS];
        private int listed;

        private int between(State state, int a, int b) {
            state.sayings.load(a, first);
            state.sayings.load(b, second);
            return measure(state.costs);
        }

        private int measure(int[] costs) {
            for (int i = 0; i <= first.length; i++) {
                for (int j = 0; j <= second.length; j++) {
                    int least = i == 0 && j == 0 ? 0 : NEVER;
                    for (int kind = REPLACE; kind <= SWAP; kind++) {
                        least = Math.min(least, by(kind, i, j, costs));
                    }
                    table[i][j] = least;
                }
            }
            return table[first.length][second.length];
        }

        /** What D(i, j) would be with this kind as the last step; a word that is kept is a REPLACE by itself. */
        private int by(int kind, int i, int j, int[] costs) {
            switch (kind) {
                case REPLACE:
                    return i >= 1 && j >= 1 ? table[i - 1][j - 1] + replacing(i, j, costs) : NEVER;
                case REMOVE:
                    return i >= 1 ? table[i - 1][j] + costs[INSERTING] : NEVER;
                case INSERT:
                    return j >= 1 ? table[i][j - 1] + costs[INSERTING] : NEVER;
                default:
                    return swaps(i, j) ? table[i - 2][j - 2] + costs[SWAPPING] : NEVER;
            }
        }

        private int replacing(int i, int j, int[] costs) {
            int old = first.at(i - 1);
            int other = second.at(j - 1);
            if (old == other) {
                return 0;
            }
            boolean sameStem = old / WORDS_OF_A_STEM == other / WORDS_OF_A_STEM;
            return sameStem ? costs[SAME_STEM] : costs[REPLACING];
        }

        private boolean swaps(int i, int j) {
            return i >= 2 && j >= 2
                && first.at(i - 1) == second.at(j - 2)
                && first.at(i - 2) == second.at(j - 1);
        }

        /** Makes the edit list, its last edit first, from the table that stands. */
        private void trace(int[] costs) {
            listed = 0;
            int i = first.length;
            int j = second.length;
            for (int step = 0; step < list.length && i + j > 0; step++) {
                int kind = lastStep(i, j, costs);
                boolean keeps = kind == REPLACE && first.at(i - 1) == second.at(j - 1);
                i -= kind == INSERT ? 0 : kind == SWAP ? 2 : 1;
                j -= kind == REMOVE ? 0 : kind == SWAP ? 2 : 1;
                if (!keeps && listed < list.length) {
                    list[listed] = 100 * kind + 10 * i + j;
                    listed++;
                }
            }
        }

        private int lastStep(int i, int j, int[] costs) {
            boolean inside = i >= 0 && i <= first.length && j >= 0 && j <= second.length;
            for (int kind = REPLACE; inside && kind < SWAP; kind++) {
                if (by(kind, i, j, costs) == table[i][j]) {
                    return kind;
                }
            }
            return SWAP;
        }

        private int fromBeginning(int index) {
            return index >= 0 && index < listed ? list[listed - 1 - index] : NOT_FOUND;
        }
    }

    /** Fills a pattern in all ways, the first filling first. */
    private static final class Matcher {
        private final Sequence pattern = new Sequence();
        private final Sequence saying = new Sequence();
        private final int[] slotWords = new int[SLOTS];
        private final int[] firstWord = new int[SLOTS];
        private int found;

        private int match(State state, int patternNumber, int sayingNumber) {
            state.patterns.load(patternNumber, pattern);
            state.sayings.load(sayingNumber, saying);
            for (int slot = 0; slot < SLOTS; slot++) {
                slotWords[slot] = NONE;
                firstWord[slot] = NONE;
            }
            found = 0;
            fill(0, 0);
            return found;
        }

        /** More words weigh more than any number of gaps; of equals the caller's first one wins. */
        private int fit() {
            return pattern.wordCount() * (MOST_TOKENS + 1) + MOST_TOKENS - pattern.gapCount();
        }

        /** Goes one level deeper for each token of the pattern, so at most eight. */
        private void fill(int token, int word) {
            if (token >= pattern.length) {
                noteFilling(word);
            } else if (pattern.at(token) == GAP) {
                for (int end = word; end <= saying.length; end++) {
                    fill(token + 1, end);
                }
            } else if (word < saying.length) {
                fillOne(token, word);
            }
        }

        private void fillOne(int token, int word) {
            int slot = pattern.at(token) - FIRST_SLOT;
            if (slot < 0 || slot >= SLOTS) {
                if (pattern.at(token) == saying.at(word)) {
                    fill(token + 1, word + 1);
                }
                return;
            }
            int before = slotWords[slot];
            if (before == NONE || before == saying.at(word)) {
                slotWords[slot] = saying.at(word);
                fill(token + 1, word + 1);
                slotWords[slot] = before;
            }
        }

        private void noteFilling(int word) {
            if (word != saying.length) {
                return;
            }
            if (found == 0) {
                copyAll(slotWords, firstWord);
            }
            found++;
        }
    }

    /** The groups as they are now; made anew for each call, since any change may move them. */
    private static final class Groups {
        private final int[] order = new int[MOST_SAYINGS];
        private final int[] memberOf = new int[MOST_SAYINGS];
        private final int[] centres = new int[MOST_SAYINGS];
        private int count;

        private void form(State state, Edits edits) {
            count = 0;
            for (int saying = 0; saying < MOST_SAYINGS; saying++) {
                memberOf[saying] = NONE;
            }
            state.sortByAge(order);
            for (int place = 0; place < state.sayings.count; place++) {
                int centre = order[place];
                if (!state.sayings.has(centre) || memberOf[centre] != NONE || count >= centres.length) {
                    continue;
                }
                centres[count] = centre;
                // the centre comes first and joins by its distance 0, which no limit excludes
                for (int later = place; later < state.sayings.count; later++) {
                    int saying = order[later];
                    if (state.sayings.has(saying) && memberOf[saying] == NONE
                        && edits.between(state, centre, saying) <= state.limit) {
                        memberOf[saying] = count;
                    }
                }
                count++;
            }
        }

        private int centre(int group) {
            return group >= 0 && group < count ? centres[group] : NOT_FOUND;
        }

        private int members(State state, int group) {
            int members = 0;
            for (int saying = 0; saying < state.sayings.count; saying++) {
                members += memberOf[saying] == group ? 1 : 0;
            }
            return members;
        }

        private int regions(State state, int group) {
            int regions = 0;
            for (int saying = 0; saying < state.sayings.count; saying++) {
                if (memberOf[saying] == group) {
                    regions |= 1 << state.regions[saying];
                }
            }
            return Integer.bitCount(regions);
        }

        private int radius(State state, Edits edits, int group) {
            int greatest = 0;
            for (int saying = 0; saying < state.sayings.count; saying++) {
                if (memberOf[saying] == group) {
                    greatest = Math.max(greatest, edits.between(state, centre(group), saying));
                }
            }
            return greatest;
        }
    }

    /** Blends of two sayings, measured against a third one. */
    private static final class Crossings {
        private final Sequence front = new Sequence();
        private final Sequence back = new Sequence();
        private final int[] order = new int[MOST_SAYINGS];
        private final int[] apart = new int[MOST_SAYINGS];

        /** NEVER if there is no blend of a and b. */
        private int cost(State state, Edits edits, int saying, int a, int b) {
            state.sayings.load(saying, edits.first);
            state.sayings.load(a, front);
            state.sayings.load(b, back);
            int least = NEVER;
            for (int k = 1; k < front.length; k++) {
                for (int n = 1; n < back.length && k + n <= MOST_TOKENS; n++) {
                    edits.second.length = 0;
                    edits.second.addPart(front, 0, k);
                    edits.second.addPart(back, back.length - n, back.length);
                    least = Math.min(least, edits.measure(state.costs));
                }
            }
            return least;
        }

        private int bestPair(State state, Edits edits, int saying, int limit) {
            state.sortByAge(order);
            int older = state.place(saying);
            for (int place = 0; place < older; place++) {
                apart[place] = edits.between(state, saying, order[place]);
            }
            int pair = NOT_FOUND;
            int bound = limit + 1;
            for (int a = 0; a < older; a++) {
                for (int b = 0; b < older; b++) {
                    int allowed = Math.min(bound, Math.min(apart[a], apart[b]));
                    // with nothing below the bound left to find, the dear search for blends is spared
                    boolean open = a != b && allowed > 0;
                    int found = open ? cost(state, edits, saying, order[a], order[b]) : NEVER;
                    if (found < allowed) {
                        bound = found;
                        pair = 100 * order[a] + order[b];
                    }
                }
            }
            return pair;
        }
    }
}
