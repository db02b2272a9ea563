public final class WandSearch {
    private static final int WORDS = 8;
    private static final int MOST_TIMES = 7;
    private static final int MOST_DOCUMENTS = 24;
    private static final int CELLS = WORDS * MOST_DOCUMENTS;
    private static final int MOST_ITEMS = 5;
    private static final int MOST_BOOST = 9;
    private static final int NEEDED_OFFSET = 10;
    private static final int MOST_SEED = 10;
    private static final int MOST_POSITION = 9;

    private static final int ABSENT = 0;
    private static final int WANTED = 1;
    private static final int NEEDED = 2;
    private static final int BARRED = 3;

    private static final int NO_DOCUMENT = -1;

    private final int[] draft = new int[WORDS];
    private int draftLength;

    // The row of document d is the cells d * WORDS .. d * WORDS + WORDS - 1.
    private final int[] cells = new int[CELLS];
    private final int[] lengths = new int[MOST_DOCUMENTS];
    private final boolean[] alive = new boolean[MOST_DOCUMENTS];
    private int added;

    // Kept with every add and delete, so that a rarity needs no walk over the documents.
    private final int[] holders = new int[WORDS];
    private int liveCount;

    private final int[] kinds = new int[WORDS];
    private final int[] boosts = new int[WORDS];
    private int items;

    public WandSearch() {
    }

    public int write(int word, int times) {
        if (!isGood(word)) {
            return -1;
        }
        if (times < 0 || times > MOST_TIMES) {
            return -2;
        }
        draftLength += times - draft[word];
        draft[word] = times;
        return draftLength;
    }

    public int blank() {
        int before = draftLength;
        for (int word = 0; word < WORDS; word++) {
            draft[word] = 0;
        }
        draftLength = 0;
        return before;
    }

    public int add() {
        if (added >= MOST_DOCUMENTS) {
            return -1;
        }
        int document = added;
        openDocument();
        for (int word = 0; word < WORDS; word++) {
            enter(document, word, draft[word]);
        }
        return document;
    }

    public int addMany(int seed, int count) {
        if (seed < 0 || seed > MOST_SEED) {
            return -1;
        }
        if (count < 1 || count > MOST_DOCUMENTS) {
            return -2;
        }
        int before = added;
        for (int k = 0; k < count && added < MOST_DOCUMENTS; k++) {
            int document = added;
            openDocument();
            for (int word = 0; word < WORDS; word++) {
                int times = patternTimes(seed, k, word);
                enter(document, word, times);
            }
        }
        return added - before;
    }

    public int delete(int document) {
        if (!isLive(document)) {
            return -1;
        }
        alive[document] = false;
        liveCount--;
        for (int word = 0; word < WORDS; word++) {
            if (has(document, word)) {
                holders[word]--;
            }
        }
        return liveCount;
    }

    // Deleted documents keep their numbers and are never counted, so nothing is left to tidy.
    public int tidy() {
        return liveCount;
    }

    public int live() {
        return liveCount;
    }

    public int times(int word, int document) {
        if (!isGood(word)) {
            return -1;
        }
        if (!isLive(document)) {
            return -2;
        }
        return cells[document * WORDS + word];
    }

    public int spread(int word) {
        return isGood(word) ? holders[word] : -1;
    }

    public int item(int word, int boost) {
        if (!isGood(word)) {
            return -1;
        }
        int kind = kindOf(boost);
        if (kind == ABSENT) {
            return -2;
        }
        if (kinds[word] == ABSENT) {
            if (items >= MOST_ITEMS) {
                return -3;
            }
            items++;
        }
        kinds[word] = kind;
        boosts[word] = kind == NEEDED ? boost - NEEDED_OFFSET : boost;
        return items;
    }

    public int drop(int word) {
        if (!isGood(word) || kinds[word] == ABSENT) {
            return -1;
        }
        kinds[word] = ABSENT;
        items--;
        return items;
    }

    public int matching() {
        int count = 0;
        for (int document = 0; document < added; document++) {
            if (matches(document)) {
                count++;
            }
        }
        return count;
    }

    public int score(int document) {
        return isLive(document) ? scoreOf(document) : -1;
    }

    public int ranked(int position) {
        if (!isPosition(position)) {
            return -1;
        }
        int document = documentAt(position);
        return document == NO_DOCUMENT ? -2 : document;
    }

    public int rankedScore(int position) {
        if (!isPosition(position)) {
            return -1;
        }
        int document = documentAt(position);
        return document == NO_DOCUMENT ? -2 : scoreOf(document);
    }

    public int scoring(int bound) {
        int count = 0;
        for (int document = 0; document < added; document++) {
            if (matches(document) && scoreOf(document) >= bound) {
                count++;
            }
        }
        return count;
    }

    private boolean isGood(int word) {
        return word >= 0 && word < WORDS;
    }

    private boolean isLive(int document) {
        return document >= 0 && document < added && alive[document];
    }

    private boolean isPosition(int position) {
        return position >= 0 && position <= MOST_POSITION;
    }

    private boolean has(int document, int word) {
        return cells[document * WORDS + word] > 0;
    }

    // The caller has seen that there is room.
    private void openDocument() {
        alive[added] = true;
        added++;
        liveCount++;
    }

    private void enter(int document, int word, int times) {
        cells[document * WORDS + word] = times;
        lengths[document] += times;
        if (times > 0) {
            holders[word]++;
        }
    }

    private int patternTimes(int seed, int k, int word) {
        int times = (seed + 5 * k + 3 * word + k * word) % 11 - 3;
        return times < 0 ? 0 : times;
    }

    // ABSENT stands for a boost that item does not take.
    private int kindOf(int boost) {
        if (boost == 0) {
            return BARRED;
        }
        if (boost >= 1 && boost <= MOST_BOOST) {
            return WANTED;
        }
        if (boost > NEEDED_OFFSET && boost <= NEEDED_OFFSET + MOST_BOOST) {
            return NEEDED;
        }
        return ABSENT;
    }

    private boolean matches(int document) {
        if (!isLive(document)) {
            return false;
        }
        boolean hasOne = false;
        for (int word = 0; word < WORDS; word++) {
            int kind = kinds[word];
            boolean present = has(document, word);
            if (kind == BARRED && present || kind == NEEDED && !present) {
                return false;
            }
            if (kind != ABSENT && present) {
                hasOne = true;
            }
        }
        return hasOne;
    }

    // Even 5 items of boost 9, rarity 1600 and strength 255 would make a sum far inside int.
    private int scoreOf(int document) {
        int sum = 0;
        for (int word = 0; word < WORDS; word++) {
            if (kinds[word] == WANTED || kinds[word] == NEEDED) {
                sum += boosts[word] * rarity(word) * strength(document, word);
            }
        }
        return sum;
    }

    private int rarity(int word) {
        return 64 * (liveCount + 1) / (holders[word] + 1);
    }

    // Without the word the quotient is 0 of itself; the divisor is never below 2.
    private int strength(int document, int word) {
        int times = cells[document * WORDS + word];
        return 256 * times / (times + 2 + lengths[document] / 4);
    }

    private int documentAt(int position) {
        for (int document = 0; document < added; document++) {
            if (matches(document) && placeOf(document) == position) {
                return document;
            }
        }
        return NO_DOCUMENT;
    }

    // A place is the number of matching documents ahead, which needs no sorted list to be held.
    private int placeOf(int document) {
        int own = scoreOf(document);
        int ahead = 0;
        for (int other = 0; other < added; other++) {
            if (matches(other)) {
                int score = scoreOf(other);
                if (score > own || score == own && other < document) {
                    ahead++;
                }
            }
        }
        return ahead;
    }
}
