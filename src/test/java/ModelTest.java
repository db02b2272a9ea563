import java.util.ArrayList;
import java.util.Arrays;
import java.util.Comparator;
import java.util.List;
import java.util.Map;
import java.util.Random;
import java.util.TreeMap;

/**
 * All promises: long runs of mixed calls, good and wrong ones, against a second program that
 * follows the document's sentences with lists, maps and a sort, and keeps no counts.
 */
public final class ModelTest {
    private static final int RUNS = 3000;
    private static final int CALLS = 512;
    private static final String[] NAMES = {"write", "blank", "add", "addMany", "delete", "tidy", "live", "times",
        "spread", "item", "drop", "matching", "score", "ranked", "rankedScore", "scoring"};
    private static final int[] ODD = {Integer.MIN_VALUE, Integer.MIN_VALUE + 1, -65536, -11, -2, 25, 256, 1 << 29,
        Integer.MAX_VALUE - 1, Integer.MAX_VALUE};

    private final int[] draft = new int[8];
    private final List<int[]> documents = new ArrayList<>();
    private final List<Boolean> deleted = new ArrayList<>();
    private final Map<Integer, Integer> query = new TreeMap<>();

    public static void main(String[] args) {
        Expect expect = new Expect();
        for (int run = 0; run < RUNS && !expect.anyWrong(); run++) {
            new ModelTest().run(run, expect);
        }
        expect.finish();
    }

    private void run(int seed, Expect expect) {
        // A fixed seed for each run, so that a fault shows again.
        Random random = new Random(seed);
        WandSearch x = new WandSearch();
        for (int call = 0; call < CALLS && !expect.anyWrong(); call++) {
            int method = pickMethod(random, seed);
            int a = pick(random, mostFirst(method));
            int b = pick(random, mostSecond(method, seed));
            String told = "run " + seed + ", call " + call + ": " + NAMES[method] + " with " + a + ", " + b;
            expect.due(told, ask(x, method, a, b), due(method, a, b));
        }
    }

    private static int pickMethod(Random random, int seed) {
        int method = random.nextInt(NAMES.length);
        boolean fills = method == 2 || method == 3;
        // Otherwise every run would be full after a few calls, and no run would be long with few documents.
        if (fills && random.nextInt(1 + seed % 12) != 0) {
            return random.nextInt(2) == 0 ? 0 : 9;
        }
        if (method == 4 && random.nextInt(1 + seed % 5) != 0) {
            return 13;
        }
        return method;
    }

    private static int mostFirst(int method) {
        switch (method) {
            case 3: return 10;
            case 4: case 12: return 23;
            case 13: case 14: return 9;
            case 15: return 120000;
            default: return 7;
        }
    }

    private static int mostSecond(int method, int seed) {
        switch (method) {
            // Few at a time in most runs, for a run is full after one great count.
            case 3: return seed % 4 == 0 ? 24 : 6;
            case 7: return 23;
            case 9: return 19;
            default: return 7;
        }
    }

    /** Mostly 0 .. most, now and then one beside it or a number far off. */
    private static int pick(Random random, int most) {
        int way = random.nextInt(30);
        if (way == 0) {
            return -1;
        }
        if (way == 1) {
            return most + 1;
        }
        return way == 2 ? ODD[random.nextInt(ODD.length)] : random.nextInt(most + 1);
    }

    private static int ask(WandSearch x, int method, int a, int b) {
        switch (method) {
            case 0: return x.write(a, b);
            case 1: return x.blank();
            case 2: return x.add();
            case 3: return x.addMany(a, b);
            case 4: return x.delete(a);
            case 5: return x.tidy();
            case 6: return x.live();
            case 7: return x.times(a, b);
            case 8: return x.spread(a);
            case 9: return x.item(a, b);
            case 10: return x.drop(a);
            case 11: return x.matching();
            case 12: return x.score(a);
            case 13: return x.ranked(a);
            case 14: return x.rankedScore(a);
            default: return x.scoring(a);
        }
    }

    private long due(int method, int a, int b) {
        switch (method) {
            case 0: return write(a, b);
            case 1: return blank();
            case 2: return add(draft.clone());
            case 3: return addMany(a, b);
            case 4: return delete(a);
            case 5: case 6: return liveOnes().size();
            case 7: return !good(a) ? -1 : !isLive(b) ? -2 : documents.get(b)[a];
            case 8: return !good(a) ? -1 : spread(a);
            case 9: return item(a, b);
            case 10: return query.remove(a) == null ? -1 : query.size();
            case 11: return ranking().size();
            case 12: return !isLive(a) ? -1 : score(a);
            case 13: return a < 0 || a > 9 ? -1 : a >= ranking().size() ? -2 : ranking().get(a);
            case 14: return a < 0 || a > 9 ? -1 : a >= ranking().size() ? -2 : score(ranking().get(a));
            default: return ranking().stream().filter(d -> score(d) >= a).count();
        }
    }

    private static boolean good(int word) {
        return 0 <= word && word <= 7;
    }

    private static int length(int[] document) {
        int sum = 0;
        for (int times : document) {
            sum += times;
        }
        return sum;
    }

    private int write(int word, int times) {
        if (!good(word)) {
            return -1;
        }
        if (times < 0 || times > 7) {
            return -2;
        }
        draft[word] = times;
        return length(draft);
    }

    private int blank() {
        int before = length(draft);
        Arrays.fill(draft, 0);
        return before;
    }

    private int add(int[] document) {
        if (documents.size() == 24) {
            return -1;
        }
        documents.add(document);
        deleted.add(false);
        return documents.size() - 1;
    }

    private int addMany(int seed, int count) {
        if (seed < 0 || seed > 10) {
            return -1;
        }
        if (count < 1 || count > 24) {
            return -2;
        }
        int done = 0;
        for (int k = 0; k < count; k++) {
            int[] document = new int[8];
            for (int t = 0; t < 8; t++) {
                document[t] = Math.max(0, (seed + 5 * k + 3 * t + k * t) % 11 - 3);
            }
            done += add(document) >= 0 ? 1 : 0;
        }
        return done;
    }

    private boolean isLive(int document) {
        return liveOnes().contains(document);
    }

    private List<Integer> liveOnes() {
        List<Integer> live = new ArrayList<>();
        for (int document = 0; document < documents.size(); document++) {
            if (!deleted.get(document)) {
                live.add(document);
            }
        }
        return live;
    }

    private int delete(int document) {
        if (!isLive(document)) {
            return -1;
        }
        deleted.set(document, true);
        return liveOnes().size();
    }

    private long spread(int word) {
        return liveOnes().stream().filter(d -> documents.get(d)[word] > 0).count();
    }

    private int item(int word, int boost) {
        if (!good(word)) {
            return -1;
        }
        if (boost < 0 || boost == 10 || boost > 19) {
            return -2;
        }
        if (query.size() == 5 && !query.containsKey(word)) {
            return -3;
        }
        query.put(word, boost);
        return query.size();
    }

    private boolean matches(int document) {
        int[] row = documents.get(document);
        boolean some = query.entrySet().stream().anyMatch(i -> i.getValue() > 0 && row[i.getKey()] > 0);
        boolean all = query.entrySet().stream().allMatch(i -> i.getValue() < 11 || row[i.getKey()] > 0);
        boolean none = query.entrySet().stream().noneMatch(i -> i.getValue() == 0 && row[i.getKey()] > 0);
        return some && all && none;
    }

    private long score(int document) {
        int[] row = documents.get(document);
        long sum = 0;
        for (Map.Entry<Integer, Integer> item : query.entrySet()) {
            long boost = item.getValue() % 10;
            long rarity = 64L * (liveOnes().size() + 1) / (spread(item.getKey()) + 1);
            long k = row[item.getKey()];
            long strength = k == 0 ? 0 : 256 * k / (k + 2 + length(row) / 4);
            sum += boost * rarity * strength;
        }
        return sum;
    }

    private List<Integer> ranking() {
        List<Integer> ranking = liveOnes();
        ranking.removeIf(document -> !matches(document));
        ranking.sort(Comparator.comparing((Integer document) -> -score(document)).thenComparing(d -> d));
        return ranking;
    }
}
