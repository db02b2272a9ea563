import java.util.ArrayList;
import java.util.List;

/** What can be seen of an object from outside. */
final class State {
    private static final int[] BOUNDS = {Integer.MIN_VALUE, 0, 1, 30000, 80000, Integer.MAX_VALUE};

    private State() {
    }

    /** Asks all there is to ask (270 calls), so that the object is of no further use. */
    static List<String> of(WandSearch x) {
        List<String> seen = new ArrayList<>();
        documents(x, seen);
        ranking(x, seen);
        // The draft and the query can't be asked for; the calls that take them apart tell what was in them.
        for (int word = 0; word < 8; word++) {
            seen.add("write(" + word + ", 0) answered " + x.write(word, 0));
        }
        for (int word = 0; word < 8; word++) {
            seen.add("drop(" + word + ") answered " + x.drop(word));
        }
        seen.add("add() answered " + x.add());
        seen.add("live() answered " + x.live());
        return seen;
    }

    private static void documents(WandSearch x, List<String> seen) {
        seen.add("live() answered " + x.live());
        for (int word = 0; word < 8; word++) {
            seen.add("spread(" + word + ") answered " + x.spread(word));
            for (int document = 0; document < 24; document++) {
                seen.add("times(" + word + ", " + document + ") answered " + x.times(word, document));
            }
        }
    }

    private static void ranking(WandSearch x, List<String> seen) {
        seen.add("matching() answered " + x.matching());
        for (int document = 0; document < 24; document++) {
            seen.add("score(" + document + ") answered " + x.score(document));
        }
        for (int position = 0; position < 10; position++) {
            seen.add("ranked(" + position + ") answered " + x.ranked(position));
            seen.add("rankedScore(" + position + ") answered " + x.rankedScore(position));
        }
        for (int bound : BOUNDS) {
            seen.add("scoring(" + bound + ") answered " + x.scoring(bound));
        }
    }
}
