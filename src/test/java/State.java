import java.util.ArrayList;
import java.util.List;
import java.util.function.Supplier;
import java.util.function.ToIntFunction;

/** A way to make an object, and what can be seen from outside of the object so made. */
final class State {
    private record Probe(String call, ToIntFunction<WandSearch> ask) {
    }

    private static final List<Probe> PROBES = probes();

    private final Supplier<WandSearch> made;
    private final List<String> seen;

    State(Supplier<WandSearch> made) {
        this.made = made;
        this.seen = seenOf(made);
    }

    WandSearch make() {
        return made.get();
    }

    /** Nothing that can be seen is another thing after the call. */
    void staysWith(Expect expect, String call, ToIntFunction<WandSearch> ask) {
        List<String> after = seenOf(() -> {
            WandSearch x = made.get();
            ask.applyAsInt(x);
            return x;
        });
        expect.same(call, after, seen);
    }

    /** Each answer is got from an object of its own, so that none hides what a call before it has changed. */
    private static List<String> seenOf(Supplier<WandSearch> made) {
        List<String> seen = new ArrayList<>();
        for (Probe probe : PROBES) {
            seen.add(probe.call + " answered " + probe.ask.applyAsInt(made.get()));
        }
        return seen;
    }

    private static List<Probe> probes() {
        List<Probe> probes = new ArrayList<>();
        probes.add(new Probe("live()", WandSearch::live));
        probes.add(new Probe("tidy()", WandSearch::tidy));
        probes.add(new Probe("matching()", WandSearch::matching));
        probes.add(new Probe("blank()", WandSearch::blank));
        probes.add(new Probe("add()", WandSearch::add));
        probes.add(new Probe("addMany(4, 24)", x -> x.addMany(4, 24)));
        for (int word = 0; word <= 7; word++) {
            wordProbes(probes, word);
        }
        for (int document = 0; document <= 23; document++) {
            documentProbes(probes, document);
        }
        for (int position = 0; position <= 9; position++) {
            int asked = position;
            probes.add(new Probe("ranked(" + asked + ")", x -> x.ranked(asked)));
            probes.add(new Probe("rankedScore(" + asked + ")", x -> x.rankedScore(asked)));
        }
        for (int bound : new int[] {Make.LEAST, 0, 1, 30000, 80000, Make.GREATEST}) {
            probes.add(new Probe("scoring(" + bound + ")", x -> x.scoring(bound)));
        }
        return probes;
    }

    /** The draft and the query can't be asked for; calls that take a piece out tell what was there. */
    private static void wordProbes(List<Probe> probes, int word) {
        probes.add(new Probe("write(" + word + ", 0)", x -> x.write(word, 0)));
        probes.add(new Probe("spread(" + word + ")", x -> x.spread(word)));
        probes.add(new Probe("item(" + word + ", 1)", x -> x.item(word, 1)));
        probes.add(new Probe("drop(" + word + ")", x -> x.drop(word)));
    }

    private static void documentProbes(List<Probe> probes, int document) {
        probes.add(new Probe("delete(" + document + ")", x -> x.delete(document)));
        probes.add(new Probe("score(" + document + ")", x -> x.score(document)));
        for (int word = 0; word <= 7; word++) {
            int asked = word;
            probes.add(new Probe("times(" + asked + ", " + document + ")", x -> x.times(asked, document)));
        }
    }
}
