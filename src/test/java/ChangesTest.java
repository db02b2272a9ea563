import java.util.function.ToIntFunction;

/** What calls leave as it was, the order of the tests, and the last of the 512 calls. */
public final class ChangesTest {
    private static final Expect EXPECT = new Expect();
    private static final State NEW = new State(WandSearch::new);
    private static final State HALF_FULL = new State(Make::halfFull);
    private static final State MANY_MATCHING = new State(Make::manyMatching);
    private static final State FULL = new State(Make::full);

    public static void main(String[] args) {
        EXPECT.run(
            ChangesTest::noQuestionChangesAnything,
            ChangesTest::refusedCallsChangeNothing,
            ChangesTest::testsInTheOrderNamed,
            ChangesTest::atMost512Calls);
    }

    private static void leaves(State start, String call, int due, ToIntFunction<WandSearch> ask) {
        EXPECT.due(call, ask.applyAsInt(start.make()), due);
        start.staysWith(EXPECT, call, ask);
    }

    private static void noQuestionChangesAnything() {
        EXPECT.sentence("Terms", "No question changes anything.");
        questions(NEW);
        questions(HALF_FULL);
        questions(MANY_MATCHING);
        questions(FULL);
    }

    private static void questions(State start) {
        start.staysWith(EXPECT, "live()", WandSearch::live);
        start.staysWith(EXPECT, "matching()", WandSearch::matching);
        for (int number : new int[] {Make.LEAST, -1, 0, 1, 4, 7, 8, 9, 10, 23, 24, 40000, Make.GREATEST}) {
            start.staysWith(EXPECT, "spread(" + number + ")", x -> x.spread(number));
            start.staysWith(EXPECT, "times(" + number + ", 5)", x -> x.times(number, 5));
            start.staysWith(EXPECT, "times(5, " + number + ")", x -> x.times(5, number));
            start.staysWith(EXPECT, "score(" + number + ")", x -> x.score(number));
            start.staysWith(EXPECT, "ranked(" + number + ")", x -> x.ranked(number));
            start.staysWith(EXPECT, "rankedScore(" + number + ")", x -> x.rankedScore(number));
            start.staysWith(EXPECT, "scoring(" + number + ")", x -> x.scoring(number));
        }
    }

    private static void refusedCallsChangeNothing() {
        EXPECT.sentence("Terms", "A refused call changes nothing.");
        refusedCallsOfANewObject();
        refusedCallsWithRoom();
        refusedCallsWithoutRoom();
    }

    private static void refusedCallsOfANewObject() {
        wrongArguments(NEW);
        leaves(NEW, "delete(0) of none", -1, x -> x.delete(0));
        leaves(NEW, "drop(0) of none", -1, x -> x.drop(0));
        leaves(NEW, "times(0, 0) of none", -2, x -> x.times(0, 0));
        leaves(NEW, "score(0) of none", -1, x -> x.score(0));
        leaves(NEW, "ranked(0) of none", -2, x -> x.ranked(0));
        leaves(NEW, "rankedScore(0) of none", -2, x -> x.rankedScore(0));
    }

    private static void refusedCallsWithRoom() {
        wrongArguments(HALF_FULL);
        wrongArguments(MANY_MATCHING);
        leaves(HALF_FULL, "delete(3), deleted before", -1, x -> x.delete(3));
        leaves(HALF_FULL, "delete(10), not added yet", -1, x -> x.delete(10));
        leaves(HALF_FULL, "drop(1), not in the query", -1, x -> x.drop(1));
    }

    private static void refusedCallsWithoutRoom() {
        wrongArguments(FULL);
        leaves(FULL, "add() when full", -1, WandSearch::add);
        leaves(FULL, "addMany(3, 24) when full adds none", 0, x -> x.addMany(3, 24));
        leaves(FULL, "delete(0), deleted before", -1, x -> x.delete(0));
        leaves(FULL, "delete(23), deleted before", -1, x -> x.delete(23));
        for (int boost : new int[] {0, 1, 9, 11, 19}) {
            leaves(FULL, "item(7, " + boost + ") as the sixth", -3, x -> x.item(7, boost));
        }
        leaves(FULL, "drop(7), not in the query", -1, x -> x.drop(7));
    }

    private static void wrongArguments(State start) {
        for (int word : Make.outside(0, 7)) {
            leaves(start, "write(" + word + ", 4)", -1, x -> x.write(word, 4));
            leaves(start, "times(" + word + ", 1)", -1, x -> x.times(word, 1));
            leaves(start, "spread(" + word + ")", -1, x -> x.spread(word));
            leaves(start, "item(" + word + ", 4)", -1, x -> x.item(word, 4));
            leaves(start, "drop(" + word + ")", -1, x -> x.drop(word));
        }
        for (int times : Make.outside(0, 7)) {
            leaves(start, "write(2, " + times + ")", -2, x -> x.write(2, times));
        }
        for (int seed : Make.outside(0, 10)) {
            leaves(start, "addMany(" + seed + ", 3)", -1, x -> x.addMany(seed, 3));
        }
        for (int count : Make.outside(1, 24)) {
            leaves(start, "addMany(3, " + count + ")", -2, x -> x.addMany(3, count));
        }
        for (int document : Make.outside(0, 23)) {
            leaves(start, "delete(" + document + ")", -1, x -> x.delete(document));
            leaves(start, "times(1, " + document + ")", -2, x -> x.times(1, document));
            leaves(start, "score(" + document + ")", -1, x -> x.score(document));
        }
        for (int boost : Make.outside(0, 19)) {
            leaves(start, "item(0, " + boost + ")", -2, x -> x.item(0, boost));
        }
        leaves(start, "item(0, 10)", -2, x -> x.item(0, 10));
        leaves(start, "item(5, 10)", -2, x -> x.item(5, 10));
        for (int position : Make.outside(0, 9)) {
            leaves(start, "ranked(" + position + ")", -1, x -> x.ranked(position));
            leaves(start, "rankedScore(" + position + ")", -1, x -> x.rankedScore(position));
        }
    }

    private static void testsInTheOrderNamed() {
        EXPECT.sentence("Terms", "In every method the tests are made in the order named");
        WandSearch x = Make.full();
        for (int far : new int[] {-1, 30, Make.LEAST, Make.GREATEST}) {
            EXPECT.due("write(" + far + ", " + far + ")", x.write(far, far), -1);
            EXPECT.due("addMany(" + far + ", " + far + ")", x.addMany(far, far), -1);
            EXPECT.due("addMany(1, " + far + ") when full", x.addMany(1, far), -2);
            EXPECT.due("times(" + far + ", " + far + ")", x.times(far, far), -1);
            EXPECT.due("item(" + far + ", " + far + ") when full", x.item(far, far), -1);
            EXPECT.due("item(" + far + ", 1) when full", x.item(far, 1), -1);
            EXPECT.due("item(7, " + far + ") when full", x.item(7, far), -2);
            EXPECT.due("item(0, " + far + ") of a word in it", x.item(0, far), -2);
        }
        EXPECT.due("times(8, 0) of a deleted document", x.times(8, 0), -1);
        EXPECT.due("item(7, 10) when full", x.item(7, 10), -2);
        EXPECT.due("item(7, 1) when full", x.item(7, 1), -3);
        WandSearch none = new WandSearch();
        EXPECT.due("ranked(10) of none", none.ranked(10), -1);
        EXPECT.due("ranked(-1) of none", none.ranked(-1), -1);
        EXPECT.due("rankedScore(10) of none", none.rankedScore(10), -1);
        EXPECT.due("rankedScore(-1) of none", none.rankedScore(-1), -1);
        EXPECT.due("times(8, 0) of none", none.times(8, 0), -1);
    }

    private static void atMost512Calls() {
        EXPECT.sentence("What it is", "An object is used for at most 512 calls after it has been made");
        lastCallOfEachMethod();
        longRunsOfOneMethod();
    }

    /** 511 calls: 3 documents with word 0 once, of which document 1 is deleted, and word 0 wanted with boost 2. */
    private static WandSearch before512() {
        WandSearch x = Make.alike(3);
        x.delete(1);
        x.item(0, 2);
        for (int call = 6; call < 511; call++) {
            x.tidy();
        }
        return x;
    }

    private static void lastCallOfEachMethod() {
        EXPECT.due("write(7, 7)", before512().write(7, 7), 8);
        EXPECT.due("blank()", before512().blank(), 1);
        EXPECT.due("add()", before512().add(), 3);
        EXPECT.due("addMany(0, 24)", before512().addMany(0, 24), 21);
        EXPECT.due("delete(0)", before512().delete(0), 1);
        EXPECT.due("tidy()", before512().tidy(), 2);
        EXPECT.due("live()", before512().live(), 2);
        EXPECT.due("times(0, 2)", before512().times(0, 2), 1);
        EXPECT.due("spread(0)", before512().spread(0), 2);
        EXPECT.due("item(1, 0)", before512().item(1, 0), 2);
        EXPECT.due("drop(0)", before512().drop(0), 0);
        EXPECT.due("matching()", before512().matching(), 2);
        EXPECT.due("score(2)", before512().score(2), 2 * 64 * 85);
        EXPECT.due("ranked(1)", before512().ranked(1), 2);
        EXPECT.due("rankedScore(1)", before512().rankedScore(1), 2 * 64 * 85);
        EXPECT.due("scoring(1)", before512().scoring(1), 2);
    }

    private static void longRunsOfOneMethod() {
        WandSearch writes = new WandSearch();
        WandSearch adds = new WandSearch();
        WandSearch many = new WandSearch();
        WandSearch items = new WandSearch();
        WandSearch deletes = Make.alike(3);
        for (int call = 1; call <= 256; call++) {
            EXPECT.due("write(3, 7), pair " + call, writes.write(3, 7), 7);
            EXPECT.due("write(3, 0), pair " + call, writes.write(3, 0), 0);
            EXPECT.due("item(3, 1), pair " + call, items.item(3, 1), 1);
            EXPECT.due("drop(3), pair " + call, items.drop(3), 0);
        }
        for (int call = 0; call < 512; call++) {
            EXPECT.due("add(), call " + call, adds.add(), call < 24 ? call : -1);
            EXPECT.due("addMany(7, 1), call " + call, many.addMany(7, 1), call < 24 ? 1 : 0);
        }
        for (int call = 4; call < 512; call++) {
            EXPECT.due("delete(1), call " + call, deletes.delete(1), call == 4 ? 2 : -1);
        }
    }
}
