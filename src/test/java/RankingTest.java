import java.util.function.ToIntBiFunction;

/** Promises 15 to 17: ranked, rankedScore and scoring, each sentence with a test of its own. */
public final class RankingTest {
    private static final Expect EXPECT = new Expect();

    public static void main(String[] args) {
        EXPECT.run(
            RankingTest::rankedAtAPosition,
            RankingTest::rankedOfOnlyMatchingDocuments,
            RankingTest::rankedOfWrongPosition,
            RankingTest::rankedOfTooFewDocuments,
            RankingTest::rankedScoreOfThatDocument,
            RankingTest::rankedScoreOfWrongPosition,
            RankingTest::rankedScoreOfTooFewDocuments,
            RankingTest::scoringAtLeast,
            RankingTest::scoringOfOnlyMatchingDocuments,
            RankingTest::scoringOfAnyBound);
    }

    private static void ranks(String run, WandSearch x, int... documents) {
        for (int position = 0; position < documents.length; position++) {
            EXPECT.due(run + ", ranked(" + position + ")", x.ranked(position), documents[position]);
        }
        if (documents.length < 10) {
            EXPECT.due(run + ", ranked(" + documents.length + ")", x.ranked(documents.length), -2);
        }
    }

    /** Word 0 so often as the numbers say, one document each, and wanted with boost 3. */
    private static WandSearch wanted(int... times) {
        WandSearch x = new WandSearch();
        for (int k : times) {
            Make.row(x, k);
        }
        x.item(0, 3);
        return x;
    }

    private static void rankedAtAPosition() {
        EXPECT.sentence("15", "The document at a position of the ranking (0 for the first).");
        // Strengths 128, 179, 85 and 160.
        WandSearch x = wanted(2, 7, 1, 5);
        ranks("4 documents", x, 1, 3, 0, 2);
        x.delete(1);
        ranks("the first deleted", x, 3, 0, 2);
        Make.row(x, 6);
        ranks("a new first", x, 4, 3, 0, 2);
        x.delete(2);
        ranks("the last deleted", x, 4, 3, 0);
        WandSearch ties = wanted(1, 7, 1, 7, 1, 7);
        ranks("ties", ties, 1, 3, 5, 0, 2, 4);
        Make.deletes(ties, 1, 2);
        ranks("ties after deletes", ties, 3, 5, 0, 4);
        ties.add();
        ranks("a late tie", ties, 3, 5, 6, 0, 4);
        WandSearch full = Make.alike(24);
        full.item(0, 1);
        ranks("24 alike", full, 0, 1, 2, 3, 4, 5, 6, 7, 8, 9);
    }

    private static void rankedOfOnlyMatchingDocuments() {
        EXPECT.sentence("15", "The document at a position of the ranking");
        WandSearch x = new WandSearch();
        Make.row(x, 7, 1);
        Make.row(x, 1, 1, 1);
        Make.row(x, 2);
        x.item(0, 9);
        x.item(2, 0);
        ranks("2 barred", x, 0, 2);
        x.item(1, 11);
        ranks("2 barred and 1 needed", x, 0);
        x.drop(2);
        ranks("1 needed", x, 0, 1);
        x.item(2, 11);
        ranks("1 and 2 needed", x, 1);
        x.item(3, 11);
        ranks("a word needed that none has", x);
        WandSearch barred = wanted(2, 7);
        barred.item(0, 0);
        ranks("barred", barred);
    }

    private static void wrongPositions(String call, ToIntBiFunction<WandSearch, Integer> ask) {
        WandSearch none = new WandSearch();
        WandSearch full = Make.alike(24);
        full.item(0, 1);
        for (int position : Make.outside(0, 9)) {
            EXPECT.due(call + "(" + position + ") of none", ask.applyAsInt(none, position), -1);
            EXPECT.due(call + "(" + position + ") of 24", ask.applyAsInt(full, position), -1);
        }
        EXPECT.holds(call + "(0) of 24 is not refused", ask.applyAsInt(full, 0) >= 0);
        EXPECT.holds(call + "(9) of 24 is not refused", ask.applyAsInt(full, 9) >= 0);
    }

    private static void tooFewDocuments(String call, ToIntBiFunction<WandSearch, Integer> ask) {
        WandSearch x = new WandSearch();
        x.item(0, 1);
        // A document that does not match takes no position.
        x.add();
        x.write(0, 1);
        for (int matching = 0; matching <= 10; matching++) {
            for (int position = 0; position <= 9; position++) {
                boolean refused = ask.applyAsInt(x, position) == -2;
                EXPECT.holds(call + "(" + position + ") of " + matching, refused == position >= matching);
            }
            x.add();
        }
        x.drop(0);
        EXPECT.due(call + "(0) for the empty query", ask.applyAsInt(x, 0), -2);
        WandSearch deleted = Make.alike(2);
        deleted.item(0, 1);
        deleted.delete(0);
        EXPECT.due(call + "(1), one of 2 deleted", ask.applyAsInt(deleted, 1), -2);
        deleted.delete(1);
        EXPECT.due(call + "(0), both deleted", ask.applyAsInt(deleted, 0), -2);
    }

    private static void rankedOfWrongPosition() {
        EXPECT.sentence("15", "-1 if position is not in 0 .. 9");
        wrongPositions("ranked", WandSearch::ranked);
    }

    private static void rankedOfTooFewDocuments() {
        EXPECT.sentence("15", "-2 if there are not so many matching documents");
        tooFewDocuments("ranked", WandSearch::ranked);
    }

    private static void rankedScoreOfThatDocument() {
        EXPECT.sentence("16", "The score of that document.");
        WandSearch x = wanted(2, 7, 1, 5, 2);
        int[] strengths = {179, 160, 128, 128, 85};
        for (int position = 0; position < 5; position++) {
            EXPECT.due("rankedScore(" + position + ")", x.rankedScore(position), 3 * 64 * strengths[position]);
        }
        x.delete(1);
        EXPECT.due("rankedScore(0), the first deleted", x.rankedScore(0), 3 * 64 * 160);
        x.item(0, 19);
        EXPECT.due("rankedScore(3), another boost", x.rankedScore(3), 9 * 64 * 85);
        // Word 0 once beside 36, 32, .. 0 others, so that the last one added is the first of the ranking.
        WandSearch ten = new WandSearch();
        ten.item(0, 1);
        for (int quarter = 9; quarter >= 0; quarter--) {
            addWithOthers(ten, 4 * quarter);
        }
        int[] due = {85, 64, 51, 42, 36, 32, 28, 25, 23, 21};
        for (int position = 0; position <= 9; position++) {
            EXPECT.due("rankedScore(" + position + ") of 10", ten.rankedScore(position), 64 * due[position]);
        }
    }

    private static void addWithOthers(WandSearch x, int others) {
        int[] times = {1, 0, 0, 0, 0, 0, 0, 0};
        for (int i = 0; i < others; i++) {
            times[1 + i % 7]++;
        }
        Make.row(x, times);
    }

    private static void rankedScoreOfWrongPosition() {
        EXPECT.sentence("16", "-1 if position is not in 0 .. 9");
        wrongPositions("rankedScore", WandSearch::rankedScore);
    }

    private static void rankedScoreOfTooFewDocuments() {
        EXPECT.sentence("16", "-2 if there are not so many matching documents");
        tooFewDocuments("rankedScore", WandSearch::rankedScore);
    }

    private static void scoringAtLeast() {
        EXPECT.sentence("17", "How many matching documents have a score of at least bound");
        WandSearch x = wanted(2, 7, 1, 5, 2);
        EXPECT.due("scoring(the last)", x.scoring(3 * 64 * 85), 5);
        EXPECT.due("scoring(above the last)", x.scoring(3 * 64 * 85 + 1), 4);
        EXPECT.due("scoring(the tie)", x.scoring(3 * 64 * 128), 4);
        EXPECT.due("scoring(above the tie)", x.scoring(3 * 64 * 128 + 1), 2);
        EXPECT.due("scoring(the second)", x.scoring(3 * 64 * 160), 2);
        EXPECT.due("scoring(the first)", x.scoring(3 * 64 * 179), 1);
        EXPECT.due("scoring(above the first)", x.scoring(3 * 64 * 179 + 1), 0);
        WandSearch full = Make.alike(24);
        full.item(0, 1);
        EXPECT.due("scoring(the score) of 24 alike", full.scoring(64 * 85), 24);
        EXPECT.due("scoring(above the score) of 24 alike", full.scoring(64 * 85 + 1), 0);
    }

    private static void scoringOfOnlyMatchingDocuments() {
        EXPECT.sentence("17", "How many matching documents");
        WandSearch x = Make.fourDocuments();
        EXPECT.due("scoring(0) for the empty query", x.scoring(0), 0);
        x.item(0, 1);
        EXPECT.due("scoring(0): those without the word score 0", x.scoring(0), 2);
        x.item(1, 0);
        EXPECT.due("scoring(1): one with a barred word scores too", x.scoring(1), 1);
        x.item(1, 11);
        EXPECT.due("scoring(1): one without a needed word scores too", x.scoring(1), 2);
        x.delete(1);
        EXPECT.due("scoring(1), one of the two deleted", x.scoring(1), 1);
    }

    private static void scoringOfAnyBound() {
        EXPECT.sentence("17", "at least bound (any int)");
        WandSearch x = Make.fourDocuments();
        x.item(0, 1);
        for (int bound : new int[] {Make.LEAST, Make.LEAST + 1, -65536, -1, 0, 1}) {
            EXPECT.due("scoring(" + bound + ")", x.scoring(bound), 2);
        }
        for (int bound : new int[] {9011, 65536, 65536 + 9010, Make.GREATEST - 1, Make.GREATEST}) {
            EXPECT.due("scoring(" + bound + ")", x.scoring(bound), 0);
        }
        WandSearch none = new WandSearch();
        EXPECT.due("scoring(least) of none", none.scoring(Make.LEAST), 0);
        EXPECT.due("scoring(greatest) of none", none.scoring(Make.GREATEST), 0);
    }
}
