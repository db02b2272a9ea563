/** Promises 15 to 17: ranked, rankedScore and scoring. */
public final class RankingTest {
    private static final Expect EXPECT = new Expect();
    private static final int[] NO_POSITIONS = {-1, 10, 11, Integer.MIN_VALUE, Integer.MAX_VALUE};

    public static void main(String[] args) {
        fallingScores();
        tiesByNumber();
        tenPlaces();
        onlyMatchingDocuments();
        positionRefusals();
        scoring();
        questionsChangeNothing();
        EXPECT.finish();
    }

    private static void ranks(String run, WandSearch x, int... documents) {
        for (int position = 0; position < documents.length; position++) {
            int due = documents[position];
            EXPECT.due("15: " + run + ", ranked(" + position + ")", x.ranked(position), due);
            EXPECT.due("16: " + run + ", rankedScore(" + position + ")", x.rankedScore(position), x.score(due));
        }
        if (documents.length < 10) {
            EXPECT.due("15: " + run + ", behind the last", x.ranked(documents.length), -2);
            EXPECT.due("16: " + run + ", behind the last", x.rankedScore(documents.length), -2);
        }
    }

    private static void fallingScores() {
        WandSearch x = new WandSearch();
        for (int times : new int[] {2, 7, 1, 5}) {
            x.write(0, times);
            x.add();
        }
        x.item(0, 3);
        // Strengths 128, 179, 85 and 160, rarity 64.
        ranks("one word", x, 1, 3, 0, 2);
        EXPECT.due("16: rankedScore(0)", x.rankedScore(0), 3 * 64 * 179);
        EXPECT.due("16: rankedScore(1)", x.rankedScore(1), 3 * 64 * 160);
        EXPECT.due("16: rankedScore(2)", x.rankedScore(2), 3 * 64 * 128);
        EXPECT.due("16: rankedScore(3)", x.rankedScore(3), 3 * 64 * 85);
        x.delete(1);
        ranks("the first deleted", x, 3, 0, 2);
        x.write(0, 6);
        x.add();
        ranks("a new first", x, 4, 3, 0, 2);
        x.item(0, 0);
        ranks("barred", x);
    }

    private static void tiesByNumber() {
        WandSearch x = new WandSearch();
        for (int times : new int[] {1, 4, 1, 4, 1, 4}) {
            x.write(5, times);
            x.add();
        }
        x.item(5, 1);
        ranks("ties", x, 1, 3, 5, 0, 2, 4);
        x.delete(1);
        x.delete(2);
        x.tidy();
        ranks("ties after deletes", x, 3, 5, 0, 4);
        x.add();
        ranks("a late tie", x, 3, 5, 6, 0, 4);
    }

    private static void tenPlaces() {
        WandSearch x = new WandSearch();
        x.write(2, 1);
        x.item(2, 1);
        for (int document = 0; document < 9; document++) {
            x.add();
        }
        EXPECT.due("15: ranked(8), 9 matching", x.ranked(8), 8);
        EXPECT.due("15: ranked(9), 9 matching", x.ranked(9), -2);
        EXPECT.due("16: rankedScore(9), 9 matching", x.rankedScore(9), -2);
        x.add();
        ranks("10 matching", x, 0, 1, 2, 3, 4, 5, 6, 7, 8, 9);
        for (int document = 10; document < 23; document++) {
            x.add();
        }
        x.write(2, 7);
        x.add();
        EXPECT.due("13: matching()", x.matching(), 24);
        ranks("24 matching", x, 23, 0, 1, 2, 3, 4, 5, 6, 7, 8);
    }

    private static void onlyMatchingDocuments() {
        WandSearch x = new WandSearch();
        x.write(0, 7);
        x.write(1, 1);
        x.add();
        x.write(0, 1);
        x.write(2, 1);
        x.add();
        x.blank();
        x.write(0, 2);
        x.add();
        x.item(0, 9);
        x.item(2, 0);
        ranks("2 barred", x, 0, 2);
        x.item(1, 11);
        ranks("1 needed too", x, 0);
        x.drop(2);
        ranks("1 needed", x, 0, 1);
        x.item(2, 11);
        ranks("1 and 2 needed", x, 1);
    }

    private static void positionRefusals() {
        WandSearch empty = new WandSearch();
        WandSearch full = new WandSearch();
        full.write(0, 1);
        full.item(0, 1);
        for (int document = 0; document < 24; document++) {
            full.add();
        }
        for (int position : NO_POSITIONS) {
            EXPECT.due("15: ranked(" + position + ") of none", empty.ranked(position), -1);
            EXPECT.due("16: rankedScore(" + position + ") of none", empty.rankedScore(position), -1);
            EXPECT.due("15: ranked(" + position + ") of 24", full.ranked(position), -1);
            EXPECT.due("16: rankedScore(" + position + ") of 24", full.rankedScore(position), -1);
        }
        EXPECT.due("15: ranked(0) of none", empty.ranked(0), -2);
        EXPECT.due("16: rankedScore(0) of none", empty.rankedScore(0), -2);
        EXPECT.due("15: ranked(9) of none", empty.ranked(9), -2);
        EXPECT.due("16: rankedScore(9) of none", empty.rankedScore(9), -2);
    }

    private static void scoring() {
        WandSearch x = new WandSearch();
        for (int times : new int[] {2, 7, 1, 5, 2}) {
            x.write(0, times);
            x.add();
        }
        x.blank();
        x.add();
        x.item(0, 1);
        // Rarity 64 * 7 / 6 = 74; strengths 128, 179, 85, 160 and 128.
        EXPECT.due("17: scoring(least): only those that match", x.scoring(Integer.MIN_VALUE), 5);
        EXPECT.due("17: scoring(0)", x.scoring(0), 5);
        EXPECT.due("17: scoring(the last)", x.scoring(74 * 85), 5);
        EXPECT.due("17: scoring(above the last)", x.scoring(74 * 85 + 1), 4);
        EXPECT.due("17: scoring(the tie)", x.scoring(74 * 128), 4);
        EXPECT.due("17: scoring(above the tie)", x.scoring(74 * 128 + 1), 2);
        EXPECT.due("17: scoring(the first)", x.scoring(74 * 179), 1);
        EXPECT.due("17: scoring(above the first)", x.scoring(74 * 179 + 1), 0);
        EXPECT.due("17: scoring(greatest)", x.scoring(Integer.MAX_VALUE), 0);
        x.delete(1);
        EXPECT.due("17: scoring(0) after a delete", x.scoring(0), 4);
        x.item(1, 11);
        EXPECT.due("17: scoring(0) with a needed word missing", x.scoring(0), 0);
    }

    private static void questionsChangeNothing() {
        WandSearch x = new WandSearch();
        x.addMany(4, 20);
        x.item(0, 5);
        x.item(3, 2);
        x.item(6, 9);
        for (int round = 0; round < 3; round++) {
            EXPECT.due("15: ranked(9), round " + round, x.ranked(9), 9);
            EXPECT.due("16: rankedScore(0), round " + round, x.rankedScore(0), 87138);
            EXPECT.due("15: ranked(0), round " + round, x.ranked(0), 1);
            EXPECT.due("17: scoring(30000), round " + round, x.scoring(30000), 10);
            EXPECT.due("13: matching(), round " + round, x.matching(), 16);
        }
    }
}
