/** Promises 11 to 14: item, drop, matching and score. */
public final class QueryTest {
    private static final Expect EXPECT = new Expect();

    public static void main(String[] args) {
        itemKinds();
        itemRefusals();
        itemLimit();
        drop();
        matching();
        matchingWithoutScoredItems();
        scoreOfOneWord();
        scoreQuotientsAreWhole();
        scoreOfManyItems();
        scoreFollowsTheLiveDocuments();
        EXPECT.finish();
    }

    /** Documents: 0 has word 0; 1 has words 0 and 1; 2 has word 1; 3 has none. */
    private static WandSearch fourDocuments() {
        WandSearch x = new WandSearch();
        x.write(0, 1);
        x.add();
        x.write(1, 1);
        x.add();
        x.write(0, 0);
        x.add();
        x.blank();
        x.add();
        return x;
    }

    private static void itemKinds() {
        for (int boost = 1; boost <= 9; boost++) {
            WandSearch x = fourDocuments();
            EXPECT.due("11: item(0, " + boost + ")", x.item(0, boost), 1);
            // Rarity 64 * 5 / 3 = 106, strength 256 / 3 = 85.
            EXPECT.due("11: score(0), boost " + boost, x.score(0), 9010L * boost);
            EXPECT.due("11: item(1, 1)", x.item(1, 1), 2);
            EXPECT.due("11: matching(), wanted", x.matching(), 3);
            EXPECT.due("11: item(0, " + (boost + 10) + ")", x.item(0, boost + 10), 2);
            EXPECT.due("11: score(0), needed with boost " + boost, x.score(0), 9010L * boost);
            EXPECT.due("11: matching(), needed", x.matching(), 2);
            EXPECT.due("11: item(0, 0)", x.item(0, 0), 2);
            EXPECT.due("11: score(0), barred", x.score(0), 0);
            EXPECT.due("11: matching(), barred", x.matching(), 1);
            EXPECT.due("11: ranked(0), barred", x.ranked(0), 2);
            EXPECT.due("11: item(0, " + boost + ") again", x.item(0, boost), 2);
            EXPECT.due("11: score(0), wanted again", x.score(0), 9010L * boost);
            EXPECT.due("11: matching(), wanted again", x.matching(), 3);
        }
    }

    private static void itemRefusals() {
        WandSearch x = fourDocuments();
        x.item(0, 2);
        for (int word : new int[] {-1, 8, Integer.MIN_VALUE, Integer.MAX_VALUE}) {
            EXPECT.due("11: item(" + word + ", 1)", x.item(word, 1), -1);
            EXPECT.due("11: item(" + word + ", 10): the word is looked at first", x.item(word, 10), -1);
        }
        for (int boost : new int[] {-1, 10, 20, -10, Integer.MIN_VALUE, Integer.MAX_VALUE}) {
            EXPECT.due("11: item(1, " + boost + ")", x.item(1, boost), -2);
            EXPECT.due("11: item(0, " + boost + ") of a word in the query", x.item(0, boost), -2);
        }
        EXPECT.due("11: score(0) after refusals", x.score(0), 18020);
        EXPECT.due("11: item(7, 19) after refusals", x.item(7, 19), 2);
    }

    private static void itemLimit() {
        WandSearch x = fourDocuments();
        for (int word = 0; word < 5; word++) {
            EXPECT.due("11: item(" + word + ", 0)", x.item(word, 0), word + 1);
        }
        EXPECT.due("11: item(5, 1) as the sixth", x.item(5, 1), -3);
        EXPECT.due("11: item(5, 10): the boost is looked at before the room", x.item(5, 10), -2);
        EXPECT.due("11: item(8, 1): the word is looked at before the room", x.item(8, 1), -1);
        EXPECT.due("11: item(4, 3) of a word in the full query", x.item(4, 3), 5);
        EXPECT.due("11: item(0, 14) of a word in the full query", x.item(0, 14), 5);
        EXPECT.due("11: drop(5): the refused word is not in it", x.drop(5), -1);
        EXPECT.due("11: drop(2)", x.drop(2), 4);
        EXPECT.due("11: item(5, 1) with room again", x.item(5, 1), 5);
        EXPECT.due("11: item(2, 1) as the sixth", x.item(2, 1), -3);
    }

    private static void drop() {
        WandSearch x = fourDocuments();
        EXPECT.due("12: drop(0) of none", x.drop(0), -1);
        x.item(0, 1);
        x.item(1, 0);
        x.item(2, 15);
        for (int word : new int[] {-1, 3, 7, 8, Integer.MIN_VALUE, Integer.MAX_VALUE}) {
            EXPECT.due("12: drop(" + word + ")", x.drop(word), -1);
        }
        EXPECT.due("12: matching() with all three", x.matching(), 0);
        EXPECT.due("12: drop(2), needed", x.drop(2), 2);
        EXPECT.due("12: matching() without the needed word", x.matching(), 1);
        EXPECT.due("12: drop(1), barred", x.drop(1), 1);
        EXPECT.due("12: matching() without the barred word", x.matching(), 2);
        EXPECT.due("12: drop(0), wanted", x.drop(0), 0);
        EXPECT.due("12: score(0) of the empty query", x.score(0), 0);
        EXPECT.due("12: drop(0) again", x.drop(0), -1);
        EXPECT.due("12: item(1, 1)", x.item(1, 1), 1);
    }

    private static void matching() {
        WandSearch x = fourDocuments();
        EXPECT.due("13: matching() of the empty query", x.matching(), 0);
        x.item(0, 11);
        EXPECT.due("13: matching(), 0 needed", x.matching(), 2);
        x.item(1, 11);
        EXPECT.due("13: matching(), both needed", x.matching(), 1);
        EXPECT.due("13: ranked(0), both needed", x.ranked(0), 1);
        x.item(1, 5);
        EXPECT.due("13: matching(), 0 needed and 1 wanted", x.matching(), 2);
        x.item(1, 0);
        EXPECT.due("13: matching(), 0 needed and 1 barred", x.matching(), 1);
        EXPECT.due("13: ranked(0), 0 needed and 1 barred", x.ranked(0), 0);
        x.item(1, 1);
        x.item(0, 1);
        EXPECT.due("13: matching(), both wanted", x.matching(), 3);
        x.delete(1);
        EXPECT.due("13: matching() after a delete", x.matching(), 2);
        x.item(5, 11);
        EXPECT.due("13: matching() with a needed word that none has", x.matching(), 0);
    }

    private static void matchingWithoutScoredItems() {
        WandSearch x = fourDocuments();
        x.item(0, 0);
        EXPECT.due("13: matching(), only barred items", x.matching(), 0);
        EXPECT.due("13: scoring(least), only barred items", x.scoring(Integer.MIN_VALUE), 0);
        x.item(7, 4);
        EXPECT.due("13: matching(), a wanted word that none has", x.matching(), 0);
    }

    private static void scoreOfOneWord() {
        WandSearch x = new WandSearch();
        EXPECT.due("14: score(0) of none", x.score(0), -1);
        x.write(0, 1);
        x.add();
        x.item(0, 9);
        // Rarity 64 * 2 / 2 = 64, strength 256 / 3 = 85.
        EXPECT.due("14: score(0)", x.score(0), 9 * 64 * 85);
        for (int document : new int[] {-1, 1, 23, 24, Integer.MIN_VALUE, Integer.MAX_VALUE}) {
            EXPECT.due("14: score(" + document + ")", x.score(document), -1);
        }
        x.item(0, 0);
        EXPECT.due("14: score(0) with the word barred", x.score(0), 0);
        x.item(0, 2);
        x.item(1, 11);
        EXPECT.due("14: matching() without the needed word", x.matching(), 0);
        EXPECT.due("14: score(0) though it does not match", x.score(0), 2 * 64 * 85);
        x.item(1, 0);
        x.write(1, 1);
        x.add();
        EXPECT.due("14: matching() of the one without the barred word", x.matching(), 1);
        EXPECT.due("14: score(1) though it has a barred word", x.score(1), 2 * 64 * 85);
        x.delete(0);
        EXPECT.due("14: score(0) when deleted", x.score(0), -1);
    }

    private static void scoreQuotientsAreWhole() {
        WandSearch x = new WandSearch();
        x.item(0, 1);
        x.write(0, 3);
        x.add();
        // Length 3 adds 0 to the divisor: 768 / 5 = 153.
        EXPECT.due("14: score(0), length 3", x.score(0), 64 * 153);
        x.write(1, 1);
        x.add();
        // Length 4 adds 1: 768 / 6 = 128; rarity 64 * 3 / 3.
        EXPECT.due("14: score(1), length 4", x.score(1), 64 * 128);
        x.write(1, 4);
        x.add();
        EXPECT.due("14: score(2), length 7", x.score(2), 64 * 128);
        x.write(1, 5);
        x.add();
        // Length 8 adds 2: 768 / 7 = 109.
        EXPECT.due("14: score(3), length 8", x.score(3), 64 * 109);
        x.blank();
        x.add();
        // Rarity 64 * 6 / 5 = 76, cut before it is multiplied.
        EXPECT.due("14: score(3), one without the word", x.score(3), 76 * 109);
        EXPECT.due("14: score(4) without the word", x.score(4), 0);
        for (int word = 0; word < 8; word++) {
            x.write(word, 7);
        }
        x.add();
        // Rarity 64 * 7 / 6 = 74, length 56: 1792 / 23 = 77.
        EXPECT.due("14: score(5), length 56", x.score(5), 74 * 77);
    }

    private static void scoreOfManyItems() {
        WandSearch x = new WandSearch();
        x.write(0, 2);
        x.write(7, 5);
        x.write(3, 1);
        x.add();
        x.blank();
        for (int empty = 0; empty < 23; empty++) {
            x.add();
        }
        x.item(0, 9);
        x.item(7, 19);
        x.item(3, 0);
        x.item(4, 9);
        x.item(5, 3);
        // Rarity 64 * 25 / 2 = 800; length 8: 512 / 6 = 85 and 1280 / 9 = 142.
        EXPECT.due("14: score(0)", x.score(0), 9 * 800 * 85 + 9 * 800 * 142);
        EXPECT.due("14: score(1)", x.score(1), 0);
        x.item(3, 1);
        // 256 / 5 = 51.
        EXPECT.due("14: score(0) with a third word", x.score(0), 9 * 800 * 85 + 9 * 800 * 142 + 800 * 51);
        EXPECT.due("13: matching()", x.matching(), 1);
    }

    private static void scoreFollowsTheLiveDocuments() {
        WandSearch x = fourDocuments();
        x.item(1, 1);
        // Rarity 64 * 5 / 3 = 106.
        EXPECT.due("14: score(2), 4 live", x.score(2), 106 * 85);
        x.delete(1);
        // Rarity 64 * 4 / 2 = 128.
        EXPECT.due("14: score(2), the other holder deleted", x.score(2), 128 * 85);
        x.delete(3);
        x.delete(0);
        EXPECT.due("14: score(2), alone", x.score(2), 64 * 85);
        x.tidy();
        EXPECT.due("14: score(2), tidied", x.score(2), 64 * 85);
        EXPECT.due("14: rankedScore(0)", x.rankedScore(0), 64 * 85);
    }
}
