/** Promises 11 to 14: item, drop, matching and score, each sentence with a test of its own. */
public final class QueryTest {
    private static final Expect EXPECT = new Expect();
    // In Make.fourDocuments(): rarity 64 * 5 / 3 = 106, strength 256 / 3 = 85.
    private static final int ONCE = 106 * 85;

    public static void main(String[] args) {
        EXPECT.run(
            QueryTest::itemPutsIn,
            QueryTest::itemChanges,
            QueryTest::itemWanted,
            QueryTest::itemNeeded,
            QueryTest::itemBarred,
            QueryTest::itemOfNoWord,
            QueryTest::itemOfWrongBoost,
            QueryTest::itemTooMany,
            QueryTest::itemAnswersHowMany,
            QueryTest::dropTakesOut,
            QueryTest::dropOfNone,
            QueryTest::dropAnswersHowMany,
            QueryTest::matching,
            QueryTest::scoreMatchingOrNot,
            QueryTest::scoreOfNoLiveDocument);
    }

    private static void itemPutsIn() {
        EXPECT.sentence("11", "Puts an item into the query");
        for (int word = 0; word <= 7; word++) {
            WandSearch x = new WandSearch();
            x.write(word, 1);
            x.add();
            EXPECT.due("matching() without items", x.matching(), 0);
            x.item(word, 3);
            EXPECT.due("matching() with word " + word, x.matching(), 1);
            EXPECT.due("score(0) with word " + word, x.score(0), 3 * 64 * 85);
            x.item((word + 1) % 8, 0);
            EXPECT.due("matching() with a second item", x.matching(), 1);
            EXPECT.due("score(0) with a second item", x.score(0), 3 * 64 * 85);
        }
        WandSearch before = new WandSearch();
        before.item(2, 1);
        Make.row(before, 0, 0, 1);
        EXPECT.due("matching(), the item put in before the document", before.matching(), 1);
    }

    private static void itemChanges() {
        EXPECT.sentence("11", "or changes it if the word is in it");
        int[] boosts = {1, 9, 11, 19, 0};
        for (int first : boosts) {
            for (int second : boosts) {
                WandSearch x = Make.fourDocuments();
                x.item(1, 1);
                x.item(0, first);
                EXPECT.due("item(0, " + second + ") after " + first, x.item(0, second), 2);
                EXPECT.due("score(0), " + second + " after " + first, x.score(0), second % 10 * ONCE);
                int due = second == 0 ? 1 : second > 10 ? 2 : 3;
                EXPECT.due("matching(), " + second + " after " + first, x.matching(), due);
            }
        }
        WandSearch full = Make.full();
        for (int boost : boosts) {
            EXPECT.due("item(3, " + boost + ") of a full query", full.item(3, boost), 5);
        }
    }

    private static void itemWanted() {
        EXPECT.sentence("11", "boost 1 .. 9 makes it wanted");
        for (int boost = 1; boost <= 9; boost++) {
            WandSearch x = Make.fourDocuments();
            x.item(1, 1);
            EXPECT.due("item(0, " + boost + ")", x.item(0, boost), 2);
            EXPECT.due("matching(): documents without word 0 too", x.matching(), 3);
            EXPECT.due("score(0), boost " + boost, x.score(0), boost * ONCE);
            EXPECT.due("score(1), boost " + boost, x.score(1), (boost + 1) * ONCE);
        }
    }

    private static void itemNeeded() {
        EXPECT.sentence("11", "11 .. 19 needed with the boost less by 10");
        for (int boost = 11; boost <= 19; boost++) {
            WandSearch x = Make.fourDocuments();
            x.item(1, 1);
            EXPECT.due("item(0, " + boost + ")", x.item(0, boost), 2);
            EXPECT.due("matching(): only documents with word 0", x.matching(), 2);
            EXPECT.due("score(0), boost " + boost, x.score(0), (boost - 10) * ONCE);
            EXPECT.due("score(1), boost " + boost, x.score(1), (boost - 9) * ONCE);
        }
    }

    private static void itemBarred() {
        EXPECT.sentence("11", "0 barred");
        WandSearch x = Make.fourDocuments();
        x.item(1, 1);
        EXPECT.due("item(0, 0)", x.item(0, 0), 2);
        EXPECT.due("matching(): only documents without word 0", x.matching(), 1);
        EXPECT.due("ranked(0)", x.ranked(0), 2);
        EXPECT.due("score(0)", x.score(0), 0);
        EXPECT.due("score(1)", x.score(1), ONCE);
    }

    private static void itemOfNoWord() {
        EXPECT.sentence("11", "-1 if word is not good");
        WandSearch x = new WandSearch();
        WandSearch full = Make.full();
        for (int word : Make.outside(0, 7)) {
            for (int boost : new int[] {0, 1, 11, 10}) {
                EXPECT.due("item(" + word + ", " + boost + ")", x.item(word, boost), -1);
                EXPECT.due("item(" + word + ", " + boost + ") of a full query", full.item(word, boost), -1);
            }
        }
        EXPECT.due("item(0, 0)", x.item(0, 0), 1);
        EXPECT.due("item(7, 0)", x.item(7, 0), 2);
    }

    private static void itemOfWrongBoost() {
        EXPECT.sentence("11", "-2 if boost is not one of these numbers");
        WandSearch x = new WandSearch();
        EXPECT.due("item(0, 10)", x.item(0, 10), -2);
        for (int boost : Make.outside(0, 19)) {
            EXPECT.due("item(0, " + boost + ")", x.item(0, boost), -2);
        }
        int items = 0;
        for (int boost : new int[] {0, 1, 9, 11, 19}) {
            items++;
            EXPECT.due("item(" + items + ", " + boost + ")", x.item(items, boost), items);
        }
        for (int boost : new int[] {-1, 10, 20, -10}) {
            EXPECT.due("item(1, " + boost + ") of a word in it", x.item(1, boost), -2);
            EXPECT.due("item(7, " + boost + ") of a full query", x.item(7, boost), -2);
        }
    }

    private static void itemTooMany() {
        EXPECT.sentence("11", "-3 if the query has 5 items and the word is not among them");
        WandSearch x = new WandSearch();
        for (int word = 0; word < 4; word++) {
            x.item(word, 1);
        }
        EXPECT.due("item(7, 0) as the fifth", x.item(7, 0), 5);
        for (int word : new int[] {4, 5, 6}) {
            for (int boost : new int[] {0, 1, 9, 11, 19}) {
                EXPECT.due("item(" + word + ", " + boost + ") as the sixth", x.item(word, boost), -3);
            }
        }
        for (int word : new int[] {0, 1, 2, 3, 7}) {
            EXPECT.due("item(" + word + ", 12) of a word among them", x.item(word, 12), 5);
        }
        x.drop(2);
        EXPECT.due("item(4, 1) with room again", x.item(4, 1), 5);
        EXPECT.due("item(2, 1): it is not among them any more", x.item(2, 1), -3);
    }

    private static void itemAnswersHowMany() {
        EXPECT.sentence("11", "otherwise answers how many items it has");
        WandSearch x = new WandSearch();
        for (int items = 1; items <= 5; items++) {
            EXPECT.due("item(" + items + ", 1)", x.item(items, 1), items);
            EXPECT.due("item(" + items + ", 0), changed", x.item(items, 0), items);
            EXPECT.due("item(1, 15), changed", x.item(1, 15), items);
        }
        x.drop(1);
        x.drop(5);
        EXPECT.due("item(2, 2) after two drops", x.item(2, 2), 3);
        EXPECT.due("item(0, 2) after two drops", x.item(0, 2), 4);
    }

    private static void dropTakesOut() {
        EXPECT.sentence("12", "Takes the item with a word out of the query");
        WandSearch x = Make.fourDocuments();
        x.item(0, 1);
        x.item(1, 0);
        x.item(2, 15);
        EXPECT.due("matching() with all three", x.matching(), 0);
        x.drop(2);
        EXPECT.due("matching() without the needed word", x.matching(), 1);
        x.drop(1);
        EXPECT.due("matching() without the barred word", x.matching(), 2);
        EXPECT.due("score(0)", x.score(0), ONCE);
        x.drop(0);
        EXPECT.due("matching() without the wanted word", x.matching(), 0);
        EXPECT.due("score(0) for the empty query", x.score(0), 0);
        x.item(0, 12);
        EXPECT.due("score(0), put in again with another boost", x.score(0), 2 * ONCE);
        for (int word = 0; word <= 7; word++) {
            WandSearch y = new WandSearch();
            y.item(word, 1);
            y.item((word + 1) % 8, 1);
            y.drop(word);
            EXPECT.due("drop(" + (word + 1) % 8 + ") of the other item", y.drop((word + 1) % 8), 0);
        }
    }

    private static void dropOfNone() {
        EXPECT.sentence("12", "-1 if there is none");
        WandSearch x = new WandSearch();
        for (int word = 0; word <= 7; word++) {
            EXPECT.due("drop(" + word + ") of the empty query", x.drop(word), -1);
        }
        x.item(0, 1);
        x.item(7, 0);
        for (int word = 1; word <= 6; word++) {
            EXPECT.due("drop(" + word + ") of another word", x.drop(word), -1);
        }
        for (int word : Make.outside(0, 7)) {
            EXPECT.due("drop(" + word + ") of no word", x.drop(word), -1);
        }
        x.drop(7);
        EXPECT.due("drop(7) again", x.drop(7), -1);
        EXPECT.due("drop(0)", x.drop(0), 0);
        EXPECT.due("drop(0) again", x.drop(0), -1);
        EXPECT.due("drop(7) of a word refused by a full query", afterRefusedItem().drop(7), -1);
    }

    private static WandSearch afterRefusedItem() {
        WandSearch x = Make.full();
        x.item(7, 1);
        return x;
    }

    private static void dropAnswersHowMany() {
        EXPECT.sentence("12", "otherwise answers how many items it has");
        WandSearch x = Make.full();
        int left = 5;
        for (int word : new int[] {6, 0, 4, 1, 3}) {
            left--;
            EXPECT.due("drop(" + word + ")", x.drop(word), left);
        }
        EXPECT.due("item(7, 0) of the empty query", x.item(7, 0), 1);
        EXPECT.due("drop(7), barred", x.drop(7), 0);
    }

    private static void matching() {
        EXPECT.sentence("13", "How many documents match.");
        WandSearch x = new WandSearch();
        EXPECT.due("matching() of none for the empty query", x.matching(), 0);
        x.item(0, 1);
        EXPECT.due("matching() of none", x.matching(), 0);
        x.add();
        EXPECT.due("matching() of an empty document", x.matching(), 0);
        x.write(0, 1);
        for (int document = 1; document < 24; document++) {
            x.add();
            EXPECT.due("matching() after add()", x.matching(), document);
        }
        for (int document = 23; document > 0; document--) {
            x.delete(document);
            EXPECT.due("matching() after delete(" + document + ")", x.matching(), document - 1);
        }
        WandSearch full = Make.alike(24);
        EXPECT.due("matching() of 24 for the empty query", full.matching(), 0);
        full.item(0, 11);
        EXPECT.due("matching() of 24", full.matching(), 24);
        full.item(0, 0);
        EXPECT.due("matching() of 24, barred", full.matching(), 0);
    }

    private static void scoreMatchingOrNot() {
        EXPECT.sentence("14", "The score of a document for the query, matching or not");
        WandSearch x = Make.fourDocuments();
        EXPECT.due("score(1) for the empty query", x.score(1), 0);
        x.item(0, 2);
        EXPECT.due("score(1), matching", x.score(1), 2 * ONCE);
        EXPECT.due("score(3), with no word", x.score(3), 0);
        x.item(1, 0);
        EXPECT.due("score(1) with a barred word", x.score(1), 2 * ONCE);
        x.item(1, 19);
        EXPECT.due("score(0) without a needed word", x.score(0), 2 * ONCE);
        EXPECT.due("score(2), with the needed word alone", x.score(2), 9 * ONCE);
        x.item(7, 11);
        EXPECT.due("matching(), with a needed word that none has", x.matching(), 0);
        EXPECT.due("score(1), with a needed word that none has", x.score(1), 11 * ONCE);
        x.item(0, 0);
        x.item(1, 0);
        EXPECT.due("score(1), with barred words alone", x.score(1), 0);
    }

    private static void scoreOfNoLiveDocument() {
        EXPECT.sentence("14", "-1 if there is no such live document");
        WandSearch x = new WandSearch();
        EXPECT.due("score(0) of none", x.score(0), -1);
        x.item(0, 1);
        Make.row(x, 1);
        EXPECT.due("score(0) of 1", x.score(0), 64 * 85);
        EXPECT.due("score(1) of 1", x.score(1), -1);
        EXPECT.due("score(23) of 1", x.score(23), -1);
        x.delete(0);
        EXPECT.due("score(0) when deleted", x.score(0), -1);
        Make.adds(x, 23);
        EXPECT.due("score(23) of 24", x.score(23), 64 * 85);
        for (int document : Make.outside(0, 23)) {
            EXPECT.due("score(" + document + ") of 24", x.score(document), -1);
        }
        x.delete(23);
        EXPECT.due("score(23) when deleted", x.score(23), -1);
    }
}
