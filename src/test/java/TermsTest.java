/** The sentences of 'Terms', each with a test of its own; those on what calls change are in ChangesTest. */
public final class TermsTest {
    private static final Expect EXPECT = new Expect();

    public static void main(String[] args) {
        EXPECT.run(
            TermsTest::wordsAreNumbered,
            TermsTest::goodWords,
            TermsTest::howOften,
            TermsTest::lengthIsTheSum,
            TermsTest::numbersInOrder,
            TermsTest::numbersAreKept,
            TermsTest::othersAreLive,
            TermsTest::draftAtFirst,
            TermsTest::upToFiveItems,
            TermsTest::itemsOfDifferentWords,
            TermsTest::kindsAndBoosts,
            TermsTest::queryAtFirst,
            TermsTest::liveDocumentMatches,
            TermsTest::oneWantedOrNeeded,
            TermsTest::allNeeded,
            TermsTest::noBarred,
            TermsTest::onceOrMore,
            TermsTest::quotientsAreWhole,
            TermsTest::onlyLiveAreCounted,
            TermsTest::rarity,
            TermsTest::strength,
            TermsTest::strengthOfNone,
            TermsTest::scoreIsTheSum,
            TermsTest::fallingScore,
            TermsTest::sameScore);
    }

    private static void wordsAreNumbered() {
        EXPECT.sentence("Terms", "WORDS are numbered 0 .. 7.");
        for (int word = 0; word <= 7; word++) {
            WandSearch x = new WandSearch();
            EXPECT.due("write(" + word + ", 1)", x.write(word, 1), 1);
            x.add();
            EXPECT.due("times(" + word + ", 0)", x.times(word, 0), 1);
            EXPECT.due("spread(" + word + ")", x.spread(word), 1);
            EXPECT.due("item(" + word + ", 1)", x.item(word, 1), 1);
            EXPECT.due("matching() for word " + word, x.matching(), 1);
            EXPECT.due("drop(" + word + ")", x.drop(word), 0);
        }
    }

    private static void goodWords() {
        EXPECT.sentence("Terms", "a word is good if it is 0 .. 7");
        WandSearch x = Make.alike(1);
        for (int word : Make.outside(0, 7)) {
            EXPECT.due("write(" + word + ", 1)", x.write(word, 1), -1);
            EXPECT.due("times(" + word + ", 0)", x.times(word, 0), -1);
            EXPECT.due("spread(" + word + ")", x.spread(word), -1);
            EXPECT.due("item(" + word + ", 1)", x.item(word, 1), -1);
            EXPECT.due("drop(" + word + ")", x.drop(word), -1);
        }
    }

    private static void howOften() {
        EXPECT.sentence("Terms", "A DOCUMENT says how often, 0 to 7 times, each word occurs in it");
        WandSearch x = new WandSearch();
        for (int document = 0; document <= 7; document++) {
            for (int word = 0; word <= 7; word++) {
                x.write(word, (document + word) % 8);
            }
            x.add();
            for (int word = 0; word <= 7; word++) {
                int due = (document + word) % 8;
                EXPECT.due("times(" + word + ", " + document + ")", x.times(word, document), due);
            }
        }
    }

    private static void lengthIsTheSum() {
        EXPECT.sentence("Terms", "its LENGTH is the sum of these numbers");
        WandSearch x = new WandSearch();
        EXPECT.due("blank() of no word", x.blank(), 0);
        for (int word = 0; word <= 7; word++) {
            x.write(word, word);
        }
        EXPECT.due("blank() of 0 to 7 words", x.blank(), 28);
        for (int word = 0; word <= 7; word++) {
            x.write(word, 7);
        }
        EXPECT.due("blank() of all words", x.blank(), 56);
        for (int word = 0; word <= 7; word++) {
            WandSearch y = new WandSearch();
            y.item(word, 1);
            Make.row(y, 7, 7, 7, 7, 7, 7, 7, 7);
            // Length 56: 1792 / 23 = 77, with each word's part in the sum.
            EXPECT.due("score(0) for word " + word + ", length 56", y.score(0), 64 * 77);
        }
    }

    private static void numbersInOrder() {
        EXPECT.sentence("Terms",
            "Documents get the numbers 0, 1, 2, .. in the order in which they are added, at most 24");
        WandSearch x = new WandSearch();
        EXPECT.due("the first add()", x.add(), 0);
        x.addMany(2, 3);
        EXPECT.due("add() after 4 documents", x.add(), 4);
        EXPECT.due("add() after 5 documents", x.add(), 5);
        x.addMany(2, 17);
        EXPECT.due("add() after 23 documents", x.add(), 23);
        EXPECT.due("add() after 24 documents", x.add(), -1);
        EXPECT.due("addMany(2, 1) after 24 documents", x.addMany(2, 1), 0);
        EXPECT.due("live()", x.live(), 24);
        EXPECT.due("times(0, 23)", x.times(0, 23), 0);
        EXPECT.due("times(0, 24)", x.times(0, 24), -2);
    }

    private static void numbersAreKept() {
        EXPECT.sentence("Terms", "and keep them");
        WandSearch x = new WandSearch();
        for (int times = 1; times <= 7; times++) {
            Make.row(x, times);
        }
        x.item(0, 1);
        Make.deletes(x, 0, 3, 6);
        x.tidy();
        for (int document : new int[] {1, 2, 4, 5}) {
            EXPECT.due("times(0, " + document + ")", x.times(0, document), document + 1);
        }
        EXPECT.due("ranked(0)", x.ranked(0), 5);
        EXPECT.due("ranked(3)", x.ranked(3), 1);
        for (int document : new int[] {0, 3, 6}) {
            EXPECT.due("times(0, " + document + ") of a deleted one", x.times(0, document), -2);
        }
        EXPECT.due("add() gives no number again", x.add(), 7);
        EXPECT.due("times(0, 7)", x.times(0, 7), 7);
        EXPECT.due("times(0, 6) is deleted still", x.times(0, 6), -2);
    }

    private static void othersAreLive() {
        EXPECT.sentence("Terms", "a document may be DELETED; the others are LIVE");
        for (int deleted = 0; deleted < 24; deleted++) {
            WandSearch x = Make.alike(24);
            x.delete(deleted);
            for (int document = 0; document < 24; document++) {
                int due = document == deleted ? -2 : 1;
                EXPECT.due("delete(" + deleted + "), times(0, " + document + ")", x.times(0, document), due);
            }
            EXPECT.due("delete(" + deleted + "), live()", x.live(), 23);
        }
    }

    private static void draftAtFirst() {
        EXPECT.sentence("Terms", "There is a DRAFT of a document, with no words at first.");
        WandSearch x = new WandSearch();
        x.add();
        for (int word = 0; word <= 7; word++) {
            EXPECT.due("times(" + word + ", 0)", x.times(word, 0), 0);
            EXPECT.due("spread(" + word + ")", x.spread(word), 0);
        }
        EXPECT.due("blank()", x.blank(), 0);
    }

    private static void upToFiveItems() {
        EXPECT.sentence("Terms", "A QUERY has up to 5 ITEMS");
        // Each kind has the same room, and kinds share it.
        int[][] boosts = {{1, 1, 1, 1, 1}, {11, 11, 11, 11, 11}, {0, 0, 0, 0, 0}, {9, 0, 19, 0, 1}};
        for (int[] boost : boosts) {
            WandSearch x = new WandSearch();
            for (int i = 0; i < 5; i++) {
                EXPECT.due("item(" + (7 - i) + ", " + boost[i] + ")", x.item(7 - i, boost[i]), i + 1);
            }
            for (int sixth : new int[] {1, 11, 0}) {
                EXPECT.due("item(2, " + sixth + ") as the sixth", x.item(2, sixth), -3);
            }
        }
    }

    private static void itemsOfDifferentWords() {
        EXPECT.sentence("Terms", "each a word (all different)");
        WandSearch x = Make.alike(1);
        for (int boost : new int[] {1, 11, 0, 9, 9, 19, 4}) {
            EXPECT.due("item(0, " + boost + ")", x.item(0, boost), 1);
        }
        // Rarity 64, strength 85, once with the last boost.
        EXPECT.due("score(0)", x.score(0), 4 * 64 * 85);
        EXPECT.due("drop(0)", x.drop(0), 0);
        EXPECT.due("drop(0) again", x.drop(0), -1);
    }

    private static void kindsAndBoosts() {
        EXPECT.sentence("Terms", "WANTED with a boost 1 .. 9, NEEDED (also with a boost 1 .. 9), or BARRED");
        for (int boost = 1; boost <= 9; boost++) {
            WandSearch x = Make.fourDocuments();
            x.item(1, 1);
            x.item(0, boost);
            // Rarity 64 * 5 / 3 = 106, strength 256 / 3 = 85.
            EXPECT.due("score(0), wanted with " + boost, x.score(0), boost * 106 * 85);
            EXPECT.due("matching(), wanted with " + boost, x.matching(), 3);
            x.item(0, boost + 10);
            EXPECT.due("score(0), needed with " + boost, x.score(0), boost * 106 * 85);
            EXPECT.due("matching(), needed with " + boost, x.matching(), 2);
            x.item(0, 0);
            EXPECT.due("score(0), barred", x.score(0), 0);
            EXPECT.due("matching(), barred", x.matching(), 1);
        }
    }

    private static void queryAtFirst() {
        EXPECT.sentence("Terms", "There is one query, empty at first.");
        WandSearch x = Make.fourDocuments();
        EXPECT.due("matching()", x.matching(), 0);
        EXPECT.due("ranked(0)", x.ranked(0), -2);
        EXPECT.due("score(1)", x.score(1), 0);
        for (int word = 0; word <= 7; word++) {
            EXPECT.due("drop(" + word + ")", x.drop(word), -1);
        }
        EXPECT.due("item(3, 1)", x.item(3, 1), 1);
    }

    private static void liveDocumentMatches() {
        EXPECT.sentence("Terms", "A live document MATCHES the query");
        WandSearch x = Make.alike(3);
        x.item(0, 1);
        EXPECT.due("matching()", x.matching(), 3);
        x.delete(0);
        EXPECT.due("matching() with 0 deleted", x.matching(), 2);
        EXPECT.due("ranked(0) with 0 deleted", x.ranked(0), 1);
        x.delete(2);
        EXPECT.due("ranked(1) with 2 deleted", x.ranked(1), -2);
        x.delete(1);
        EXPECT.due("matching() with none live", x.matching(), 0);
        EXPECT.due("ranked(0) with none live", x.ranked(0), -2);
        EXPECT.due("scoring(0) with none live", x.scoring(0), 0);
    }

    private static void oneWantedOrNeeded() {
        EXPECT.sentence("Terms", "if it has at least one wanted or needed word");
        WandSearch x = Make.fourDocuments();
        EXPECT.due("matching(), no items", x.matching(), 0);
        x.item(5, 0);
        EXPECT.due("matching(), only a barred word that none has", x.matching(), 0);
        x.item(6, 1);
        EXPECT.due("matching(), a wanted word that none has", x.matching(), 0);
        x.item(0, 1);
        EXPECT.due("matching(), one wanted word of two", x.matching(), 2);
        x.item(1, 1);
        EXPECT.due("matching(), three wanted words", x.matching(), 3);
        x.drop(0);
        x.item(1, 11);
        EXPECT.due("matching(), one needed word and no wanted one", x.matching(), 2);
        x.drop(6);
        EXPECT.due("matching(), one needed word alone", x.matching(), 2);
    }

    private static void allNeeded() {
        EXPECT.sentence("Terms", "all needed words");
        WandSearch x = new WandSearch();
        Make.row(x, 1, 1, 1, 1, 1);
        for (int missing = 0; missing < 5; missing++) {
            int[] times = {7, 7, 7, 7, 7};
            times[missing] = 0;
            Make.row(x, times);
        }
        for (int word = 0; word < 5; word++) {
            x.item(word, 11);
            EXPECT.due("matching(), " + (word + 1) + " needed words", x.matching(), 5 - word);
        }
        EXPECT.due("ranked(0), 5 needed words", x.ranked(0), 0);
        x.item(2, 1);
        EXPECT.due("matching(), 4 needed words and a wanted one", x.matching(), 2);
        EXPECT.due("ranked(1), 4 needed words and a wanted one", x.ranked(1), 0);
    }

    private static void noBarred() {
        EXPECT.sentence("Terms", "and no barred word");
        WandSearch x = new WandSearch();
        Make.row(x, 1);
        for (int barred = 1; barred < 5; barred++) {
            int[] times = {7, 0, 0, 0, 0};
            times[barred] = 1;
            Make.row(x, times);
        }
        x.item(0, 1);
        for (int word = 1; word < 5; word++) {
            x.item(word, 0);
            EXPECT.due("matching(), " + word + " barred words", x.matching(), 5 - word);
        }
        EXPECT.due("ranked(0), 4 barred words", x.ranked(0), 0);
        x.item(0, 11);
        EXPECT.due("matching(), a needed word and 4 barred ones", x.matching(), 1);
        x.item(0, 0);
        EXPECT.due("matching(), 5 barred words", x.matching(), 0);
    }

    private static void onceOrMore() {
        EXPECT.sentence("Terms", "To have a word is to have it once or more.");
        for (int times = 0; times <= 7; times++) {
            int has = times >= 1 ? 1 : 0;
            WandSearch x = new WandSearch();
            Make.row(x, times, 1);
            x.item(0, 1);
            EXPECT.due("matching(), wanted, " + times + " times", x.matching(), has);
            EXPECT.due("spread(0), " + times + " times", x.spread(0), has);
            x.item(1, 1);
            x.item(0, 11);
            EXPECT.due("matching(), needed, " + times + " times", x.matching(), has);
            x.item(0, 0);
            EXPECT.due("matching(), barred, " + times + " times", x.matching(), 1 - has);
        }
    }

    private static void quotientsAreWhole() {
        EXPECT.sentence("Terms", "All quotients here are whole.");
        WandSearch x = new WandSearch();
        x.item(0, 9);
        Make.row(x, 3);
        Make.row(x, 3, 4);
        // 768 / 5 = 153.6; length 7 adds 7 / 4 = 1.75.
        EXPECT.due("score(0), the strength cut", x.score(0), 9 * 64 * 153);
        EXPECT.due("score(1), the length's quarter cut", x.score(1), 9 * 64 * 128);
        Make.row(x);
        // Rarity 64 * 4 / 3 = 85.33: it is cut before it is multiplied.
        EXPECT.due("score(0), the rarity cut", x.score(0), 9 * 85 * 153);
        EXPECT.due("score(1), the rarity cut", x.score(1), 9 * 85 * 128);
    }

    private static void onlyLiveAreCounted() {
        EXPECT.sentence("Terms",
            "N be the number of live documents and D(t) the number of live documents that have word t");
        WandSearch x = Make.fourDocuments();
        x.item(1, 1);
        // Rarity 64 * 5 / 3 = 106.
        EXPECT.due("score(2), 4 live, 2 with the word", x.score(2), 106 * 85);
        x.delete(1);
        // Rarity 64 * 4 / 2 = 128.
        EXPECT.due("score(2), 3 live, 1 with the word", x.score(2), 128 * 85);
        x.delete(3);
        // Rarity 64 * 3 / 2 = 96.
        EXPECT.due("score(2), 2 live, 1 with the word", x.score(2), 96 * 85);
        x.delete(0);
        EXPECT.due("score(2), alone", x.score(2), 64 * 85);
        Make.row(x);
        EXPECT.due("score(2), one more live", x.score(2), 96 * 85);
    }

    private static void rarity() {
        EXPECT.sentence("Terms", "The RARITY of t is (64 * (N + 1)) / (D(t) + 1).");
        for (int with = 1; with <= 24; with++) {
            WandSearch x = Make.alike(with);
            x.item(0, 1);
            EXPECT.due("score(0), " + with + " of " + with + " have the word", x.score(0), 64 * 85);
            x.blank();
            Make.adds(x, 24 - with);
            int due = 1600 / (with + 1);
            EXPECT.due("score(0), " + with + " of 24 have the word", x.score(0), due * 85);
        }
    }

    private static void strength() {
        EXPECT.sentence("Terms",
            "The STRENGTH of a word that occurs k > 0 times in a document of length L is (256 * k) / (k + 2 + L / 4)");
        // Lengths on both sides of each quarter, with the least and the greatest k.
        strengthIs(85, 1);
        strengthIs(85, 1, 2);
        strengthIs(64, 1, 3);
        strengthIs(64, 1, 6);
        strengthIs(51, 1, 7);
        strengthIs(17, 1, 7, 7, 7, 7, 7, 7, 6);
        strengthIs(17, 1, 7, 7, 7, 7, 7, 7, 7);
        strengthIs(128, 2);
        strengthIs(102, 2, 2);
        strengthIs(153, 3);
        strengthIs(146, 4);
        strengthIs(179, 7);
        strengthIs(162, 7, 1);
        strengthIs(162, 7, 4);
        strengthIs(149, 7, 5);
        strengthIs(81, 7, 7, 7, 7, 7, 7, 7, 6);
        strengthIs(77, 7, 7, 7, 7, 7, 7, 7, 7);
    }

    private static void strengthIs(int due, int... times) {
        WandSearch x = new WandSearch();
        Make.row(x, times);
        x.item(0, 1);
        EXPECT.due("score(0) of " + times[0] + " times, " + times.length + " words", x.score(0), 64 * due);
    }

    private static void strengthOfNone() {
        EXPECT.sentence("Terms", "it is 0 for k = 0");
        WandSearch x = new WandSearch();
        Make.row(x);
        Make.row(x, 0, 7, 7, 7, 7, 7, 7, 7);
        Make.row(x, 1);
        x.item(0, 9);
        EXPECT.due("score(0), an empty document", x.score(0), 0);
        EXPECT.due("score(1), all words but this one", x.score(1), 0);
        x.item(0, 19);
        EXPECT.due("score(0), the word needed", x.score(0), 0);
        x.delete(2);
        EXPECT.due("score(1), a word that none has", x.score(1), 0);
    }

    private static void scoreIsTheSum() {
        EXPECT.sentence("Terms",
            "THE SCORE of a document is the sum, over all wanted and needed items, of boost times rarity");
        WandSearch x = new WandSearch();
        Make.row(x, 0, 0, 7, 7, 7, 7, 7, 7);
        x.blank();
        Make.adds(x, 23);
        // Rarity 64 * 25 / 2 = 800; length 42: 1792 / 19 = 94.
        for (int items = 1; items <= 5; items++) {
            x.item(8 - items, items % 2 == 0 ? 9 : 19);
            EXPECT.due("score(0), " + items + " items", x.score(0), items * 9 * 800 * 94);
        }
        x.item(5, 0);
        EXPECT.due("score(0), one of 5 items barred", x.score(0), 4 * 9 * 800 * 94);
        x.item(5, 11);
        x.item(7, 3);
        EXPECT.due("score(0), other boosts", x.score(0), (3 * 9 + 1 + 3) * 800 * 94);
        EXPECT.due("score(23)", x.score(23), 0);
        greatestScore();
    }

    private static void greatestScore() {
        WandSearch x = new WandSearch();
        Make.row(x, 7, 7, 7, 7, 7);
        x.blank();
        Make.adds(x, 23);
        for (int word = 0; word < 5; word++) {
            x.item(word, 9);
        }
        // Length 35: 1792 / 17 = 105.
        EXPECT.due("score(0), as great as can be", x.score(0), 3780000);
        EXPECT.due("rankedScore(0), as great as can be", x.rankedScore(0), 3780000);
        EXPECT.due("scoring(3780000)", x.scoring(3780000), 1);
        EXPECT.due("scoring(3780001)", x.scoring(3780001), 0);
    }

    private static void fallingScore() {
        EXPECT.sentence("Terms", "THE RANKING lists the matching documents by falling score");
        WandSearch x = new WandSearch();
        for (int times : new int[] {3, 1, 7, 2, 6, 4, 5}) {
            Make.row(x, times);
        }
        Make.row(x, 0, 7);
        x.item(0, 1);
        // Strengths 153, 85, 179, 128, 170, 146 and 160: length 4 puts the word that occurs 4 times behind the 3.
        int[] due = {2, 4, 6, 0, 5, 3, 1};
        for (int position = 0; position < due.length; position++) {
            EXPECT.due("ranked(" + position + ")", x.ranked(position), due[position]);
        }
        EXPECT.due("ranked(7)", x.ranked(7), -2);
    }

    private static void sameScore() {
        EXPECT.sentence("Terms", "those with the same score by rising number");
        WandSearch x = Make.alike(23);
        x.write(0, 7);
        x.add();
        x.item(0, 1);
        EXPECT.due("ranked(0), the one with more", x.ranked(0), 23);
        for (int position = 1; position <= 9; position++) {
            EXPECT.due("ranked(" + position + "), the same score", x.ranked(position), position - 1);
        }
        Make.deletes(x, 0, 4, 23);
        int[] due = {1, 2, 3, 5, 6, 7, 8, 9, 10, 11};
        for (int position = 0; position <= 9; position++) {
            EXPECT.due("ranked(" + position + ") after deletes", x.ranked(position), due[position]);
        }
        // Documents 0 and 2 come to one score by different words: rarity 64 * 4 / 3 = 85, strength 85.
        WandSearch y = new WandSearch();
        Make.row(y, 0, 1);
        Make.row(y, 1, 1);
        Make.row(y, 1);
        y.item(0, 2);
        y.item(1, 2);
        EXPECT.due("ranked(0), both words", y.ranked(0), 1);
        EXPECT.due("ranked(1), one word or the other", y.ranked(1), 0);
        EXPECT.due("ranked(2), one word or the other", y.ranked(2), 2);
    }
}
