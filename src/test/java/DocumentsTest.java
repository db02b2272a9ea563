import java.util.function.ToIntFunction;

/** Promises 5 to 10: addMany, delete, tidy, live, times and spread, each sentence with a test of its own. */
public final class DocumentsTest {
    private static final Expect EXPECT = new Expect();

    public static void main(String[] args) {
        EXPECT.run(
            DocumentsTest::addManyAddsUpToCount,
            DocumentsTest::addManyCountsFromZero,
            DocumentsTest::addManyGoesRoundAtEleven,
            DocumentsTest::addManyTakesThreeOff,
            DocumentsTest::addManyOfEachSeed,
            DocumentsTest::addManyOfWrongSeed,
            DocumentsTest::addManyOfWrongCount,
            DocumentsTest::addManyAnswersHowMany,
            DocumentsTest::addManyLeavesTheDraft,
            DocumentsTest::deleteDeletes,
            DocumentsTest::deleteOfNoLiveDocument,
            DocumentsTest::deleteAnswersHowManyAreLive,
            DocumentsTest::tidyChangesNoAnswer,
            DocumentsTest::tidyAnswersHowManyAreLive,
            DocumentsTest::live,
            DocumentsTest::timesInADocument,
            DocumentsTest::timesOfNoWord,
            DocumentsTest::timesInNoLiveDocument,
            DocumentsTest::spreadOverLiveDocuments,
            DocumentsTest::spreadOfNoWord);
    }

    private static void addManyAddsUpToCount() {
        EXPECT.sentence("5", "Adds up to count documents");
        for (int count = 1; count <= 24; count++) {
            WandSearch x = new WandSearch();
            x.addMany(10, count);
            EXPECT.due("live() after addMany(10, " + count + ")", x.live(), count);
            EXPECT.due("the last one's times(0, ..)", x.times(0, count - 1), word(10, count - 1, 0));
            EXPECT.due("the next one's times(0, ..)", x.times(0, count), -2);
        }
    }

    /** times(k, t) of the document. */
    private static int word(int seed, int k, int t) {
        return Math.max(0, Math.floorMod(seed + 5 * k + 3 * t + k * t, 11) - 3);
    }

    private static void rowIs(WandSearch x, int document, int... due) {
        for (int word = 0; word <= 7; word++) {
            EXPECT.due("times(" + word + ", " + document + ")", x.times(word, document), due[word]);
        }
    }

    private static void addManyCountsFromZero() {
        EXPECT.sentence("5", "the k-th one (k = 0, 1, ..)");
        WandSearch x = new WandSearch();
        x.add();
        x.addMany(4, 2);
        // Seed 4, k = 0: the sums 4, 7, 10, 13, 16, 19, 22, 25 leave 4, 7, 10, 2, 5, 8, 0, 3.
        rowIs(x, 1, 1, 4, 7, 0, 2, 5, 0, 0);
        // Seed 4, k = 1: the sums 9, 13, 17, 21, 25, 29, 33, 37 leave 9, 2, 6, 10, 3, 7, 0, 4.
        rowIs(x, 2, 6, 0, 3, 7, 0, 4, 0, 1);
        x.addMany(4, 1);
        rowIs(x, 3, 1, 4, 7, 0, 2, 5, 0, 0);
    }

    private static void addManyGoesRoundAtEleven() {
        EXPECT.sentence("5", "modulo 11");
        WandSearch x = new WandSearch();
        x.addMany(10, 24);
        // Seed 10, k = 0: the sums 10, 13, 16, 19, 22, 25, 28, 31 leave 10, 2, 5, 8, 0, 3, 6, 9.
        rowIs(x, 0, 7, 0, 2, 5, 0, 0, 3, 6);
        // k = 23, the greatest sums: 125, 151, 177, 203, 229, 255, 281, 307 leave 4, 8, 1, 5, 9, 2, 6, 10.
        rowIs(x, 23, 1, 5, 0, 2, 6, 0, 3, 7);
        WandSearch y = new WandSearch();
        y.addMany(0, 24);
        // Seed 0, k = 11 and k = 22 leave the same as k = 0: 0, 3, 6, 9, 1, 4, 7, 10.
        for (int document : new int[] {0, 11, 22}) {
            rowIs(y, document, 0, 0, 3, 6, 0, 1, 4, 7);
        }
    }

    private static void addManyTakesThreeOff() {
        EXPECT.sentence("5", "less 3, but at least 0");
        int[] due = {0, 0, 0, 0, 1, 2, 3, 4, 5, 6, 7};
        for (int seed = 0; seed <= 10; seed++) {
            WandSearch x = new WandSearch();
            x.addMany(seed, 1);
            EXPECT.due("addMany(" + seed + ", 1), times(0, 0)", x.times(0, 0), due[seed]);
            EXPECT.due("addMany(" + seed + ", 1), spread(0)", x.spread(0), seed >= 4 ? 1 : 0);
        }
        // Seed 0, k = 0 has a length of 21: a word below 0 would shorten it. Rarity 64, 1792 / (9 + 5) = 128.
        WandSearch x = new WandSearch();
        x.addMany(0, 1);
        x.item(7, 1);
        EXPECT.due("addMany(0, 1), score(0) for word 7", x.score(0), 64 * 128);
    }

    private static void addManyOfEachSeed() {
        EXPECT.sentence("5", "has every word t times(k, t) times");
        for (int seed = 0; seed <= 10; seed++) {
            WandSearch x = new WandSearch();
            x.addMany(seed, 24);
            for (int k = 0; k < 24; k++) {
                for (int t = 0; t <= 7; t++) {
                    EXPECT.due("seed " + seed + ", times(" + t + ", " + k + ")", x.times(t, k), word(seed, k, t));
                }
            }
        }
    }

    private static void addManyOfWrongSeed() {
        EXPECT.sentence("5", "-1 if seed is not in 0 .. 10");
        WandSearch x = new WandSearch();
        for (int seed : Make.outside(0, 10)) {
            EXPECT.due("addMany(" + seed + ", 1)", x.addMany(seed, 1), -1);
            EXPECT.due("addMany(" + seed + ", 24)", x.addMany(seed, 24), -1);
        }
        EXPECT.due("addMany(0, 1)", x.addMany(0, 1), 1);
        EXPECT.due("addMany(10, 1)", x.addMany(10, 1), 1);
        EXPECT.due("addMany(11, 1) when full", Make.full().addMany(11, 1), -1);
    }

    private static void addManyOfWrongCount() {
        EXPECT.sentence("5", "-2 if count is not in 1 .. 24");
        WandSearch x = new WandSearch();
        for (int count : Make.outside(1, 24)) {
            EXPECT.due("addMany(0, " + count + ")", x.addMany(0, count), -2);
            EXPECT.due("addMany(10, " + count + ")", x.addMany(10, count), -2);
        }
        EXPECT.due("addMany(0, 1)", x.addMany(0, 1), 1);
        EXPECT.due("addMany(0, 24)", x.addMany(0, 24), 23);
        EXPECT.due("addMany(0, 25) when full", x.addMany(0, 25), -2);
        EXPECT.due("addMany(0, 0) when full", x.addMany(0, 0), -2);
    }

    private static void addManyAnswersHowMany() {
        EXPECT.sentence("5", "otherwise answers how many were added (not more than 24 in all)");
        for (int before = 0; before <= 24; before++) {
            for (int count : new int[] {1, 12, 23, 24}) {
                WandSearch x = Make.alike(before);
                int due = Math.min(count, 24 - before);
                String call = "addMany(6, " + count + ") after " + before;
                EXPECT.due(call, x.addMany(6, count), due);
                EXPECT.due(call + ", live()", x.live(), before + due);
            }
        }
        WandSearch x = Make.alike(20);
        Make.deletes(x, 0, 1, 2, 19);
        EXPECT.due("addMany(1, 24): deleted ones count in all", x.addMany(1, 24), 4);
        EXPECT.due("live()", x.live(), 20);
        Make.deletes(x, 23);
        x.tidy();
        EXPECT.due("addMany(1, 24) when full", x.addMany(1, 24), 0);
        EXPECT.due("live() when full", x.live(), 19);
    }

    private static void addManyLeavesTheDraft() {
        EXPECT.sentence("5", "Adds up to count documents");
        WandSearch x = new WandSearch();
        x.write(5, 4);
        x.add();
        x.addMany(4, 2);
        EXPECT.due("times(5, 0) of the document before", x.times(5, 0), 4);
        EXPECT.due("add() takes the next number", x.add(), 3);
        EXPECT.due("times(5, 3) of the draft", x.times(5, 3), 4);
        EXPECT.due("blank()", x.blank(), 4);
    }

    private static void deleteDeletes() {
        EXPECT.sentence("6", "Deletes a document.");
        WandSearch x = Make.fourDocuments();
        x.item(1, 1);
        x.delete(1);
        EXPECT.due("times(0, 1)", x.times(0, 1), -2);
        EXPECT.due("score(1)", x.score(1), -1);
        EXPECT.due("spread(0)", x.spread(0), 1);
        EXPECT.due("spread(1)", x.spread(1), 1);
        EXPECT.due("live()", x.live(), 3);
        EXPECT.due("matching()", x.matching(), 1);
        EXPECT.due("ranked(0)", x.ranked(0), 2);
        EXPECT.due("ranked(1)", x.ranked(1), -2);
        EXPECT.due("scoring(0)", x.scoring(0), 1);
        EXPECT.due("times(0, 0) of another", x.times(0, 0), 1);
        EXPECT.due("times(1, 2) of another", x.times(1, 2), 1);
        EXPECT.due("add() gives the next number", x.add(), 4);
    }

    private static void deleteOfNoLiveDocument() {
        EXPECT.sentence("6", "-1 if there is no such live document");
        WandSearch x = new WandSearch();
        EXPECT.due("delete(0) of none", x.delete(0), -1);
        Make.adds(x, 3);
        EXPECT.due("delete(3) of 3", x.delete(3), -1);
        EXPECT.due("delete(23) of 3", x.delete(23), -1);
        for (int document : Make.outside(0, 23)) {
            EXPECT.due("delete(" + document + ") of 3", x.delete(document), -1);
        }
        for (int document : new int[] {2, 0, 1}) {
            EXPECT.holds("delete(" + document + ") is not refused", x.delete(document) >= 0);
            EXPECT.due("delete(" + document + ") again", x.delete(document), -1);
            x.tidy();
            EXPECT.due("delete(" + document + ") after tidy", x.delete(document), -1);
        }
        WandSearch full = Make.alike(24);
        for (int document : Make.outside(0, 23)) {
            EXPECT.due("delete(" + document + ") of 24", full.delete(document), -1);
        }
        EXPECT.due("delete(23) of 24", full.delete(23), 23);
        EXPECT.due("delete(23) again", full.delete(23), -1);
    }

    private static void deleteAnswersHowManyAreLive() {
        EXPECT.sentence("6", "otherwise answers how many are live");
        WandSearch x = Make.alike(24);
        for (int i = 0; i < 24; i++) {
            // From both ends in turn.
            int document = i % 2 == 0 ? i / 2 : 23 - i / 2;
            EXPECT.due("delete(" + document + ")", x.delete(document), 23 - i);
        }
        WandSearch y = Make.alike(1);
        EXPECT.due("delete(0) of the only one", y.delete(0), 0);
        y.add();
        EXPECT.due("delete(1) of the only live one", y.delete(1), 0);
    }

    private static void tidyChangesNoAnswer() {
        EXPECT.sentence("7", "no answer of any call depends on it");
        new State(WandSearch::new).staysWith(EXPECT, "tidy() of a new object", WandSearch::tidy);
        new State(Make::halfFull).staysWith(EXPECT, "tidy() with room", WandSearch::tidy);
        new State(Make::manyMatching).staysWith(EXPECT, "tidy() with many matching", WandSearch::tidy);
        new State(Make::full).staysWith(EXPECT, "tidy() without room", WandSearch::tidy);
        new State(DocumentsTest::allDeleted).staysWith(EXPECT, "tidy() of none live", WandSearch::tidy);
        WandSearch x = Make.halfFull();
        WandSearch y = Make.halfFull();
        for (int document = 0; document < 10; document++) {
            y.tidy();
            EXPECT.due("delete(" + document + ") after tidy", y.delete(document), x.delete(document));
            y.tidy();
            EXPECT.due("ranked(0) after tidy", y.ranked(0), x.ranked(0));
            EXPECT.due("add() after tidy", y.add(), x.add());
            EXPECT.due("score(" + document + ") after tidy", y.score(document + 1), x.score(document + 1));
            EXPECT.due("spread(3) after tidy", y.spread(3), x.spread(3));
        }
    }

    private static WandSearch allDeleted() {
        WandSearch x = Make.fourDocuments();
        Make.deletes(x, 0, 1, 2, 3);
        x.item(0, 1);
        return x;
    }

    private static void tidyAnswersHowManyAreLive() {
        EXPECT.sentence("7", "Answers how many documents are live.");
        liveAnswers("tidy()", WandSearch::tidy);
    }

    private static void live() {
        EXPECT.sentence("8", "How many documents are live.");
        liveAnswers("live()", WandSearch::live);
    }

    private static void liveAnswers(String call, ToIntFunction<WandSearch> ask) {
        WandSearch x = new WandSearch();
        EXPECT.due(call + " of a new object", ask.applyAsInt(x), 0);
        for (int document = 0; document < 24; document++) {
            x.add();
            EXPECT.due(call + " after add()", ask.applyAsInt(x), document + 1);
        }
        x.add();
        x.addMany(1, 1);
        EXPECT.due(call + " of a full object", ask.applyAsInt(x), 24);
        for (int document = 23; document >= 0; document--) {
            x.delete(document);
            x.delete(document);
            EXPECT.due(call + " after delete(" + document + ")", ask.applyAsInt(x), document);
        }
        EXPECT.due(call + " after addMany(1, 5)", ask.applyAsInt(afterAddMany()), 5);
    }

    private static WandSearch afterAddMany() {
        WandSearch x = new WandSearch();
        x.addMany(1, 5);
        return x;
    }

    private static void timesInADocument() {
        EXPECT.sentence("9", "How often a word occurs in a document");
        WandSearch x = new WandSearch();
        for (int document = 0; document < 24; document++) {
            int[] times = new int[8];
            times[document % 8] = 7;
            times[(document + 3) % 8] = document % 7 + 1;
            Make.row(x, times);
        }
        for (int document = 0; document < 24; document++) {
            for (int word = 0; word <= 7; word++) {
                int due = word == document % 8 ? 7 : word == (document + 3) % 8 ? document % 7 + 1 : 0;
                EXPECT.due("times(" + word + ", " + document + ")", x.times(word, document), due);
            }
        }
    }

    private static void timesOfNoWord() {
        EXPECT.sentence("9", "-1 if word is not good");
        WandSearch x = Make.alike(2);
        x.delete(1);
        for (int word : Make.outside(0, 7)) {
            EXPECT.due("times(" + word + ", 0)", x.times(word, 0), -1);
            EXPECT.due("times(" + word + ", 1) of a deleted document", x.times(word, 1), -1);
            EXPECT.due("times(" + word + ", -1)", x.times(word, -1), -1);
        }
        EXPECT.due("times(0, 0)", x.times(0, 0), 1);
        EXPECT.due("times(7, 0)", x.times(7, 0), 0);
    }

    private static void timesInNoLiveDocument() {
        EXPECT.sentence("9", "-2 if there is no such live document");
        WandSearch x = new WandSearch();
        EXPECT.due("times(0, 0) of none", x.times(0, 0), -2);
        x.write(7, 3);
        Make.adds(x, 2);
        EXPECT.due("times(7, 1) of 2", x.times(7, 1), 3);
        EXPECT.due("times(7, 2) of 2", x.times(7, 2), -2);
        EXPECT.due("times(7, 23) of 2", x.times(7, 23), -2);
        x.delete(0);
        EXPECT.due("times(7, 0) when deleted", x.times(7, 0), -2);
        EXPECT.due("times(0, 0) when deleted", x.times(0, 0), -2);
        Make.adds(x, 22);
        EXPECT.due("times(7, 23) of 24", x.times(7, 23), 3);
        for (int document : Make.outside(0, 23)) {
            EXPECT.due("times(0, " + document + ") of 24", x.times(0, document), -2);
            EXPECT.due("times(7, " + document + ") of 24", x.times(7, document), -2);
        }
    }

    private static void spreadOverLiveDocuments() {
        EXPECT.sentence("10", "In how many live documents a word occurs");
        WandSearch x = new WandSearch();
        EXPECT.due("spread(0) of none", x.spread(0), 0);
        Make.row(x, 7, 0, 0, 0, 0, 0, 0, 1);
        Make.row(x, 1);
        Make.row(x);
        EXPECT.due("spread(0)", x.spread(0), 2);
        EXPECT.due("spread(7)", x.spread(7), 1);
        EXPECT.due("spread(3)", x.spread(3), 0);
        x.delete(2);
        EXPECT.due("spread(0), one without it deleted", x.spread(0), 2);
        x.delete(0);
        EXPECT.due("spread(0), one with it deleted", x.spread(0), 1);
        EXPECT.due("spread(7), the only one deleted", x.spread(7), 0);
        x.delete(0);
        EXPECT.due("spread(0), the same deleted again", x.spread(0), 1);
        WandSearch full = new WandSearch();
        Make.row(full, 1, 1, 1, 1, 1, 1, 1, 1);
        Make.adds(full, 24);
        for (int word = 0; word <= 7; word++) {
            EXPECT.due("spread(" + word + ") of 24", full.spread(word), 24);
        }
        WandSearch many = new WandSearch();
        many.addMany(4, 2);
        int[] due = {2, 1, 2, 1, 1, 2, 0, 1};
        for (int word = 0; word <= 7; word++) {
            EXPECT.due("spread(" + word + ") after addMany(4, 2)", many.spread(word), due[word]);
        }
    }

    private static void spreadOfNoWord() {
        EXPECT.sentence("10", "-1 if it is not good");
        WandSearch none = new WandSearch();
        WandSearch full = Make.alike(24);
        for (int word : Make.outside(0, 7)) {
            EXPECT.due("spread(" + word + ") of none", none.spread(word), -1);
            EXPECT.due("spread(" + word + ") of 24", full.spread(word), -1);
        }
        EXPECT.due("spread(0)", full.spread(0), 24);
        EXPECT.due("spread(7)", full.spread(7), 0);
    }
}
