/** Promises 1 to 4: a new object, write, blank and add, each sentence with a test of its own. */
public final class DraftTest {
    private static final Expect EXPECT = new Expect();

    public static void main(String[] args) {
        EXPECT.run(
            DraftTest::newObjectHasNoDocuments,
            DraftTest::newObjectHasAnEmptyDraftAndQuery,
            DraftTest::writeSets,
            DraftTest::writeOfNoWord,
            DraftTest::writeOfWrongTimes,
            DraftTest::writeAnswersTheLength,
            DraftTest::blankEmptiesTheDraft,
            DraftTest::blankAnswersTheLengthBefore,
            DraftTest::addTakesTheDraft,
            DraftTest::addLeavesTheDraft,
            DraftTest::addOfTooMany,
            DraftTest::addAnswersTheNumber);
    }

    private static void newObjectHasNoDocuments() {
        EXPECT.sentence("1", "No documents");
        // Another object's documents are not this one's.
        Make.full();
        WandSearch x = new WandSearch();
        EXPECT.due("live()", x.live(), 0);
        EXPECT.due("tidy()", x.tidy(), 0);
        EXPECT.due("matching()", x.matching(), 0);
        EXPECT.due("scoring(least)", x.scoring(Make.LEAST), 0);
        for (int word = 0; word <= 7; word++) {
            EXPECT.due("spread(" + word + ")", x.spread(word), 0);
        }
        for (int document = -1; document <= 24; document++) {
            EXPECT.due("times(0, " + document + ")", x.times(0, document), -2);
            EXPECT.due("score(" + document + ")", x.score(document), -1);
            EXPECT.due("delete(" + document + ")", x.delete(document), -1);
        }
        for (int position = 0; position <= 9; position++) {
            EXPECT.due("ranked(" + position + ")", x.ranked(position), -2);
            EXPECT.due("rankedScore(" + position + ")", x.rankedScore(position), -2);
        }
    }

    private static void newObjectHasAnEmptyDraftAndQuery() {
        EXPECT.sentence("1", "the draft and the query are empty");
        WandSearch other = Make.full();
        WandSearch x = new WandSearch();
        EXPECT.due("blank()", x.blank(), 0);
        for (int word = 0; word <= 7; word++) {
            EXPECT.due("write(" + word + ", 0)", x.write(word, 0), 0);
            EXPECT.due("drop(" + word + ")", x.drop(word), -1);
        }
        EXPECT.due("item(7, 1)", x.item(7, 1), 1);
        EXPECT.due("the other object's blank()", other.blank(), 12);
        EXPECT.due("the other object's drop(0)", other.drop(0), 4);
    }

    private static void writeSets() {
        EXPECT.sentence("2", "Sets how often a word occurs in the draft.");
        WandSearch x = new WandSearch();
        x.write(3, 7);
        x.write(3, 2);
        x.write(0, 4);
        x.write(0, 4);
        x.write(5, 6);
        x.write(5, 0);
        x.write(7, 1);
        x.add();
        int[] due = {4, 0, 0, 2, 0, 0, 0, 1};
        for (int word = 0; word <= 7; word++) {
            EXPECT.due("times(" + word + ", 0)", x.times(word, 0), due[word]);
        }
    }

    private static void writeOfNoWord() {
        EXPECT.sentence("2", "-1 if word is not good");
        WandSearch x = new WandSearch();
        for (int word : Make.outside(0, 7)) {
            EXPECT.due("write(" + word + ", 0)", x.write(word, 0), -1);
            EXPECT.due("write(" + word + ", 7)", x.write(word, 7), -1);
        }
        EXPECT.due("write(0, 0)", x.write(0, 0), 0);
        EXPECT.due("write(7, 0)", x.write(7, 0), 0);
    }

    private static void writeOfWrongTimes() {
        EXPECT.sentence("2", "-2 if times is not in 0 .. 7");
        WandSearch x = new WandSearch();
        for (int times : Make.outside(0, 7)) {
            EXPECT.due("write(0, " + times + ")", x.write(0, times), -2);
            EXPECT.due("write(7, " + times + ")", x.write(7, times), -2);
        }
        EXPECT.due("write(0, 7)", x.write(0, 7), 7);
        EXPECT.due("write(0, 0)", x.write(0, 0), 0);
    }

    private static void writeAnswersTheLength() {
        EXPECT.sentence("2", "otherwise answers the draft's length now");
        WandSearch x = new WandSearch();
        EXPECT.due("write(0, 0) of an empty draft", x.write(0, 0), 0);
        for (int word = 0; word <= 7; word++) {
            EXPECT.due("write(" + word + ", 7)", x.write(word, 7), 7 * (word + 1));
        }
        EXPECT.due("write(3, 7) again", x.write(3, 7), 56);
        EXPECT.due("write(3, 2)", x.write(3, 2), 51);
        EXPECT.due("write(3, 3)", x.write(3, 3), 52);
        for (int word = 7; word > 3; word--) {
            EXPECT.due("write(" + word + ", 0)", x.write(word, 0), 24 + 7 * (word - 4));
        }
        x.blank();
        EXPECT.due("write(6, 1) after blank", x.write(6, 1), 1);
    }

    private static void blankEmptiesTheDraft() {
        EXPECT.sentence("3", "The draft has no words any more");
        WandSearch x = new WandSearch();
        Make.row(x, 7, 7, 7, 7, 7, 7, 7, 7);
        x.blank();
        EXPECT.due("add()", x.add(), 1);
        for (int word = 0; word <= 7; word++) {
            EXPECT.due("times(" + word + ", 1)", x.times(word, 1), 0);
            EXPECT.due("times(" + word + ", 0), added before", x.times(word, 0), 7);
            EXPECT.due("spread(" + word + ")", x.spread(word), 1);
        }
        x.blank();
        EXPECT.due("write(1, 1) after a second blank", x.write(1, 1), 1);
    }

    private static void blankAnswersTheLengthBefore() {
        EXPECT.sentence("3", "answers its length before");
        WandSearch x = new WandSearch();
        EXPECT.due("blank() of an empty draft", x.blank(), 0);
        x.write(7, 1);
        EXPECT.due("blank() of one word", x.blank(), 1);
        EXPECT.due("blank() again", x.blank(), 0);
        for (int word = 0; word <= 7; word++) {
            x.write(word, 7);
        }
        EXPECT.due("blank() of the greatest draft", x.blank(), 56);
        EXPECT.due("blank() again", x.blank(), 0);
    }

    private static void addTakesTheDraft() {
        EXPECT.sentence("4", "Adds the draft as a document");
        WandSearch x = new WandSearch();
        x.add();
        int[] words = {1, 2, 3, 4, 5, 6, 7, 0};
        Make.row(x, words);
        x.write(0, 7);
        x.add();
        Make.row(x, 7, 7, 7, 7, 7, 7, 7, 7);
        for (int word = 0; word <= 7; word++) {
            EXPECT.due("times(" + word + ", 0), empty", x.times(word, 0), 0);
            EXPECT.due("times(" + word + ", 1)", x.times(word, 1), words[word]);
            EXPECT.due("times(" + word + ", 2), changed", x.times(word, 2), word == 0 ? 7 : words[word]);
            EXPECT.due("times(" + word + ", 3), the greatest", x.times(word, 3), 7);
        }
        EXPECT.due("live()", x.live(), 4);
        x.item(1, 1);
        // Rarity 64 * 5 / 4 = 80; lengths 28 and 34 beside 2 times: 512 / 11 = 46, 512 / 12 = 42.
        EXPECT.due("score(1)", x.score(1), 80 * 46);
        EXPECT.due("score(2)", x.score(2), 80 * 42);
    }

    private static void addLeavesTheDraft() {
        EXPECT.sentence("4", "(the draft stays)");
        WandSearch x = new WandSearch();
        x.write(0, 3);
        x.write(7, 2);
        Make.adds(x, 2);
        EXPECT.due("times(0, 1)", x.times(0, 1), 3);
        EXPECT.due("times(7, 1)", x.times(7, 1), 2);
        EXPECT.due("write(1, 1)", x.write(1, 1), 6);
        EXPECT.due("times(1, 1): the document stays too", x.times(1, 1), 0);
        EXPECT.due("blank()", x.blank(), 6);
        WandSearch full = Make.full();
        full.add();
        EXPECT.due("blank() after a refused add()", full.blank(), 12);
    }

    private static void addOfTooMany() {
        EXPECT.sentence("4", "-1 if 24 documents have been added");
        WandSearch x = Make.alike(23);
        EXPECT.due("add() as the 24th", x.add(), 23);
        EXPECT.due("add() as the 25th", x.add(), -1);
        Make.deletes(x, 23, 0);
        EXPECT.due("add() with deleted ones", x.add(), -1);
        x.tidy();
        EXPECT.due("add() with deleted ones, tidied", x.add(), -1);
        for (int document = 1; document < 23; document++) {
            x.delete(document);
        }
        EXPECT.due("add() with none live", x.add(), -1);
        EXPECT.due("live()", x.live(), 0);
        WandSearch y = new WandSearch();
        y.addMany(0, 23);
        y.delete(4);
        EXPECT.due("add() as the 24th, after addMany", y.add(), 23);
        EXPECT.due("add() as the 25th, after addMany", y.add(), -1);
    }

    private static void addAnswersTheNumber() {
        EXPECT.sentence("4", "otherwise answers its number");
        WandSearch x = new WandSearch();
        for (int document = 0; document < 24; document++) {
            x.write(document % 8, document % 7 + 1);
            EXPECT.due("add()", x.add(), document);
            EXPECT.due("times of what was added", x.times(document % 8, document), document % 7 + 1);
            // A delete frees no number.
            if (document % 3 == 0) {
                x.delete(document);
            }
        }
    }
}
