/** Promises 1 to 4: a new object, write, blank and add. */
public final class DraftTest {
    private static final Expect EXPECT = new Expect();

    public static void main(String[] args) {
        newObject();
        objectsAreApart();
        write();
        writeRefusals();
        blank();
        addCopiesTheDraft();
        addUpToTheLimit();
        EXPECT.finish();
    }

    private static void newObject() {
        WandSearch x = new WandSearch();
        EXPECT.due("1: live()", x.live(), 0);
        EXPECT.due("1: matching()", x.matching(), 0);
        EXPECT.due("1: scoring(least)", x.scoring(Integer.MIN_VALUE), 0);
        EXPECT.due("1: ranked(0)", x.ranked(0), -2);
        for (int word = 0; word < 8; word++) {
            EXPECT.due("1: spread(" + word + ")", x.spread(word), 0);
            EXPECT.due("1: drop(" + word + ")", x.drop(word), -1);
        }
        EXPECT.due("1: times(0, 0)", x.times(0, 0), -2);
        EXPECT.due("1: blank()", x.blank(), 0);
        EXPECT.due("1: add()", x.add(), 0);
        for (int word = 0; word < 8; word++) {
            EXPECT.due("1: times(" + word + ", 0) of the empty draft", x.times(word, 0), 0);
        }
        EXPECT.due("1: score(0) for the empty query", x.score(0), 0);
        EXPECT.due("1: item(7, 1)", x.item(7, 1), 1);
    }

    private static void objectsAreApart() {
        WandSearch x = new WandSearch();
        x.write(1, 4);
        x.add();
        x.item(1, 1);
        WandSearch y = new WandSearch();
        EXPECT.due("1: live() of a second object", y.live(), 0);
        EXPECT.due("1: blank() of a second object", y.blank(), 0);
        EXPECT.due("1: drop(1) of a second object", y.drop(1), -1);
        EXPECT.due("1: live() of the first object", x.live(), 1);
    }

    private static void write() {
        WandSearch x = new WandSearch();
        int length = 0;
        for (int word = 0; word < 8; word++) {
            length += 7;
            EXPECT.due("2: write(" + word + ", 7)", x.write(word, 7), length);
        }
        EXPECT.due("2: write(3, 7) again", x.write(3, 7), 56);
        EXPECT.due("2: write(3, 2)", x.write(3, 2), 51);
        EXPECT.due("2: write(0, 0)", x.write(0, 0), 44);
        EXPECT.due("2: write(0, 0) again", x.write(0, 0), 44);
        EXPECT.due("2: write(7, 1)", x.write(7, 1), 38);
        x.add();
        EXPECT.due("2: times(0, 0)", x.times(0, 0), 0);
        EXPECT.due("2: times(3, 0)", x.times(3, 0), 2);
        EXPECT.due("2: times(7, 0)", x.times(7, 0), 1);
        EXPECT.due("2: times(6, 0)", x.times(6, 0), 7);
    }

    private static void writeRefusals() {
        WandSearch x = new WandSearch();
        x.write(4, 3);
        for (int word : new int[] {-1, 8, Integer.MIN_VALUE, Integer.MAX_VALUE}) {
            EXPECT.due("2: write(" + word + ", 1)", x.write(word, 1), -1);
            EXPECT.due("2: write(" + word + ", 8): the word is looked at first", x.write(word, 8), -1);
        }
        for (int times : new int[] {-1, 8, Integer.MIN_VALUE, Integer.MAX_VALUE}) {
            EXPECT.due("2: write(4, " + times + ")", x.write(4, times), -2);
        }
        EXPECT.due("2: write(5, 1) after refusals", x.write(5, 1), 4);
        x.add();
        EXPECT.due("2: times(4, 0) after refusals", x.times(4, 0), 3);
    }

    private static void blank() {
        WandSearch x = new WandSearch();
        x.write(0, 7);
        x.write(7, 2);
        x.add();
        EXPECT.due("3: blank()", x.blank(), 9);
        EXPECT.due("3: blank() again", x.blank(), 0);
        EXPECT.due("3: the document stays, times(0, 0)", x.times(0, 0), 7);
        EXPECT.due("3: spread(7)", x.spread(7), 1);
        EXPECT.due("3: write(1, 1)", x.write(1, 1), 1);
        EXPECT.due("3: add()", x.add(), 1);
        EXPECT.due("3: times(0, 1)", x.times(0, 1), 0);
        EXPECT.due("3: times(7, 1)", x.times(7, 1), 0);
        EXPECT.due("3: times(1, 1)", x.times(1, 1), 1);
    }

    private static void addCopiesTheDraft() {
        WandSearch x = new WandSearch();
        x.write(2, 5);
        EXPECT.due("4: add()", x.add(), 0);
        EXPECT.due("4: add() of the same draft", x.add(), 1);
        x.write(2, 1);
        EXPECT.due("4: add() of a changed draft", x.add(), 2);
        EXPECT.due("4: times(2, 0)", x.times(2, 0), 5);
        EXPECT.due("4: times(2, 1)", x.times(2, 1), 5);
        EXPECT.due("4: times(2, 2)", x.times(2, 2), 1);
        EXPECT.due("4: live()", x.live(), 3);
        EXPECT.due("4: the draft stays, blank()", x.blank(), 1);
    }

    private static void addUpToTheLimit() {
        WandSearch x = new WandSearch();
        x.write(6, 1);
        for (int document = 0; document < 24; document++) {
            EXPECT.due("4: add()", x.add(), document);
        }
        EXPECT.due("4: add() as the 25th", x.add(), -1);
        EXPECT.due("4: live()", x.live(), 24);
        EXPECT.due("4: spread(6)", x.spread(6), 24);
        EXPECT.due("9: times(6, 24) of a full object", x.times(6, 24), -2);
        EXPECT.due("14: score(24) of a full object", x.score(24), -1);
        EXPECT.due("6: delete(24) of a full object", x.delete(24), -1);
        x.delete(23);
        x.delete(0);
        x.tidy();
        EXPECT.due("4: add(): deleted documents have been added too", x.add(), -1);
        EXPECT.due("4: live() after the refusal", x.live(), 22);
        EXPECT.due("4: times(6, 23) of a deleted document", x.times(6, 23), -2);
        EXPECT.due("4: blank() after the refusal", x.blank(), 1);
    }
}
