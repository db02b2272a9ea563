/** Promises 5 to 10: addMany, delete, tidy, live, times and spread. */
public final class DocumentsTest {
    private static final Expect EXPECT = new Expect();

    public static void main(String[] args) {
        addManyPattern();
        addManyKnownRow();
        addManyRefusals();
        addManyUpToTheLimit();
        delete();
        tidy();
        times();
        spread();
        EXPECT.finish();
    }

    private static void addManyPattern() {
        for (int seed = 0; seed <= 10; seed++) {
            WandSearch x = new WandSearch();
            EXPECT.due("5: addMany(" + seed + ", 24)", x.addMany(seed, 24), 24);
            for (int k = 0; k < 24; k++) {
                for (int t = 0; t < 8; t++) {
                    int due = Math.max(0, Math.floorMod(seed + 5 * k + 3 * t + k * t, 11) - 3);
                    EXPECT.due("5: seed " + seed + ", times(" + t + ", " + k + ")", x.times(t, k), due);
                }
            }
        }
    }

    private static void addManyKnownRow() {
        WandSearch x = new WandSearch();
        x.write(5, 4);
        x.add();
        EXPECT.due("5: addMany(4, 2)", x.addMany(4, 2), 2);
        // Seed 4, k = 1: the sums 9, 13, 17, 21, 25, 29, 33, 37 leave 9, 2, 6, 10, 3, 7, 0, 4.
        int[] due = {6, 0, 3, 7, 0, 4, 0, 1};
        for (int word = 0; word < 8; word++) {
            EXPECT.due("5: times(" + word + ", 2): k counts from 0 in each call", x.times(word, 2), due[word]);
        }
        EXPECT.due("5: times(5, 0) of the document before", x.times(5, 0), 4);
        EXPECT.due("5: the draft stays, blank()", x.blank(), 4);
        EXPECT.due("5: add() takes the next number", x.add(), 3);
    }

    private static void addManyRefusals() {
        WandSearch x = new WandSearch();
        for (int seed : new int[] {-1, 11, Integer.MIN_VALUE, Integer.MAX_VALUE}) {
            EXPECT.due("5: addMany(" + seed + ", 1)", x.addMany(seed, 1), -1);
            EXPECT.due("5: addMany(" + seed + ", 0): the seed is looked at first", x.addMany(seed, 0), -1);
        }
        for (int count : new int[] {0, -1, 25, Integer.MIN_VALUE, Integer.MAX_VALUE}) {
            EXPECT.due("5: addMany(0, " + count + ")", x.addMany(0, count), -2);
        }
        EXPECT.due("5: live() after refusals", x.live(), 0);
        EXPECT.due("5: addMany(10, 1)", x.addMany(10, 1), 1);
        EXPECT.due("5: addMany(0, 1)", x.addMany(0, 1), 1);
    }

    private static void addManyUpToTheLimit() {
        WandSearch x = new WandSearch();
        EXPECT.due("5: addMany(1, 20)", x.addMany(1, 20), 20);
        x.delete(3);
        EXPECT.due("5: addMany(1, 20) with room for 4", x.addMany(1, 20), 4);
        EXPECT.due("5: live()", x.live(), 23);
        EXPECT.due("5: addMany(1, 1) when full", x.addMany(1, 1), 0);
        EXPECT.due("5: addMany(11, 1) when full", x.addMany(11, 1), -1);
        EXPECT.due("5: addMany(1, 25) when full", x.addMany(1, 25), -2);
        EXPECT.due("5: add() when full", x.add(), -1);
        EXPECT.due("5: live() when full", x.live(), 23);
    }

    private static void delete() {
        WandSearch x = new WandSearch();
        EXPECT.due("6: delete(0) of none", x.delete(0), -1);
        x.write(1, 2);
        x.add();
        x.add();
        x.add();
        for (int document : new int[] {-1, 3, 24, Integer.MIN_VALUE, Integer.MAX_VALUE}) {
            EXPECT.due("6: delete(" + document + ")", x.delete(document), -1);
        }
        EXPECT.due("6: live() after refusals", x.live(), 3);
        EXPECT.due("6: delete(1)", x.delete(1), 2);
        EXPECT.due("6: delete(1) again", x.delete(1), -1);
        EXPECT.due("6: spread(1)", x.spread(1), 2);
        EXPECT.due("6: times(1, 0)", x.times(1, 0), 2);
        EXPECT.due("6: times(1, 1)", x.times(1, 1), -2);
        EXPECT.due("6: times(1, 2)", x.times(1, 2), 2);
        EXPECT.due("6: delete(2)", x.delete(2), 1);
        EXPECT.due("6: delete(0)", x.delete(0), 0);
        EXPECT.due("6: add() does not give a number again", x.add(), 3);
        EXPECT.due("6: live()", x.live(), 1);
    }

    private static void tidy() {
        WandSearch x = new WandSearch();
        EXPECT.due("7: tidy() of none", x.tidy(), 0);
        x.write(4, 6);
        x.addMany(7, 5);
        x.item(0, 3);
        EXPECT.due("7: tidy()", x.tidy(), 5);
        x.delete(0);
        x.delete(2);
        int first = x.ranked(0);
        int firstScore = x.rankedScore(0);
        int spread = x.spread(0);
        EXPECT.due("7: tidy() after two deletes", x.tidy(), 3);
        EXPECT.due("7: tidy() again", x.tidy(), 3);
        EXPECT.due("7: live()", x.live(), 3);
        EXPECT.due("7: ranked(0) as before", x.ranked(0), first);
        EXPECT.due("7: rankedScore(0) as before", x.rankedScore(0), firstScore);
        EXPECT.due("7: spread(0) as before", x.spread(0), spread);
        EXPECT.due("7: times(0, 2) of a deleted document", x.times(0, 2), -2);
        EXPECT.due("7: delete(2) again", x.delete(2), -1);
        EXPECT.due("7: add() keeps counting", x.add(), 5);
        EXPECT.due("7: times(4, 5)", x.times(4, 5), 6);
        EXPECT.due("7: drop(0): the query stays", x.drop(0), 0);
        EXPECT.due("8: live()", x.live(), 4);
    }

    private static void times() {
        WandSearch x = new WandSearch();
        x.write(0, 1);
        x.write(7, 7);
        x.add();
        EXPECT.due("9: times(0, 0)", x.times(0, 0), 1);
        EXPECT.due("9: times(7, 0)", x.times(7, 0), 7);
        EXPECT.due("9: times(3, 0)", x.times(3, 0), 0);
        for (int word : new int[] {-1, 8, Integer.MIN_VALUE, Integer.MAX_VALUE}) {
            EXPECT.due("9: times(" + word + ", 0)", x.times(word, 0), -1);
            EXPECT.due("9: times(" + word + ", 1): the word is looked at first", x.times(word, 1), -1);
        }
        for (int document : new int[] {-1, 1, 23, 24, Integer.MIN_VALUE, Integer.MAX_VALUE}) {
            EXPECT.due("9: times(0, " + document + ")", x.times(0, document), -2);
        }
        x.delete(0);
        EXPECT.due("9: times(0, 0) when deleted", x.times(0, 0), -2);
    }

    private static void spread() {
        WandSearch x = new WandSearch();
        x.write(0, 7);
        x.add();
        x.write(7, 1);
        x.add();
        x.blank();
        x.add();
        EXPECT.due("10: spread(0)", x.spread(0), 2);
        EXPECT.due("10: spread(7)", x.spread(7), 1);
        EXPECT.due("10: spread(3)", x.spread(3), 0);
        for (int word : new int[] {-1, 8, Integer.MIN_VALUE, Integer.MAX_VALUE}) {
            EXPECT.due("10: spread(" + word + ")", x.spread(word), -1);
        }
        x.delete(1);
        EXPECT.due("10: spread(0) after delete", x.spread(0), 1);
        EXPECT.due("10: spread(7) after delete", x.spread(7), 0);
        x.delete(2);
        EXPECT.due("10: spread(0) after deleting one without it", x.spread(0), 1);
        EXPECT.due("8: live()", x.live(), 1);
    }
}
