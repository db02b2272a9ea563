/** Objects and arguments that several tests start from. */
final class Make {
    static final int LEAST = Integer.MIN_VALUE;
    static final int GREATEST = Integer.MAX_VALUE;

    private Make() {
    }

    /** The nearest numbers outside low .. high, the farthest, and some that a narrower type would fold back in. */
    static int[] outside(int low, int high) {
        return new int[] {low - 1, high + 1, low - 2, high + 2, low - 256, low + 256, low - 65536, low + 65536,
            high + (1 << 29), low + (1 << 30), LEAST + low, LEAST, LEAST + 1, GREATEST - 1, GREATEST};
    }

    /** Adds a document that has word 0 so often as the first number says, and so on; it is the draft afterwards. */
    static int row(WandSearch x, int... times) {
        x.blank();
        for (int word = 0; word < times.length; word++) {
            if (times[word] > 0) {
                x.write(word, times[word]);
            }
        }
        return x.add();
    }

    /** Adds the draft, as it is, so many times. */
    static void adds(WandSearch x, int count) {
        for (int i = 0; i < count; i++) {
            x.add();
        }
    }

    static void deletes(WandSearch x, int... documents) {
        for (int document : documents) {
            x.delete(document);
        }
    }

    /** An object with so many documents that have word 0 once and nothing else. */
    static WandSearch alike(int documents) {
        WandSearch x = new WandSearch();
        x.write(0, 1);
        adds(x, documents);
        return x;
    }

    /** Documents: 0 has word 0; 1 has words 0 and 1; 2 has word 1; 3 has none. Each word once. */
    static WandSearch fourDocuments() {
        WandSearch x = new WandSearch();
        row(x, 1);
        row(x, 1, 1);
        row(x, 0, 1);
        row(x);
        return x;
    }

    /** Ten documents, two of them deleted, room in the documents and in the query; the draft has 9 words. */
    static WandSearch halfFull() {
        WandSearch x = new WandSearch();
        x.addMany(4, 10);
        deletes(x, 3, 9);
        x.write(2, 7);
        x.write(5, 2);
        x.item(0, 5);
        x.item(3, 12);
        x.item(7, 0);
        return x;
    }

    /** Twenty documents, of which 16 match, so that the ranking shows nearly all of them. */
    static WandSearch manyMatching() {
        WandSearch x = new WandSearch();
        x.addMany(4, 20);
        x.write(7, 3);
        x.item(0, 5);
        x.item(3, 2);
        x.item(6, 9);
        return x;
    }

    /** No room for a document nor for an item; documents 0, 7 and 23 are deleted; the draft has 12 words. */
    static WandSearch full() {
        WandSearch x = new WandSearch();
        x.addMany(4, 20);
        x.write(0, 7);
        x.write(6, 5);
        adds(x, 4);
        deletes(x, 0, 7, 23);
        x.item(0, 5);
        x.item(6, 19);
        x.item(1, 0);
        x.item(3, 2);
        x.item(4, 9);
        return x;
    }
}
