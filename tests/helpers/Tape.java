/** Feeds a text or a row of bytes to the tape of a heap, behind what it has. */
final class Tape {
    /** How many calls were made here. */
    static int calls = 0;

    static void feed(RecordHeap heap, int[] bytes) {
        int has = heap.count(6);
        for (int from = 0; from < bytes.length; from += 20) {
            int[] n = new int[5];
            for (int i = 0; i < 20; i++) {
                int value = from + i < bytes.length ? bytes[from + i] : ' ';
                n[i / 4] = n[i / 4] << 8 | value;
            }
            heap.feed(n[0], n[1], n[2], n[3], n[4]);
            calls++;
        }
        heap.end(has + bytes.length);
        calls += 2;
    }

    static int[] bytes(String text) {
        int[] all = new int[text.length()];
        for (int i = 0; i < all.length; i++) {
            all[i] = text.charAt(i);
        }
        return all;
    }

    static void feed(RecordHeap heap, String text) {
        feed(heap, bytes(text));
    }

    static int[] row(int n, int value) {
        int[] all = new int[n];
        java.util.Arrays.fill(all, value);
        return all;
    }
}
