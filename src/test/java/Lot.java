/** The document's draws, written once more for the tests. */
final class Lot {
    private long x;

    Lot(int seed) {
        x = seed & 0xFFFFFFFFL;
    }

    /** 64-bit arithmetic cut to 32 bits, so that it is not the program's line again. */
    int below(int n) {
        x = (x * 1664525L + 1013904223L) & 0xFFFFFFFFL;
        return (int) ((x / 65536L) % n);
    }

    int[] shuffled(int... row) {
        int[] answer = row.clone();
        for (int i = answer.length - 1; i >= 1; i--) {
            swap(answer, i, below(i + 1));
        }
        return answer;
    }

    /** A vector after a cell was put back. */
    int[] putBack(int[] vector, int cell) {
        int[] answer = java.util.Arrays.copyOf(vector, vector.length + 1);
        answer[vector.length] = cell;
        if (answer.length > 1) {
            swap(answer, answer.length - 1, below(answer.length));
        }
        return answer;
    }

    static int[] upTo(int n) {
        int[] row = new int[n];
        for (int i = 0; i < n; i++) {
            row[i] = i;
        }
        return row;
    }

    private static void swap(int[] row, int i, int j) {
        int kept = row[i];
        row[i] = row[j];
        row[j] = kept;
    }
}
