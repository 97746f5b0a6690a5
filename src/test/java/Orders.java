import java.util.Arrays;

/** Orders to try, as numbers: right ones of n candidates, and wrong ones that are nearly right. */
final class Orders {
    private Orders() {
    }

    static int ascending(int n) {
        return turned(n, 0);
    }

    static int descending(int n) {
        int[] row = new int[n];
        for (int place = 0; place < n; place++) {
            row[place] = n - 1 - place;
        }
        return Check.order(row);
    }

    /** by, by + 1, .. and from 0 again behind n - 1. */
    static int turned(int n, int by) {
        int[] row = new int[n];
        for (int place = 0; place < n; place++) {
            row[place] = (place + by) % n;
        }
        return Check.order(row);
    }

    /** One candidate too few or too many, one twice, one that there is not, and every bit above. */
    static int[] wrong(int n) {
        int[] wrong = new int[80];
        int filled = 0;
        wrong[filled++] = Check.order(row(n - 1));
        wrong[filled++] = Check.order(row(n + 1));
        for (int place = 0; place < n; place++) {
            wrong[filled++] = with(n, place, (place + 1) % n);
            wrong[filled++] = with(n, place, n);
            wrong[filled++] = with(n, place, 7);
        }
        for (int bit = 3 * n; bit < 32; bit++) {
            wrong[filled++] = descending(n) | 1 << bit;
        }
        wrong[filled++] = 0;
        wrong[filled++] = 1;
        wrong[filled++] = -1;
        wrong[filled++] = -ascending(n);
        wrong[filled++] = Integer.MIN_VALUE;
        wrong[filled++] = Integer.MAX_VALUE;
        int[] some = Arrays.copyOf(wrong, filled);
        return Arrays.stream(some).filter(order -> !isOne(order, n)).distinct().toArray();
    }

    /** The document's words once more: each candidate at one place, nothing above. */
    static boolean isOne(int number, int n) {
        int[] row = new int[n];
        int rest = number;
        for (int place = 0; place < n; place++) {
            row[place] = rest & 7;
            rest >>>= 3;
        }
        int[] sorted = row.clone();
        Arrays.sort(sorted);
        return rest == 0 && Arrays.equals(sorted, row(n));
    }

    private static int with(int n, int place, int candidate) {
        int[] row = row(n);
        row[place] = candidate;
        return Check.order(row);
    }

    private static int[] row(int n) {
        int[] row = new int[n];
        for (int place = 0; place < n; place++) {
            row[place] = place;
        }
        return row;
    }
}
