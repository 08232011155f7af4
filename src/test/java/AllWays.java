/** MOUNTS by a search through all ways, in the order in which the document would meet them. */
final class AllWays {
    private final int[] led;
    private final int[] left;
    private final int[] way;
    private int[] best = null;
    private int bestRidden = -1;
    private int[] bestLed = null;

    private AllWays(int[] led, int[] left, int chukkas) {
        this.led = led.clone();
        this.left = left.clone();
        this.way = new int[chukkas];
    }

    /** Places among the ponies (in the order of their numbers), -1 for none. */
    static int[] best(int[] led, int[] left, int chukkas) {
        AllWays search = new AllWays(led, left, chukkas);
        search.from(0, 0);
        return search.best;
    }

    private void from(int chukka, int ridden) {
        if (ridden + way.length - chukka < bestRidden) {
            return;
        }
        if (chukka == way.length) {
            keepIfBetter(ridden);
            return;
        }
        for (int i = 0; i < led.length; i++) {
            if (left[i] > 0 && (chukka == 0 || way[chukka - 1] != i)) {
                way[chukka] = i;
                left[i]--;
                led[i] += 7;
                from(chukka + 1, ridden + 1);
                led[i] -= 7;
                left[i]++;
            }
        }
        way[chukka] = -1;
        from(chukka + 1, ridden);
    }

    private void keepIfBetter(int ridden) {
        int[] sorted = led.clone();
        java.util.Arrays.sort(sorted);
        if (ridden > bestRidden || ridden == bestRidden && isLess(sorted, bestLed)) {
            best = way.clone();
            bestRidden = ridden;
            bestLed = sorted;
        }
    }

    private static boolean isLess(int[] sorted, int[] other) {
        for (int i = sorted.length - 1; i >= 0; i--) {
            if (sorted[i] != other[i]) {
                return sorted[i] < other[i];
            }
        }
        return false;
    }
}
