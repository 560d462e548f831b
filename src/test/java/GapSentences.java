import java.util.Arrays;

/**
 * GAPS as II has them, found by trying: some CELL of each WAY must be FROZEN too, so all sets of the
 * fewest CELLS are found by trying each CELL of one WAY, then each of one that is left, and so on.
 */
final class GapSentences {
    private static final int MAZES = 120;
    /** Mazes in which a search that lays one WAY beside another must take back most of what it has laid. */
    private static final int[] HARD = {191, 340, 440, 723, 1149, 161, 377, 1161, 1457, 1887, 1977, 20325, 33071};
    /** More GAPS than these would take too long to try. */
    private static final int MOST = 9;
    private static final int UNSEEN = -2;

    private static long seed = 1;
    private static final boolean[] CLOSED = new boolean[144];
    private static final boolean[] SHAFT = new boolean[144];
    /** The CELLS to go to from the SHAFT, in the order of their steps, and for each the CELL ahead of it. */
    private static final int[] REACHED = new int[144];
    private static final int[] CAME = new int[144];
    private static int reached;
    private static int[] best;
    private static int fewestLeft;

    private GapSentences() {
    }

    private static int from(int low, int high) {
        seed = seed * 6364136223846793005L + 1442695040888963407L;
        return low + (int) ((seed >>> 33) % (high - low + 1));
    }

    static void all() {
        Sentences.holds(14, "GAPS: the fewest CELLS that would have to be FROZEN too for it to be SHUT; "
            + "of all such sets that which leaves the fewest CELLS to go to from the SHAFT.");
        int[] seen = new int[MOST + 1];
        for (int i = 0; i < MAZES; i++) {
            walk(i, seen);
        }
        for (int i : HARD) {
            walk(i, seen);
        }
        for (int n = 1; n <= MOST; n++) {
            Sentences.due("mazes with " + n + " GAPS were seen", seen[n] > 0, true);
        }
    }

    private static void walk(int number, int[] seen) {
        seed = number;
        FrostRing r = new FrostRing();
        Sentences.due("the maze " + number, Check.tell(r, maze()) > 0, true);
        for (int t = 0; t < 3; t++) {
            r.tick(2);
            look(r);
            int n = fewest();
            if (n <= MOST) {
                compare(r, n);
                seen[n]++;
            }
        }
    }

    /** Lanes of ground that leads and freezes at once, with PIPES in most of them, in ground that does neither. */
    private static String maze() {
        int x = from(3, 6);
        int y = from(3, 6);
        StringBuilder text = new StringBuilder("ground0lead0ice0latent999mark0;ground1lead15ice15latent1mark0;far1;");
        text.append("shaft" + x + " " + y + "to" + from(x, x + 2) + " " + from(y, y + 2) + ";");
        boolean[] taken = new boolean[144];
        StringBuilder pipes = new StringBuilder();
        for (int i = from(9, 12); i > 0; i--) {
            boolean wide = from(0, 1) == 0;
            int bx = from(0, 11);
            int by = from(0, 11);
            int bx2 = Math.min(11, wide ? bx + from(0, 6) : bx);
            int by2 = Math.min(11, wide ? by : by + from(0, 6));
            text.append("lay" + bx + " " + by + "to" + bx2 + " " + by2 + "ground1;");
            int px = from(bx, bx2);
            int py = from(by, by2);
            if (!taken[12 * py + px]) {
                taken[12 * py + px] = true;
                pipes.append("pipe" + px + " " + py + "at-400lead60;");
            }
        }
        return text.append(pipes).toString();
    }

    private static void compare(FrostRing r, int n) {
        best = new int[n];
        fewestLeft = 1000;
        tryAll(n, new int[n]);
        Arrays.sort(best);
        Sentences.due("gaps()", r.gaps(), n);
        for (int i = 0; i < n; i++) {
            Sentences.due("gap(" + i + ")", r.gap(i), best[i]);
        }
        Sentences.due("no more", r.gap(n), FrostRing.NONE);
        Sentences.due("way()", r.way(), n == 0 ? FrostRing.NONE : way().length);
    }

    private static void look(FrostRing r) {
        for (int c = 0; c < 144; c++) {
            SHAFT[c] = r.cell(c % 12, c / 12, 5) == 1;
            CLOSED[c] = SHAFT[c] || r.cell(c % 12, c / 12, 3) == 1;
        }
    }

    private static void come(int c, int ahead) {
        if (!CLOSED[c] && CAME[c] == UNSEEN) {
            CAME[c] = ahead;
            REACHED[reached++] = c;
        }
    }

    private static void comeFrom(int c, int ahead) {
        if (c % 12 < 11) {
            come(c + 1, ahead);
        }
        if (c % 12 > 0) {
            come(c - 1, ahead);
        }
        if (c >= 12) {
            come(c - 12, ahead);
        }
        if (c < 132) {
            come(c + 12, ahead);
        }
    }

    private static void reach() {
        Arrays.fill(CAME, UNSEEN);
        reached = 0;
        for (int c = 0; c < 144; c++) {
            if (SHAFT[c]) {
                comeFrom(c, FrostRing.NONE);
            }
        }
        for (int i = 0; i < reached; i++) {
            comeFrom(REACHED[i], REACHED[i]);
        }
    }

    /** The CELLS of a WAY of the fewest, from the RIM on; none if it is SHUT. */
    private static int[] way() {
        reach();
        for (int i = 0; i < reached; i++) {
            int c = REACHED[i];
            if (c % 12 % 11 == 0 || c / 12 % 11 == 0) {
                int n = 0;
                int[] way = new int[144];
                for (int at = c; at >= 0; at = CAME[at]) {
                    way[n++] = at;
                }
                return Arrays.copyOf(way, n);
            }
        }
        return new int[0];
    }

    /** Whether more than n WAYS without a common CELL are easily found: n CELLS can't shut them all. */
    private static boolean tooMany(int n) {
        boolean[] ahead = CLOSED.clone();
        int found = 0;
        for (int[] way = way(); way.length > 0 && found <= n; way = way()) {
            for (int c : way) {
                CLOSED[c] = true;
            }
            found++;
        }
        System.arraycopy(ahead, 0, CLOSED, 0, 144);
        return found > n;
    }

    private static boolean shutsBy(int n) {
        int[] way = way();
        boolean shut = way.length == 0;
        boolean vain = tooMany(n);
        for (int i = 0; i < way.length && !vain && !shut; i++) {
            CLOSED[way[i]] = true;
            shut = shutsBy(n - 1);
            CLOSED[way[i]] = false;
        }
        return shut;
    }

    private static int fewest() {
        int n = 0;
        while (n <= MOST && !shutsBy(n)) {
            n++;
        }
        return n;
    }

    private static void tryAll(int n, int[] set) {
        int[] way = way();
        if (way.length == 0) {
            if (reached < fewestLeft) {
                fewestLeft = reached;
                best = set.clone();
            }
            return;
        }
        boolean vain = tooMany(n);
        for (int i = 0; i < way.length && !vain; i++) {
            CLOSED[way[i]] = true;
            set[n - 1] = way[i];
            tryAll(n - 1, set);
            CLOSED[way[i]] = false;
        }
    }
}
