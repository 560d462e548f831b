import java.lang.management.ManagementFactory;

/** No arguments, in no state, make a call throw; and what a run makes stays small. */
public final class WildRuns {
    private static final int[] NUMBERS = {Integer.MIN_VALUE, Integer.MIN_VALUE + 1, -65536, -500, -2, -1, 0, 1, 2, 3, 4, 5, 6, 9,
        10, 11, 12, 13, 30, 40, 41, 59, 60, 61, 99, 100, 143, 144, 500, 700, 2000, 99999, Integer.MAX_VALUE - 1, Integer.MAX_VALUE};

    private static final String[] TEXTS = {
        "", "far 1;shaft 1 1 to 10 10;", "far 300;cold 0;pipe 0 0 at -400 lead 60;shaft 5 5 to 6 6;",
        "far 1;shaft 5 5 to 5 5;pipe 5 4 at -400 lead 60;pipe 4 5 at -400 lead 60;pipe 6 5 at -400 lead 60;pipe 5 6 at -400 lead 60;",
        "ground 0 lead 15 ice 15 latent 1 mark -30;far 300;shaft 2 2 to 8 9;pipe 1 1 at 0 lead 60;stream 1 speed 30;"
            + "stream 2 speed 30;house 0 limit 0;house 10 limit 0;dig if gaps > 0 and thick < 9 and lift < 5;dig if shut;",
    };

    private static long seed;

    private WildRuns() {
    }

    private static int below(int n) {
        seed = seed * 6364136223846793005L + 1442695040888963407L;
        return (int) ((seed >>> 33) % n);
    }

    private static int any() {
        return NUMBERS[below(NUMBERS.length)];
    }

    private static int small() {
        return below(4) == 0 ? any() : below(14) - 1;
    }

    public static void main(String[] args) {
        for (int run = 0; run < 300; run++) {
            seed = run;
            FrostRing r = new FrostRing();
            for (int i = 0; i < 500; i++) {
                call(r);
            }
        }
        whatIsMade();
        Check.close("WildRuns");
    }

    private static void call(FrostRing r) {
        switch (below(40)) {
            case 0 -> r.feed(any(), any(), any(), any(), any());
            case 1 -> r.end(any());
            case 2 -> r.text();
            case 3 -> r.fault(small());
            case 4, 5 -> r.tick(small());
            case 6 -> r.cell(small(), small(), small());
            case 7 -> r.heat(small());
            case 8 -> r.run(small(), below(2) == 0);
            case 9 -> r.pipe(small(), small());
            case 10 -> r.cold(any());
            case 11 -> r.shut();
            case 12 -> r.way();
            case 13 -> r.gaps();
            case 14 -> r.gap(small());
            case 15 -> r.thick();
            case 16, 17 -> r.dig(small(), small());
            case 18 -> r.lacks(small());
            case 19 -> r.pump();
            case 20 -> r.lift(small());
            case 21 -> r.cracks();
            case 22 -> r.house(small(), small());
            case 23 -> r.foretell();
            case 24 -> r.off();
            case 25 -> r.more(small(), small());
            case 26 -> r.chosen();
            case 27 -> r.gauge(small(), small(), small(), any());
            case 28 -> r.lies(any());
            case 29 -> r.most(small());
            case 30 -> r.frost(small());
            case 31 -> r.count(small());
            case 32 -> r.keep(small());
            case 33 -> r.back(small());
            case 34 -> r.row(small(), small(), any());
            case 35 -> r.write(small(), small(), any() * 4294967297L);
            case 36 -> r.paste(small(), small(), small(), small(), small());
            default -> {
                r.end(0);
                Check.tell(r, TEXTS[below(TEXTS.length)]);
            }
        }
    }

    /** A run's calls live in one room: an object with its images is small, and no call makes more. */
    private static void whatIsMade() {
        com.sun.management.ThreadMXBean bean = (com.sun.management.ThreadMXBean) ManagementFactory.getThreadMXBean();
        long id = Thread.currentThread().getId();
        dearCalls(new FrostRing());
        long before = bean.getThreadAllocatedBytes(id);
        FrostRing r = new FrostRing();
        long made = bean.getThreadAllocatedBytes(id) - before;
        Check.due("an object is made of " + made + " bytes", made < 60000, true);
        before = bean.getThreadAllocatedBytes(id);
        dearCalls(r);
        made = bean.getThreadAllocatedBytes(id) - before;
        Check.due("the calls have made " + made + " bytes", made < 60000, true);
    }

    private static void dearCalls(FrostRing r) {
        Check.tell(r, TEXTS[4]);
        r.row(0, 1, 6);
        for (int i = 0; i < 6; i++) {
            r.write(0, i, i);
        }
        for (int i = 0; i < 80; i++) {
            r.more(0, 30);
            r.gaps();
            r.foretell();
            r.keep(i % 3);
            r.back(i % 3);
            r.tick(1);
            r.lacks(0);
            r.row(1, 3, 60);
        }
    }
}
