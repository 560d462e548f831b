import java.util.List;

/** The sentences of IV and V and of promises 20 to 28: LIFTS, HOUSES, what is foretold, MORE PIPES, GAUGES. */
final class HouseSentences {
    private static final int NONE = FrostRing.NONE;
    private static final int NOTHING = Check.NOTHING;

    private static final String ALONE = "ground 0 lead 0 ice 0 latent 999 mark 0;far 1;";
    private static final String QUICK = "ground 0 lead 0 ice 0 latent 1 mark 0;far 1;";
    private static final String ONE = "shaft 5 5 to 5 5;";
    private static final String CORNER = "shaft 1 1 to 1 1;";
    private static final int[] SIDES = {53, 64, 66, 77};

    private HouseSentences() {
    }

    static void all() {
        tenths();
        liftsTold();
        cracking();
        crackingOnce();
        cracksTold();
        housesTold();
        foretold();
        offTold();
        morePipes();
        allGoOn();
        firstOfEqualOnes();
        moreTold();
        notByAll();
        moreRefused();
        moreWithout();
        noSuchCells();
        chosenTold();
        gaugesRead();
        liesTold();
    }

    private static void due(String call, long got, long want) {
        Sentences.due(call, got, want);
    }

    /** A PIPE that makes ICE of so much in one TICK in ground that leads nothing, where FAR is 1. */
    private static String iceOf(int x, int y, int ice) {
        for (int lead = 1; lead <= 60; lead++) {
            for (int at = 0; at <= 400; at++) {
                if ((1 + at) * lead / 100 == ice + 1) {
                    return "pipe " + x + " " + y + " at -" + at + " lead " + lead + ";";
                }
            }
        }
        throw new IllegalArgumentException("no PIPE makes so much");
    }

    private static String pipes(int... cells) {
        StringBuilder all = new StringBuilder();
        for (int c : cells) {
            all.append("pipe " + c % 12 + " " + c / 12 + " at -400 lead 60;");
        }
        return all.toString();
    }

    private static void fill(FrostRing r, int slot, int width, int... numbers) {
        due("row", r.row(slot, width, numbers.length), 0);
        for (int i = 0; i < numbers.length; i++) {
            due("write", r.write(slot, i, numbers[i]), 0);
        }
    }

    // ---- IV and promises 20 to 22

    private static void tenths() {
        Sentences.holds(20, "IV. LIFT of a column: of each CELL in it that is not DUG a tenth of its ICE (rounded down), all together.");
        int[][] reckoned = {{0, 0}, {1, 0}, {9, 0}, {10, 1}, {11, 1}, {19, 1}, {20, 2}, {99, 9}, {100, 10}, {239, 23}};
        for (int[] k : reckoned) {
            FrostRing r = Check.ring(ALONE + iceOf(5, 5, k[0]));
            r.tick(1);
            due("ICE", r.cell(5, 5, 2), k[0]);
            due("LIFT of it", r.lift(5), k[1]);
        }
        FrostRing r = Check.ring(ALONE + "shaft 5 1 to 5 10;" + iceOf(5, 0, 19) + iceOf(5, 11, 19) + iceOf(5, 4, 19) + iceOf(6, 4, 29));
        r.tick(1);
        due("each is rounded by itself", r.lift(5), 3);
        due("the next column", r.lift(6), 2);
        due("the one ahead", r.lift(4), 0);
        due("dig(5, 4)", r.dig(5, 4), 9);
        due("that is not DUG", r.lift(5), 2);
        StringBuilder twelve = new StringBuilder(ALONE);
        for (int y = 0; y < 12; y++) {
            twelve.append("pipe 7 " + y + " at -400 lead 60;");
        }
        r = Check.ring(twelve.toString());
        r.tick(40);
        // 240 * 40 are beyond the room of 999
        due("a whole column", r.lift(7), 12 * 99);
    }

    private static void liftsTold() {
        Sentences.holds(20, "LIFT of a column x.");
        FrostRing r = Check.ring(ALONE + iceOf(0, 0, 10) + iceOf(11, 11, 30));
        r.tick(1);
        due("the first", r.lift(0), 1);
        due("the last", r.lift(11), 3);
        due("another", r.lift(1), 0);
        Sentences.holds(20, "NOTHING: there is none such.");
        for (int x : new int[] {-1, 12, 13, Integer.MAX_VALUE, Integer.MIN_VALUE}) {
            due("lift(" + x + ")", r.lift(x), NOTHING);
        }
    }

    private static void cracking() {
        Sentences.holds(21, "A HOUSE CRACKS (once) behind a TICK if the LIFTS of its column and the next one (x + 1) differ by more than its limit.");
        for (int limit = 0; limit < 4; limit++) {
            FrostRing r = Check.ring(ALONE + iceOf(5, 5, 20) + "house 5 limit " + limit + ";house 4 limit " + limit + ";house 6 limit 0;house 3 limit 0;");
            due("none yet", r.cracks(), 0);
            r.tick(1);
            due("LIFTS of 2 and 0, 0 and 2, limit " + limit, r.cracks(), limit < 2 ? 3 : 0);
        }
        FrostRing r = Check.ring(ALONE + iceOf(5, 5, 20) + iceOf(6, 3, 20) + "house 5 limit 0;house 6 limit 0;");
        r.tick(1);
        due("both alike", r.cracks(), 2);
        r = Check.ring(ALONE + iceOf(0, 5, 10) + iceOf(11, 5, 10) + "house 0 limit 0;house 10 limit 0;");
        r.tick(1);
        due("the first and the last", r.cracks(), 3);
        r = Check.ring(ALONE + "house 0 limit 0;");
        r.tick(40);
        due("no LIFT at all", r.cracks(), 0);
        // digging lowers a column, but only a TICK cracks
        r = Check.ring(ALONE + "shaft 5 5 to 5 5;" + iceOf(5, 5, 10) + iceOf(6, 3, 10) + "house 5 limit 0;");
        r.tick(1);
        r.run(1, false);
        due("alike", r.cracks(), 0);
        r.dig(5, 5);
        due("no TICK yet", r.cracks(), 0);
        r.tick(1);
        due("behind a TICK", r.cracks(), 1);
    }

    private static void crackingOnce() {
        Sentences.holds(22, "2: the TICK at which it CRACKED (NONE).");
        // 500 * 20 / 100 lower WARM to the mark, then 400 * 20 / 100 freeze in each TICK
        FrostRing r = Check.ring("ground 0 lead 0 ice 0 latent 999 mark 0;far 100;pipe 5 5 at -400 lead 20;house 4 limit 9;house 5 limit 24;");
        due("house(0, 2)", r.house(0, 2), NONE);
        r.tick(1);
        due("not yet", r.house(0, 2), NONE);
        r.tick(1);
        due("LIFT 8", r.lift(5), 8);
        due("not yet", r.house(0, 2), NONE);
        r.tick(5);
        due("LIFT 48", r.lift(5), 48);
        due("at LIFT 16", r.house(0, 2), 3);
        due("at LIFT 32, not at 24", r.house(1, 2), 5);
        r.tick(40);
        due("once", r.house(0, 2), 3);
        due("cracks()", r.cracks(), 3);
    }

    private static void cracksTold() {
        Sentences.holds(21, "HOUSES that CRACKED, as bits by their place in the TEXT.");
        due("without HOUSES", new FrostRing().cracks(), 0);
        FrostRing r = Check.ring("house 9 limit 0;" + ALONE + iceOf(5, 5, 20) + "house 5 limit 2;house 4 limit 1;house 5 limit 0;house 0 limit 0;house 4 limit 1;");
        due("ahead of a TICK", r.cracks(), 0);
        r.tick(1);
        due("the third, fourth and sixth", r.cracks(), 4 + 8 + 32);
        r = Check.ring(ALONE + iceOf(5, 5, 20) + "house 5 limit 0;".repeat(6));
        r.tick(1);
        due("all six", r.cracks(), 63);
    }

    private static void housesTold() {
        Sentences.holds(22, "Of HOUSE h, what 0: its column, 1: its limit,");
        FrostRing r = Check.ring("house 0 limit 999;house 10 limit 0;house 3 limit 4;house 3 limit 5;house 7 limit 6;house 8 limit 7;");
        int[][] want = {{0, 999}, {10, 0}, {3, 4}, {3, 5}, {7, 6}, {8, 7}};
        for (int h = 0; h < 6; h++) {
            due("column of " + h, r.house(h, 0), want[h][0]);
            due("limit of " + h, r.house(h, 1), want[h][1]);
            due("TICK of " + h, r.house(h, 2), NONE);
        }
        Sentences.holds(22, "NOTHING for others.");
        for (int what : new int[] {-1, 3, Integer.MAX_VALUE, Integer.MIN_VALUE}) {
            due("what " + what, r.house(0, what), NOTHING);
        }
        for (int what = 0; what < 3; what++) {
            for (int h : new int[] {-1, 6, 7, Integer.MAX_VALUE, Integer.MIN_VALUE}) {
                due("HOUSE " + h, r.house(h, what), NOTHING);
            }
            due("of one the second", Check.ring("house 0 limit 0;").house(1, what), NOTHING);
            due("without HOUSES", new FrostRing().house(0, what), NOTHING);
        }
    }

    // ---- promises 23 and 24

    /** Behind t TICKS each side of the SHAFT has ICE of 6 * t - 1. */
    private static String slow(int latent) {
        return "ground 0 lead 0 ice 0 latent " + latent + " mark 0;far 1;" + CORNER + "pipe 1 0 at -10 lead 60;pipe 0 1 at -10 lead 60;"
            + "pipe 2 1 at -10 lead 60;pipe 1 2 at -10 lead 60;";
    }

    private static void foretold() {
        Sentences.holds(23, "The first TICK from now on (0: now, 60 at most) behind which the SHAFT would be SHUT if all goes on so; NONE.");
        int[][] reckoned = {{1, 1}, {5, 1}, {6, 2}, {11, 2}, {12, 3}, {353, 59}, {354, 60}, {359, 60}, {360, NONE}, {999, NONE}};
        for (int[] k : reckoned) {
            FrostRing r = Check.ring(slow(k[0]));
            List<Integer> ahead = Sentences.look(r);
            due("latent " + k[0], r.foretell(), k[1]);
            Sentences.same("nothing happens", Sentences.look(r), ahead);
        }
        FrostRing r = Check.ring(slow(360));
        r.tick(1);
        due("from now on", r.foretell(), 60);
        r.tick(39);
        due("from now on", r.foretell(), 21);
        r.tick(20);
        due("not yet", r.shut(), 0);
        due("the next", r.foretell(), 1);
        r.tick(1);
        due("SHUT", r.shut(), 1);
        due("now", r.foretell(), 0);
        r = Check.ring(slow(5));
        r.run(2, false);
        due("if all goes on so", r.foretell(), NONE);
        r.run(2, true);
        r.cold(0);
        due("without COLD", r.foretell(), NONE);
        r.cold(20);
        // 5 for each: 1 of WARM, 4 of ICE
        due("with COLD of 20", r.foretell(), 2);
        due("what was begun is not gone on with", r.count(1), 0);
        r = Check.ring(QUICK + ONE + pipes(53, 64, 66));
        due("never", r.foretell(), NONE);
        Sentences.holds(23, "-6: there is no SHAFT.");
        due("a new object", new FrostRing().foretell(), -6);
        due("a TEXT without", Check.ring(pipes(SIDES)).foretell(), -6);
    }

    /** The two sides at the RIM get 1 a TICK: WARM rises to the mark, then the first ICE thaws. */
    private static FrostRing thawing(String pipe) {
        FrostRing r = Check.ring("ground 0 lead 0 ice 1 latent 1 mark 0;far 100;" + CORNER + "pipe 1 0 " + pipe + "pipe 0 1 " + pipe
            + "pipe 2 1 " + pipe + "pipe 1 2 " + pipe);
        r.tick(1);
        due("SHUT", r.shut(), 1);
        return r;
    }

    private static void offTold() {
        Sentences.holds(24, "The first TICK (1 .. 60) behind which it would be SHUT no more if no PIPE ran; NONE.");
        String[] pipe = {"at -102 lead 50;", "at -104 lead 50;", "at -300 lead 40;", "at -250 lead 46;"};
        int[] warm = {0, -1, -59, -60};
        int[] want = {1, 2, 60, NONE};
        for (int i = 0; i < 4; i++) {
            FrostRing r = thawing(pipe[i]);
            due("WARM", r.cell(1, 0, 1), warm[i]);
            List<Integer> ahead = Sentences.look(r);
            due("off()", r.off(), want[i]);
            Sentences.same("nothing happens", Sentences.look(r), ahead);
            due("the PIPES run", r.pipe(3, 3), 1);
        }
        FrostRing r = thawing(pipe[3]);
        for (int p = 0; p < 4; p++) {
            r.run(p, false);
        }
        r.tick(1);
        due("one TICK later", r.off(), 60);
        r.tick(40);
        due("forty more", r.off(), 20);
        r.tick(19);
        due("the last", r.off(), 1);
        due("SHUT", r.shut(), 1);
        r.tick(1);
        due("SHUT no more", r.shut(), 0);
        Sentences.holds(24, "-6 likewise;");
        due("a new object", new FrostRing().off(), -6);
        due("a TEXT without", Check.ring(pipes(SIDES)).off(), -6);
        Sentences.holds(24, "-5: it is not SHUT.");
        due("not any more", r.off(), -5);
        due("nothing is FROZEN", Check.ring(QUICK + ONE + pipes(SIDES)).off(), -5);
    }

    // ---- V and promises 25 and 26

    private static void morePipes() {
        Sentences.holds(25, "V. MORE PIPES run as PIPE 0 is told (what runs through, lead),");
        // 101 * 60 / 100 are 60: latent 59 freezes in one TICK, 60 in two
        String slow = "ground 0 lead 0 ice 0 latent #;far 1;".replace("#", "59 mark 0") + ONE + "pipe 5 4 at -100 lead 60;"
            + "pipe 4 5 at -400 lead 60;pipe 6 5 at -400 lead 60;";
        FrostRing r = Check.ring(slow);
        fill(r, 0, 1, 77);
        due("as much as PIPE 0", r.more(0, 1), 1);
        r = Check.ring(slow.replace("latent 59", "latent 60"));
        fill(r, 0, 1, 77);
        due("not more", r.more(0, 1), NONE);
        due("in two TICKS", r.more(0, 2), 1);
        // PIPE 0 takes nothing, and its own CELL is not needed
        for (String first : new String[] {"pipe 0 0 at 0 lead 60;", "pipe 0 0 at -400 lead 0;"}) {
            r = Check.ring(QUICK + ONE + first + pipes(53, 64, 66));
            fill(r, 0, 1, 77);
            due("so does a further one", r.more(0, 30), NONE);
        }
        // PIPE 0 is told, whether it runs or not
        r = Check.ring(QUICK + ONE + "pipe 0 0 at -400 lead 60;" + pipes(53, 64, 66));
        r.run(0, false);
        fill(r, 0, 1, 77);
        due("MORE PIPES run", r.more(0, 1), 1);
        Sentences.holds(25, "behind the others in number, with the COLD that there is;");
        // four of 240 share it: 2 for each are 1 of WARM and 1 of ICE
        r = Check.ring(QUICK + ONE + pipes(53, 64, 66));
        fill(r, 0, 1, 77);
        r.cold(8);
        due("2 for each", r.more(0, 1), 1);
        r.cold(7);
        due("1 for each", r.more(0, 1), NONE);
        due("in two TICKS", r.more(0, 2), 1);
        r.cold(0);
        due("no COLD", r.more(0, 30), NONE);
        due("no PIPE is there", r.count(2), 3);
    }

    private static void allGoOn() {
        Sentences.holds(25, "all PIPES that run go on.");
        FrostRing r = Check.ring(QUICK + ONE + pipes(53, 64, 66));
        fill(r, 0, 1, 77);
        due("all run", r.more(0, 1), 1);
        r.run(1, false);
        due("one does not", r.more(0, 30), NONE);
        r.run(1, true);
        r.tick(1);
        r.run(1, false);
        due("what is FROZEN is so", r.more(0, 1), 1);
    }

    private static void firstOfEqualOnes() {
        Sentences.holds(26, "Of equal ones the first by their places in the row (as a row of places).");
        // 53 or 41 above, 77 or 89 below: any pair of the two kinds
        String walls = QUICK + ONE + pipes(64, 66, 52, 54, 76, 78);
        int[][] rows = {{53, 41, 77, 89}, {53, 77, 41, 89}, {77, 89, 53, 41}, {0, 53, 1, 77, 41, 89}, {41, 53, 0, 1, 2, 77}, {53, 0, 77, 41, 1, 89},
            {53, 0, 1, 2, 41, 77}};
        int[] want = {5, 3, 5, 2 + 8, 1 + 32, 1 + 4, 1 + 32};
        for (int i = 0; i < rows.length; i++) {
            FrostRing r = Check.ring(walls);
            fill(r, 0, 1, rows[i]);
            due("more()", r.more(0, 1), 2);
            due("chosen()", r.chosen(), want[i]);
        }
        doorsOfTwoRings();
        FrostRing r = Check.ring("ground 1 lead 0 ice 0 latent 999 mark 0;ground 0 lead 0 ice 0 latent 1 mark 0;far 1;" + ONE
            + "lay 4 7 to 6 7 ground 1;" + pipes(64, 66, 52, 54, 76, 78));
        fill(r, 0, 1, 53, 41, 89, 77);
        due("89 freezes late", r.more(0, 1), 2);
        due("{0, 3}", r.chosen(), 9);
        fill(r, 0, 1, 89, 77, 53, 41);
        due("more()", r.more(0, 1), 2);
        due("{1, 2}", r.chosen(), 6);
    }

    /** Two rings of frost with two doors each: the doors of either one shut, as no other two do. */
    private static void doorsOfTwoRings() {
        FrostRing r = Check.ring(QUICK + "ground 1 lead 15 ice 15 latent 1 mark 0;lay 2 2 to 8 2 ground 1;lay 2 8 to 8 8 ground 1;"
            + "lay 2 2 to 2 8 ground 1;lay 8 2 to 8 8 ground 1;lay 5 2 to 5 2 ground 0;lay 5 8 to 5 8 ground 0;" + ONE + pipes(64, 66, 62, 68));
        r.tick(20);
        due("all but the doors", r.count(3), 2 + 22);
        int[][] rows = {{53, 29, 101, 77}, {29, 53, 77, 101}, {29, 53, 101, 77}, {0, 29, 53, 77, 101}};
        int[] want = {9, 9, 5, 2 + 16};
        for (int i = 0; i < rows.length; i++) {
            fill(r, 0, 1, rows[i]);
            due("more()", r.more(0, 1), 2);
            due("{0, 3} ahead of {1, 2}, though its bits are the greater number", r.chosen(), want[i]);
        }
    }

    private static void moreTold() {
        Sentences.holds(25, "MORE PIPES (V): the row of a SLOT are CELLS by number, 6 at most: the fewest of them by which "
            + "the SHAFT would be SHUT behind n TICKS (1 .. 30).");
        FrostRing r = Check.ring(QUICK + ONE + pipes(53, 64, 66));
        fill(r, 3, 1, 77);
        List<Integer> ahead = Sentences.look(r);
        due("one", r.more(3, 1), 1);
        Sentences.same("nothing happens", Sentences.look(r), ahead);
        r = Check.ring(QUICK + ONE + pipes(SIDES));
        fill(r, 0, 1, 0);
        due("none is needed", r.more(0, 1), 0);
        due("chosen()", r.chosen(), 0);
        fill(r, 1, 0);
        due("of an empty row", r.more(1, 1), 0);
        // a SHAFT of 4 by 5 has 18 CELLS beside it: 12 PIPES and six more
        r = Check.ring(QUICK + "shaft 4 4 to 7 8;" + pipes(40, 41, 42, 43, 51, 63, 75, 87, 99, 56, 68, 80));
        fill(r, 0, 1, 92, 104, 112, 113, 114, 115);
        due("six", r.more(0, 1), 6);
        due("chosen()", r.chosen(), 63);
        fill(r, 0, 1, 92, 104, 112, 113, 114);
        due("five do not", r.more(0, 1), NONE);
        // the sides freeze behind 30 TICKS, or one later
        String three = "ground 0 lead 0 ice 0 latent #;far 1;" + CORNER + "pipe 1 0 at -10 lead 60;pipe 0 1 at -10 lead 60;pipe 2 1 at -10 lead 60;";
        r = Check.ring(three.replace("#", "179 mark 0"));
        fill(r, 0, 1, 25);
        due("behind 30", r.more(0, 30), 1);
        due("not behind 29", r.more(0, 29), NONE);
        r = Check.ring(three.replace("#", "180 mark 0"));
        fill(r, 0, 1, 25);
        due("not behind 30", r.more(0, 30), NONE);
        // what is SHUT on the way there may be open behind n TICKS
        r = Check.ring("ground 0 lead 15 ice 15 latent 1 mark 0;far 300;" + ONE + pipes(SIDES));
        r.tick(1);
        r.cold(0);
        fill(r, 0, 1, 0);
        due("SHUT now", r.shut(), 1);
        due("but not then", r.more(0, 30), NONE);
    }

    private static void notByAll() {
        Sentences.holds(25, "NONE: not by all.");
        FrostRing r = Check.ring(QUICK + ONE + pipes(53, 64));
        fill(r, 0, 1, 77, 0, 1, 2, 3, 4);
        due("not by six", r.more(0, 30), NONE);
        fill(r, 0, 1);
        due("not by an empty row", r.more(0, 30), NONE);
        fill(r, 0, 1, 77, 66);
        due("by two", r.more(0, 1), 2);
    }

    private static void moreRefused() {
        Sentences.holds(25, "-2: there is no such SLOT, another n, more than six;");
        FrostRing r = Check.ring(QUICK + ONE + pipes(53, 64, 66));
        for (int slot = 0; slot < 4; slot++) {
            fill(r, slot, 1, 77);
            due("SLOT " + slot, r.more(slot, 1), 1);
        }
        for (int slot : new int[] {-1, 4, 5, Integer.MAX_VALUE, Integer.MIN_VALUE}) {
            due("SLOT " + slot, r.more(slot, 1), -2);
        }
        for (int n : new int[] {0, -1, 31, 32, Integer.MAX_VALUE, Integer.MIN_VALUE}) {
            due("n " + n, r.more(0, n), -2);
        }
        due("n 30", r.more(0, 30), 1);
        fill(r, 0, 1, 77, 1, 2, 3, 4, 5);
        due("six", r.more(0, 1), 1);
        fill(r, 0, 1, 77, 1, 2, 3, 4, 5, 6);
        due("seven", r.more(0, 1), -2);
        due("row", r.row(0, 1, 60), 0);
        due("sixty", r.more(0, 1), -2);
        // ahead of all that is -6 or -7
        FrostRing empty = new FrostRing();
        due("another n of a SLOT that has nothing", empty.more(0, 0), -2);
        due("another n of a SLOT that has nothing", empty.more(0, 31), -2);
        due("row", empty.row(0, 1, 7), 0);
        due("seven without a SHAFT", empty.more(0, 1), -2);
        fill(r, 0, 1, 77, 77);
        due("another n of a number told twice", r.more(0, 31), -2);
    }

    private static void moreWithout() {
        Sentences.holds(25, "-6: it has nothing, there is no SHAFT, no PIPE;");
        FrostRing r = Check.ring(QUICK + ONE + pipes(53, 64, 66));
        for (int slot = 0; slot < 4; slot++) {
            due("SLOT " + slot + " has nothing", r.more(slot, 1), -6);
        }
        r = Check.ring(QUICK + pipes(53, 64, 66));
        fill(r, 0, 1, 77);
        due("no SHAFT", r.more(0, 1), -6);
        r = Check.ring(QUICK + ONE);
        fill(r, 0, 1, 77);
        due("no PIPE", r.more(0, 1), -6);
        fill(r, 0, 1, 144);
        due("ahead of no CELL", r.more(0, 1), -6);
        fill(r, 0, 1, 77, 77);
        due("ahead of one told twice", r.more(0, 1), -6);
        r = Check.ring(QUICK + ONE);
        fill(r, 0, 1);
        due("an empty row without a PIPE", r.more(0, 1), -6);
    }

    private static void noSuchCells() {
        Sentences.holds(25, "-7: a number is no CELL, or has a PIPE, is DUG, or is told twice.");
        FrostRing r = Check.ring(QUICK + "shaft 5 5 to 6 5;" + pipes(53, 64, 77, 78, 54));
        fill(r, 0, 1, 67);
        due("good", r.more(0, 1), 1);
        for (int bad : new int[] {-1, 144, 145, 32767, -32768, 53, 64, 54}) {
            fill(r, 0, 1, 67, bad);
            due("the last is " + bad, r.more(0, 1), -7);
            fill(r, 0, 1, bad, 67);
            due("the first is " + bad, r.more(0, 1), -7);
            fill(r, 0, 1, 0, 1, 2, 3, 4, bad);
            due("the sixth is " + bad, r.more(0, 1), -7);
        }
        fill(r, 0, 1, 0, 143, 67);
        due("the first and the last CELL", r.more(0, 1), 1);
        fill(r, 0, 1, 67, 1, 67);
        due("told twice", r.more(0, 1), -7);
        fill(r, 0, 1, 9, 9);
        due("told twice", r.more(0, 1), -7);
        fill(r, 0, 1, 1, 2, 3, 4, 67, 67);
        due("told twice", r.more(0, 1), -7);
        fill(r, 0, 1, 65, 67);
        due("a CELL of the SHAFT", r.more(0, 1), 1);
        due("dig(5, 5)", r.dig(5, 5), 1);
        due("a DUG one", r.more(0, 1), -7);
        r.row(0, 3, 1);
        for (long v : new long[] {4294967296L + 67, Long.MIN_VALUE + 67, Long.MAX_VALUE, Long.MIN_VALUE}) {
            r.write(0, 0, v);
            due("far out, " + v, r.more(0, 1), -7);
        }
        r.write(0, 0, 67);
        due("good", r.more(0, 1), 1);
    }

    private static void chosenTold() {
        Sentences.holds(26, "Those of the latest more() that told a number, as bits by their place in the row; 0 without.");
        FrostRing r = Check.ring(QUICK + ONE + pipes(53, 64));
        due("without", r.chosen(), 0);
        fill(r, 0, 1, 0, 77, 1, 66, 2, 3);
        due("-6 tells none", r.more(1, 1), -6);
        due("without", r.chosen(), 0);
        due("two", r.more(0, 1), 2);
        due("places 1 and 3", r.chosen(), 10);
        due("asked again", r.chosen(), 10);
        fill(r, 1, 1, 77);
        due("NONE", r.more(1, 1), NONE);
        due("the latest that told a number", r.chosen(), 10);
        due("-2", r.more(0, 0), -2);
        due("the latest that told a number", r.chosen(), 10);
        fill(r, 2, 1, 66, 77);
        due("two", r.more(2, 1), 2);
        due("the latest", r.chosen(), 3);
        fill(r, 2, 1, 0, 1, 2, 3, 66, 77);
        due("two", r.more(2, 1), 2);
        due("the last places", r.chosen(), 48);
        r.run(0, false);
        r.run(1, false);
        Check.tell(r, QUICK + ONE + pipes(SIDES));
        fill(r, 2, 1, 0);
        due("none is needed", r.more(2, 1), 0);
        due("0 is a number, too", r.chosen(), 0);
    }

    // ---- promises 27 and 28

    private static void gaugesRead() {
        Sentences.holds(27, "A GAUGE (0 .. 9) is read (-500 .. 500) at a CELL: 0.");
        for (int g = 0; g < 10; g++) {
            FrostRing r = new FrostRing();
            due("the least", r.gauge(g, 0, 0, -500), 0);
            due("lies(99)", r.lies(99), 1 << g);
            due("read again", r.gauge(g, 11, 11, 100), 0);
            due("lies(0)", r.lies(0), 0);
            due("the greatest", r.gauge(g, 11, 0, 500), 0);
            due("lies(99)", r.lies(99), 1 << g);
        }
        Sentences.holds(27, "-2: there are none such, another reading.");
        FrostRing r = new FrostRing();
        due("good", r.gauge(3, 4, 5, 100), 0);
        int[][] bad = {{-1, 0, 0, 0}, {10, 0, 0, 0}, {11, 0, 0, 0}, {3, -1, 0, 0}, {3, 12, 0, 0}, {3, 0, -1, 0}, {3, 0, 12, 0}, {3, 0, 0, 501},
            {3, 0, 0, -501}, {3, 0, 0, Integer.MAX_VALUE}, {3, 0, 0, Integer.MIN_VALUE}, {Integer.MAX_VALUE, 0, 0, 0},
            {Integer.MIN_VALUE, 0, 0, 0}, {3, Integer.MAX_VALUE, 0, 0}, {3, 0, Integer.MIN_VALUE, 0}};
        for (int[] b : bad) {
            due("gauge(" + b[0] + ", " + b[1] + ", " + b[2] + ", " + b[3] + ")", r.gauge(b[0], b[1], b[2], b[3]), -2);
            due("it is not read", r.lies(0), 0);
        }
    }

    private static void liesTold() {
        Sentences.holds(28, "GAUGES that are read and belied (their CELL is DUG, or its WARM is other by more than told, 0 .. 99), as bits.");
        FrostRing r = Check.ring("shaft 5 5 to 6 5;");
        due("none is read", r.lies(0), 0);
        r.gauge(0, 0, 0, 100);
        r.gauge(1, 0, 0, 101);
        r.gauge(2, 0, 0, 99);
        r.gauge(7, 11, 11, 199);
        r.gauge(8, 11, 11, 1);
        r.gauge(9, 11, 11, 200);
        due("lies(0)", r.lies(0), 2 + 4 + 128 + 256 + 512);
        due("lies(1)", r.lies(1), 128 + 256 + 512);
        due("lies(98)", r.lies(98), 128 + 256 + 512);
        due("lies(99)", r.lies(99), 512);
        r.gauge(9, 5, 5, 100);
        due("lies(99)", r.lies(99), 0);
        r.dig(6, 5);
        due("another is DUG", r.lies(99), 0);
        r.dig(5, 5);
        due("its CELL is DUG", r.lies(99), 512);
        due("its CELL is DUG", r.lies(0), 2 + 4 + 128 + 256 + 512);
        r.gauge(9, 0, 0, 100);
        due("read elsewhere", r.lies(99), 0);
        r = Check.ring("far 1;pipe 0 0 at -400 lead 60;");
        r.gauge(0, 0, 0, 1);
        due("as warm as read", r.lies(0), 0);
        r.tick(1);
        due("WARM has gone to -139", r.lies(99), 1);
        r.gauge(0, 0, 0, -238);
        due("other by 99", r.lies(99), 0);
        due("other by more than 98", r.lies(98), 1);
        Sentences.holds(28, "-2: another number.");
        for (int by : new int[] {-1, 100, 101, Integer.MAX_VALUE, Integer.MIN_VALUE}) {
            due("lies(" + by + ")", r.lies(by), -2);
        }
    }
}
