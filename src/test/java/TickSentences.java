import java.util.List;

/** The sentences of I and of promises 6 to 11: CELLS, TICKS, HEAT, PIPES and COLD. */
final class TickSentences {
    private static final int NONE = FrostRing.NONE;
    private static final int NOTHING = Check.NOTHING;

    /** Ground that leads nothing, so that each CELL is alone. */
    private static final String ALONE = "ground 0 lead 0 ice 0 latent 999 mark 0;";

    private TickSentences() {
    }

    static void all() {
        numbersOfCells();
        groundsNotTold();
        bitsOfACell();
        frozenAtLatent();
        dugTakesPartInNothing();
        leads();
        allAtOnce();
        fromBeside();
        byTheLesserLead();
        overTheRim();
        inAStream();
        fromTheLeft();
        bySpeed();
        whatAPipeTakes();
        coldIsShared();
        heatBelowNought();
        heatAboveNought();
        ticksGoBy();
        otherTicks();
        beyondTheLastTick();
        cellsTold();
        otherCells();
        heatTold();
        otherHeat();
        runs();
        otherRuns();
        pipesTold();
        otherPipes();
        coldBecomes();
        otherCold();
    }

    private static void due(String call, long got, long want) {
        Sentences.due(call, got, want);
    }

    private static void warmAndIce(FrostRing r, int x, int y, int warm, int ice) {
        due("WARM of " + x + ", " + y, r.cell(x, y, 1), warm);
        due("ICE of " + x + ", " + y, r.cell(x, y, 2), ice);
    }

    /** All CELLS but those that are named are as warm as FAR. */
    private static void othersStay(FrostRing r, int... cells) {
        for (int c = 0; c < 144; c++) {
            boolean other = true;
            for (int named : cells) {
                other &= named != c;
            }
            if (other) {
                due("WARM of " + c, r.cell(c % 12, c / 12, 1), r.count(11));
            }
        }
    }

    // ---- I: what a CELL is

    private static void numbersOfCells() {
        Sentences.holds(7, "I. CELLS at x, y (0 .. 11 each), number 12 * y + x; y grows downward.");
        int[][] places = {{0, 0, 0}, {11, 0, 11}, {0, 1, 12}, {3, 4, 51}, {4, 3, 40}, {0, 11, 132}, {11, 11, 143}};
        for (int[] p : places) {
            FrostRing r = Check.ring("pipe " + p[0] + " " + p[1] + " at -400 lead 60;");
            due("its number", r.pipe(0, 0), p[2]);
            due("the PIPE there", r.cell(p[0], p[1], 4), 0);
            r.tick(1);
            due("the coldest", r.most(0), p[2]);
        }
        FrostRing r = new FrostRing();
        due("no CELL", r.cell(12, 0, 1), NOTHING);
        due("no CELL", r.cell(0, 12, 1), NOTHING);
    }

    private static void groundsNotTold() {
        Sentences.holds(6, "GROUNDS 0 .. 3: lead, ice, latent, mark; one that is not told: 10, 15, 100, 0.");
        for (int g = 0; g < 4; g++) {
            String lay = "lay 0 0 to 11 11 ground " + g + ";";
            FrostRing r = Check.ring(lay + "pipe 0 0 at -100 lead 50;");
            r.tick(2);
            // 4 * 100 * 10 / 100 come, 50 are taken, and the mark is 0
            warmAndIce(r, 0, 0, 0, 10);
            r = Check.ring(lay + "far 20;pipe 0 0 at -400 lead 60;");
            r.tick(1);
            // 252 are taken: 20 of WARM, 100 freeze, 132 are left
            warmAndIce(r, 0, 0, -132, 100);
            due("FROZEN", r.cell(0, 0, 3), 1);
            r.tick(1);
            // 2 * 152 * 10 / 100, then 2 * 152 * 15 / 100 over the RIM come, 160 are taken
            warmAndIce(r, 0, 0, -218, 100);
            due("over the RIM", r.heat(2), 44);
        }
    }

    private static void bitsOfACell() {
        Sentences.holds(7, "A CELL has a GROUND (0 if none was laid), WARM (in tenths), ICE (0 .. latent).");
        FrostRing r = Check.ring("ground 0 lead 15 ice 15 latent 5 mark 0;far 100;pipe 0 5 at -100 lead 60;lay 3 3 to 3 3 ground 1;");
        due("laid", r.cell(3, 3, 0), 1);
        due("none was laid", r.cell(4, 3, 0), 0);
        warmAndIce(r, 0, 5, 100, 0);
        r.tick(1);
        // 120 are taken: 100 of WARM, 5 freeze and not more
        warmAndIce(r, 0, 5, -15, 5);
        r.run(0, false);
        r.tick(1);
        // 4 * 115 * 15 / 100 come: 15 of WARM, 5 thaw and not more, 48 are left
        warmAndIce(r, 0, 5, 48, 0);
        r.tick(1);
        due("ICE not below 0", r.cell(0, 5, 2), 0);
    }

    private static void frozenAtLatent() {
        Sentences.holds(7, "It is FROZEN if its ICE is its latent.");
        for (int latent = 9; latent <= 11; latent++) {
            FrostRing r = Check.ring("ground 0 lead 0 ice 0 latent " + latent + " mark 0;far 1;pipe 5 5 at -9 lead 60;");
            due("not FROZEN", r.cell(5, 5, 3), 0);
            r.tick(1);
            warmAndIce(r, 5, 5, 0, 5);
            due("not FROZEN yet", r.cell(5, 5, 3), 0);
            r.tick(1);
            due("ICE is 10 at most", r.cell(5, 5, 2), Math.min(10, latent));
            due("FROZEN with latent " + latent, r.cell(5, 5, 3), latent <= 10 ? 1 : 0);
            due("frost(5)", r.frost(5), latent <= 10 ? 32 : 0);
            due("FROZEN CELLS", r.count(3), latent <= 10 ? 1 : 0);
        }
        FrostRing r = Check.ring("ground 0 lead 0 ice 0 latent 1 mark 0;far 1;pipe 5 5 at -3 lead 50;");
        r.tick(1);
        warmAndIce(r, 5, 5, 0, 1);
        due("FROZEN with the least latent", r.cell(5, 5, 3), 1);
        due("another is not", r.cell(5, 6, 3), 0);
    }

    private static void dugTakesPartInNothing() {
        Sentences.holds(17, "DUG CELLS take part in nothing.");
        FrostRing r = Check.ring("shaft 5 5 to 6 5;pipe 5 5 at -400 lead 60;stream 5 speed 20;dig if lift > 9;house 7 limit 0;");
        r.gauge(0, 5, 5, -100);
        r.tick(1);
        due("FROZEN", r.cell(5, 5, 3), 1);
        due("the coldest", r.most(0), 65);
        due("a RULE lets it", r.dig(5, 5), 1);
        due("HEAT of all", r.heat(0), 14300);
        due("WARM -100 less ICE 100 are gone", r.heat(4), -200);
        due("FROZEN CELLS", r.count(3), 0);
        due("frost(5)", r.frost(5), 0);
        due("lift(5)", r.lift(5), 0);
        due("the greatest LIFT", r.lacks(0), 1);
        due("the coldest of the others", r.most(0), 0);
        due("its GAUGE is belied", r.lies(99), 1);
        due("tick(1)", r.tick(1), 2);
        due("its PIPE takes nothing", r.pipe(0, 4), 0);
        due("PIPES took", r.heat(1), 300);
        due("its WARM", r.cell(5, 5, 1), -100);
        due("no STREAM", r.heat(3), 0);
        othersStay(r, 65);
        due("HEAT of all", r.heat(0), 14300);
    }

    private static void leads() {
        Sentences.holds(6, "Its LEAD: ice as it is FROZEN, lead else.");
        // 500 * 60 / 100 are taken: 100, 10, 190
        String cold = "far 100;pipe 0 5 at -400 lead 60;";
        FrostRing r = Check.ring("ground 0 lead 10 ice 0 latent 10 mark 0;" + cold);
        r.tick(1);
        warmAndIce(r, 0, 5, -190, 10);
        r.run(0, false);
        r.tick(1);
        warmAndIce(r, 0, 5, -190, 10);
        othersStay(r, 60);
        r = Check.ring("ground 0 lead 0 ice 10 latent 10 mark 0;" + cold);
        r.tick(1);
        r.run(0, false);
        r.tick(1);
        due("29 come over the RIM alone", r.cell(0, 5, 1), -161);
        othersStay(r, 60);
        r = Check.ring("ground 0 lead 0 ice 10 latent 301 mark 0;" + cold);
        r.tick(1);
        r.run(0, false);
        r.tick(1);
        due("it is not FROZEN yet", r.cell(0, 5, 2), 200);
        due("nothing comes", r.heat(2), 0);
    }

    // ---- I: a TICK

    private static void allAtOnce() {
        Sentences.holds(6, "A TICK: HEAT comes to each CELL that is not DUG, by what all are ahead of it:");
        int[][] places = {{5, 5}, {6, 5}, {5, 6}, {6, 6}};
        for (int[] p : places) {
            FrostRing r = Check.ring("pipe " + p[0] + " " + p[1] + " at -100 lead 50;stream " + p[1] + " speed 10;");
            r.tick(1);
            int c = 12 * p[1] + p[0];
            // the PIPE's CELL has lost 100; the others saw it as it was ahead of that
            othersStay(r, c);
            r.tick(1);
            othersStay(r, c, c + 1, c - 1, c + 12, c - 12);
            due("right, and by the STREAM", r.cell(p[0] + 1, p[1], 1), 80);
            due("left", r.cell(p[0] - 1, p[1], 1), 90);
            due("above", r.cell(p[0], p[1] - 1, 1), 90);
            due("below", r.cell(p[0], p[1] + 1, 1), 90);
            // four times 10 and 10 by the STREAM come, 50 are taken
            warmAndIce(r, p[0], p[1], 0, 0);
        }
    }

    private static void fromBeside() {
        Sentences.holds(6, "(1) from each CELL beside (right, left, above, below) that is not DUG:");
        int[][] sides = {{6, 5}, {4, 5}, {5, 4}, {5, 6}};
        FrostRing r = Check.ring("pipe 5 5 at -100 lead 50;");
        r.tick(2);
        warmAndIce(r, 5, 5, 0, 10);
        for (int[] s : sides) {
            due("WARM of " + s[0] + ", " + s[1], r.cell(s[0], s[1], 1), 90);
        }
        for (int[] s : sides) {
            String shaft = "shaft " + s[0] + " " + s[1] + " to " + s[0] + " " + s[1] + ";";
            r = Check.ring(shaft + "pipe 5 5 at -100 lead 50;");
            due("dig", r.dig(s[0], s[1]), 0);
            r.tick(2);
            due("three of 10 come", r.cell(5, 5, 2), 20);
            due("nothing goes from a DUG CELL", r.cell(s[0], s[1], 1), 100);
            due("HEAT of all", r.heat(0), 14300 - r.heat(1));
        }
        // the last CELL of a row is not beside the first of the next
        r = Check.ring("pipe 11 5 at -100 lead 50;");
        r.tick(2);
        othersStay(r, 71, 70, 59, 83);
        r = Check.ring("pipe 0 6 at -100 lead 50;");
        r.tick(2);
        othersStay(r, 72, 73, 60, 84);
    }

    private static void byTheLesserLead() {
        Sentences.holds(6, "the other's WARM less its own, times the lesser LEAD of both, by 100 (to the nought);");
        String three = "ground 1 lead 3 ice 15 latent 100 mark 0;";
        FrostRing r = Check.ring(three + "lay 6 5 to 6 5 ground 1;pipe 5 5 at -100 lead 50;");
        r.tick(2);
        due("3 * 10 and 3 come, 50 are taken", r.cell(5, 5, 2), 17);
        due("the lesser is the other's own", r.cell(6, 5, 1), 97);
        due("the lesser is the same", r.cell(4, 5, 1), 90);
        r = Check.ring(three + "lay 5 5 to 5 5 ground 1;pipe 5 5 at -100 lead 50;");
        r.tick(2);
        due("4 * 3 come", r.cell(5, 5, 2), 38);
        due("the lesser is that of the PIPE's CELL", r.cell(6, 5, 1), 97);
        // 9 * 10 / 100 is nothing, whichever way
        r = Check.ring("far 10;pipe 5 5 at -6 lead 60;");
        r.tick(1);
        due("9 are taken", r.cell(5, 5, 1), 1);
        r.run(0, false);
        r.tick(1);
        due("nothing comes", r.cell(5, 5, 1), 1);
        othersStay(r, 65);
        r = Check.ring("far 10;pipe 5 5 at -7 lead 60;");
        r.tick(1);
        due("10 are taken", r.cell(5, 5, 1), 0);
        r.run(0, false);
        r.tick(1);
        due("four of 1 come", r.cell(5, 5, 1), 4);
        due("1 goes", r.cell(6, 5, 1), 9);
        due("1 goes", r.cell(5, 4, 1), 9);
        r = Check.ring("far 19;pipe 5 5 at -13 lead 60;");
        r.tick(1);
        due("19 are taken", r.cell(5, 5, 1), 0);
        r.run(0, false);
        r.tick(1);
        due("19 * 10 / 100 is 1", r.cell(5, 5, 1), 4);
        due("and not 2 that go", r.cell(6, 5, 1), 18);
    }

    private static void overTheRim() {
        Sentences.holds(6, "(2) over the RIM, once for each side of the grid at which it stands:");
        int[][] sides = {{0, 0, 2}, {11, 0, 2}, {0, 11, 2}, {11, 11, 2}, {5, 0, 1}, {0, 5, 1}, {11, 5, 1}, {5, 11, 1}, {1, 0, 1},
            {0, 10, 1}, {5, 5, 0}, {1, 1, 0}, {10, 10, 0}, {10, 1, 0}, {1, 10, 0}};
        for (int[] s : sides) {
            FrostRing r = Check.ring("pipe " + s[0] + " " + s[1] + " at -100 lead 50;");
            r.tick(2);
            due("over the RIM at " + s[0] + ", " + s[1], r.heat(2), 10 * s[2]);
            due("10 from each of four sides", r.cell(s[0], s[1], 2), 10);
        }
        Sentences.holds(6, "FAR less its WARM, times its LEAD, by 100 (to the nought);");
        int[][] reckoned = {{100, 1, 0, 1}, {99, 1, 0, 0}, {100, 15, 0, 15}, {99, 15, 0, 14}, {300, 0, 0, 0}, {7, 14, 0, 0}, {8, 13, 0, 1}};
        for (int[] k : reckoned) {
            FrostRing r = Check.ring(ALONE + "ground 1 lead " + k[1] + " ice 0 latent 999 mark 0;lay 5 0 to 5 0 ground 1;far " + k[0]
                + ";pipe 5 0 at -400 lead 60;");
            r.tick(1);
            due("at the mark", r.cell(5, 0, 1), k[2]);
            r.tick(1);
            due("FAR " + k[0] + ", LEAD " + k[1], r.heat(2), k[3]);
        }
    }

    private static void inAStream() {
        Sentences.holds(6, "(3) in a row with a STREAM, if it is not FROZEN:");
        String still = "ground 0 lead 0 ice 0 latent 1 mark 0;far 100;";
        for (int y : new int[] {0, 5, 11}) {
            FrostRing r = Check.ring(ALONE + "stream " + y + " speed 10;pipe 3 " + y + " at 0 lead 50;");
            r.tick(2);
            due("the next one", r.cell(4, y, 1), 95);
            othersStay(r, 12 * y + 3, 12 * y + 4);
            r = Check.ring(ALONE + "stream " + (y + 1) % 12 + " speed 10;pipe 3 " + y + " at 0 lead 50;");
            r.tick(2);
            due("of another row", r.heat(3), 0);
            othersStay(r, 12 * y + 3);
        }
        FrostRing r = Check.ring(still + "stream 5 speed 10;pipe 3 5 at -400 lead 60;");
        r.tick(1);
        warmAndIce(r, 3, 5, -199, 1);
        r.run(0, false);
        r.tick(1);
        due("FROZEN, it gets nothing", r.cell(3, 5, 1), -199);
        due("nothing is brought", r.heat(3), 0);
        r = Check.ring(ALONE + "stream 5 speed 0;pipe 3 5 at 0 lead 50;");
        r.tick(9);
        due("the least speed", r.heat(3), 0);
        r = Check.ring(ALONE + "stream 5 speed 30;pipe 3 5 at 0 lead 50;");
        r.tick(2);
        due("the greatest speed", r.cell(4, 5, 1), 85);
    }

    private static void fromTheLeft() {
        Sentences.holds(6, "from the left: the WARM of the CELL to the left (FAR for x 0; none if that is FROZEN or DUG)");
        String still = "ground 0 lead 0 ice 0 latent 1 mark 0;far 100;";
        FrostRing r = Check.ring(ALONE + "stream 5 speed 10;pipe 0 5 at 0 lead 50;");
        r.tick(1);
        r.run(0, false);
        r.tick(1);
        due("FAR for x 0", r.cell(0, 5, 1), 55);
        due("from x 0 to x 1", r.cell(1, 5, 1), 95);
        othersStay(r, 60, 61);
        due("brought in all", r.heat(3), 0);
        r = Check.ring(ALONE + "stream 5 speed 10;stream 6 speed 10;pipe 11 5 at 0 lead 50;");
        r.tick(1);
        r.run(0, false);
        r.tick(1);
        due("to x 11", r.cell(11, 5, 1), 55);
        othersStay(r, 71);
        due("brought in all", r.heat(3), 5);
        r = Check.ring(still + "stream 5 speed 10;pipe 3 5 at -400 lead 60;");
        r.tick(2);
        due("none from a FROZEN one", r.cell(4, 5, 1), 100);
        r = Check.ring(ALONE + "shaft 3 5 to 3 5;stream 5 speed 10;pipe 3 5 at 0 lead 50;");
        r.tick(1);
        due("dig(3, 5)", r.dig(3, 5), 0);
        r.tick(1);
        due("none from a DUG one", r.cell(4, 5, 1), 100);
        due("none to a DUG one", r.cell(3, 5, 1), 50);
        due("brought in all", r.heat(3), 0);
    }

    private static void bySpeed() {
        Sentences.holds(6, "less its own, times the speed, by 100 (to the nought);");
        FrostRing r = Check.ring(ALONE + "stream 5 speed 10;pipe 0 5 at 0 lead 50;");
        r.tick(1);
        r.run(0, false);
        r.tick(2);
        due("50 * 10 / 100, then 45 * 10 / 100", r.cell(0, 5, 1), 59);
        due("-50 * 10 / 100, then -40 * 10 / 100", r.cell(1, 5, 1), 91);
        due("-5 * 10 / 100 is nothing", r.cell(2, 5, 1), 100);
        due("brought in all", r.heat(3), 0);
        r = Check.ring(ALONE + "stream 5 speed 30;pipe 0 5 at 0 lead 3;");
        r.tick(1);
        due("3 are taken", r.cell(0, 5, 1), 97);
        r.run(0, false);
        r.tick(1);
        due("3 * 30 / 100 is nothing", r.cell(0, 5, 1), 97);
        due("nor is -3 * 30 / 100", r.cell(1, 5, 1), 100);
        for (int taken = 99; taken <= 101; taken++) {
            r = Check.ring(ALONE + "far 300;stream 5 speed 1;pipe 0 5 at -" + (4 * taken - 300) + " lead 25;");
            r.tick(1);
            due("so much is taken", r.cell(0, 5, 1), 300 - taken);
            r.run(0, false);
            r.tick(1);
            due(taken + " * 1 / 100", r.cell(0, 5, 1), 300 - taken + taken / 100);
            due("-" + taken + " * 1 / 100", r.cell(1, 5, 1), 300 - taken / 100);
        }
    }

    private static void whatAPipeTakes() {
        Sentences.holds(6, "(4) a PIPE in it that runs takes away its WARM less what runs through, if that is above 0, "
            + "times the PIPE's lead, by 100 (rounded down).");
        int[][] reckoned = {{100, 0, 50, 50}, {1, 0, 60, 0}, {2, 0, 60, 1}, {100, 0, 0, 0}, {100, 0, 1, 1}, {99, 0, 1, 0},
            {300, -400, 60, 420}, {67, 0, 33, 22}, {1, -400, 60, 240}};
        for (int[] k : reckoned) {
            FrostRing r = Check.ring(ALONE + "far " + k[0] + ";pipe 5 5 at " + k[1] + " lead " + k[2] + ";");
            r.tick(1);
            due("WARM " + k[0] + " at " + k[1] + " lead " + k[2], r.pipe(0, 4), k[3]);
            due("it is gone", r.heat(0), 144 * k[0] - k[3]);
            r = Check.ring(ALONE + "far " + k[0] + ";pipe 5 5 at " + k[1] + " lead " + k[2] + ";");
            r.run(0, false);
            r.tick(1);
            due("it does not run", r.heat(1), 0);
        }
        // the second PIPE's CELL is cooled by the first one's, and is colder than what runs through
        FrostRing r = Check.ring("ground 0 lead 15 ice 15 latent 1 mark 0;far 1;pipe 5 5 at -400 lead 60;pipe 6 5 at 0 lead 60;");
        r.tick(2);
        due("below what runs through", r.cell(6, 5, 1), -33);
        r.tick(1);
        due("it takes nothing", r.pipe(1, 4), 0);
        due("nor gives", r.pipe(1, 5), 0);
    }

    private static void coldIsShared() {
        Sentences.holds(11, "If all PIPES together would take more than COLD, each takes so much times COLD by all, rounded down.");
        int[][] shared = {{150, 100, 50}, {151, 100, 50}, {149, 99, 49}, {148, 98, 49}, {75, 50, 25}, {3, 2, 1}, {2, 1, 0}, {1, 0, 0},
            {0, 0, 0}, {99999, 100, 50}};
        for (int[] k : shared) {
            FrostRing r = Check.ring(ALONE + "pipe 2 2 at -100 lead 50;pipe 8 8 at 0 lead 50;cold " + k[0] + ";");
            r.tick(1);
            due("100 of COLD " + k[0], r.pipe(0, 4), k[1]);
            due("50 of COLD " + k[0], r.pipe(1, 4), k[2]);
            due("in all", r.heat(1), k[1] + k[2]);
        }
        FrostRing least = Check.ring(ALONE + "far 2;pipe 2 2 at 0 lead 60;cold 0;");
        least.tick(1);
        due("1 of COLD 0", least.pipe(0, 4), 0);
        least.cold(1);
        least.tick(1);
        due("1 of COLD 1", least.pipe(0, 4), 1);
        // twelve of 420 each
        StringBuilder twelve = new StringBuilder(ALONE + "far 300;");
        for (int i = 0; i < 12; i++) {
            twelve.append("pipe " + i + " 3 at -400 lead 60;");
        }
        FrostRing r = Check.ring(twelve + "cold 5040;");
        r.tick(1);
        due("just enough for twelve", r.pipe(11, 4), 420);
        r = Check.ring(twelve + "cold 5039;");
        r.tick(1);
        due("one too few", r.pipe(11, 4), 419);
        due("in all", r.heat(1), 5028);
        r = Check.ring(ALONE + "pipe 2 2 at -100 lead 50;pipe 8 8 at 0 lead 50;cold 100;");
        r.run(0, false);
        r.tick(1);
        due("one that does not run would take nothing", r.pipe(1, 4), 50);
    }

    private static void heatBelowNought() {
        Sentences.holds(6, "HEAT that is below 0: as far as WARM is above the mark it falls; what is left over freezes ICE, "
            + "as far as there is room; what is left then lowers WARM.");
        String ground = "ground 0 lead 0 ice 0 latent 5 mark -7;far 1;";
        FrostRing r = Check.ring(ground + "pipe 5 5 at -19 lead 40;");
        int[][] reckoned = {{-7, 0}, {-7, 4}, {-10, 5}, {-13, 5}};
        for (int[] k : reckoned) {
            r.tick(1);
            warmAndIce(r, 5, 5, k[0], k[1]);
        }
        r = Check.ring(ground + "pipe 5 5 at -400 lead 60;");
        r.tick(1);
        warmAndIce(r, 5, 5, -234, 5);
        r = Check.ring(ground + "pipe 5 5 at -25 lead 50;");
        r.tick(1);
        warmAndIce(r, 5, 5, -7, 5);
        r = Check.ring(ground + "pipe 5 5 at -23 lead 50;");
        r.tick(1);
        warmAndIce(r, 5, 5, -7, 4);
        r = Check.ring(ground + "pipe 5 5 at -13 lead 50;");
        r.tick(1);
        warmAndIce(r, 5, 5, -6, 0);
    }

    private static void heatAboveNought() {
        Sentences.holds(6, "Above 0: as far as WARM is below the mark it rises; what is left over thaws ICE; then WARM rises.");
        FrostRing r = Check.ring(ALONE + "ground 1 lead 10 ice 10 latent 5 mark -7;lay 0 5 to 0 5 ground 1;far 100;"
            + "pipe 0 5 at -350 lead 30;");
        r.tick(1);
        // 135 are taken: 107, 5, 23
        warmAndIce(r, 0, 5, -30, 5);
        r.run(0, false);
        int[][] reckoned = {{-17, 5}, {-7, 4}, {-1, 0}, {9, 0}};
        for (int[] k : reckoned) {
            r.tick(1);
            warmAndIce(r, 0, 5, k[0], k[1]);
        }
        Sentences.holds(8, "HEAT of a CELL: WARM less ICE.");
        r = Check.ring("ground 0 lead 0 ice 0 latent 5 mark -7;far 1;pipe 5 5 at -400 lead 60;");
        due("of all, as warm as FAR", r.heat(0), 144);
        r.tick(1);
        due("-234 and 5", r.heat(0), 143 - 239);
    }

    // ---- promise 6

    private static final String MANY = "far 60;shaft 4 4 to 6 5;pipe 4 3 at -300 lead 60;pipe 6 3 at -200 lead 50;cold 250;"
        + "stream 3 speed 12;stream 7 speed 30;house 3 limit 1;house 6 limit 4;ground 2 lead 3 ice 9 latent 40 mark -5;"
        + "lay 3 2 to 6 3 ground 2;dig if tick < 7;";

    private static void ticksGoBy() {
        Sentences.holds(6, "n TICKS (1 .. 40) go by: the TICK then.");
        FrostRing one = Check.ring(MANY);
        FrostRing many = Check.ring(MANY);
        one.dig(4, 4);
        many.dig(4, 4);
        due("tick(1)", one.tick(1), 1);
        due("tick(1)", many.tick(1), 1);
        for (int i = 2; i <= 41; i++) {
            due("tick(1)", one.tick(1), i);
        }
        due("tick(40)", many.tick(40), 41);
        Sentences.same("forty at once", Sentences.look(many), Sentences.look(one));
        due("count(1)", many.count(1), 41);
        due("something froze", many.count(3) > 0 ? 1 : 0, 1);
        due("a HOUSE CRACKED between them", many.house(0, 2), one.house(0, 2));
    }

    private static void otherTicks() {
        Sentences.holds(6, "-2: another n;");
        FrostRing r = Check.ring(MANY);
        r.tick(3);
        List<Integer> ahead = Sentences.look(r);
        for (int n : new int[] {0, -1, 41, 42, Integer.MAX_VALUE, Integer.MIN_VALUE}) {
            due("tick(" + n + ")", r.tick(n), -2);
            Sentences.same("nothing is done", Sentences.look(r), ahead);
        }
    }

    private static void beyondTheLastTick() {
        Sentences.holds(6, "-3: beyond TICK 2000 (nothing is done).");
        FrostRing r = Check.ring(MANY);
        for (int i = 1; i <= 49; i++) {
            due("tick(40)", r.tick(40), 40 * i);
        }
        due("tick(39)", r.tick(39), 1999);
        List<Integer> ahead = Sentences.look(r);
        for (int n : new int[] {2, 3, 40}) {
            due("tick(" + n + ")", r.tick(n), -3);
            Sentences.same("nothing is done", Sentences.look(r), ahead);
        }
        due("another n, ahead of that", r.tick(41), -2);
        due("the last one", r.tick(1), 2000);
        due("one more", r.tick(1), -3);
        due("another n, ahead of that", r.tick(0), -2);
        due("TICK", r.count(1), 2000);
        due("a new TEXT", Check.tell(r, MANY), 12);
        due("begins at 0", r.tick(40), 40);
        r = new FrostRing();
        for (int i = 1; i <= 50; i++) {
            due("just to the last one", r.tick(40), 40 * i);
        }
        due("40 more", r.tick(40), -3);
    }

    // ---- promises 7 and 8

    private static void cellsTold() {
        Sentences.holds(7, "Of a CELL, what 0: its GROUND, 1: WARM, 2: ICE, 3: 1 if it is FROZEN, 2 if it is DUG, 0 else; "
            + "4: its PIPE (NONE), 5: 1 if it is of the SHAFT, 0.");
        FrostRing r = Check.ring("far 1;shaft 5 5 to 5 5;pipe 0 0 at 0 lead 0;pipe 5 5 at -400 lead 60;lay 5 5 to 6 5 ground 2;");
        r.tick(1);
        int[][] want = {{0, 0, 0, 1, 0, 0, 0, 0}, {5, 5, 2, -139, 100, 1, 1, 1}, {6, 5, 2, 1, 0, 0, NONE, 0}, {11, 11, 0, 1, 0, 0, NONE, 0}};
        for (int[] k : want) {
            for (int what = 0; what < 6; what++) {
                due("cell(" + k[0] + ", " + k[1] + ", " + what + ")", r.cell(k[0], k[1], what), k[what + 2]);
            }
        }
        due("dig(5, 5)", r.dig(5, 5), 0);
        due("DUG, and not FROZEN", r.cell(5, 5, 3), 2);
        due("of the SHAFT", r.cell(5, 5, 5), 1);
        due("its PIPE", r.cell(5, 5, 4), 1);
    }

    private static void otherCells() {
        Sentences.holds(7, "NOTHING (-2,000,000,000) for others.");
        FrostRing r = new FrostRing();
        int[] out = {-1, 12, 144, Integer.MAX_VALUE, Integer.MIN_VALUE};
        for (int o : out) {
            for (int what = 0; what < 6; what++) {
                due("x " + o, r.cell(o, 0, what), -2000000000);
                due("x " + o + ", the last row", r.cell(o, 11, what), -2000000000);
                due("y " + o, r.cell(0, o, what), -2000000000);
                due("y " + o + ", the last column", r.cell(11, o, what), -2000000000);
                due("both " + o, r.cell(o, o, what), -2000000000);
            }
        }
        for (int what : new int[] {-1, 6, 7, Integer.MAX_VALUE, Integer.MIN_VALUE}) {
            due("what " + what, r.cell(0, 0, what), -2000000000);
        }
        due("the CELL of number 12 is not at 12, 0", r.cell(12, 0, 1), NOTHING);
        due("the CELL of number 11 is not at -1, 1", r.cell(-1, 1, 1), NOTHING);
    }

    private static void heatTold() {
        Sentences.holds(8, "HEAT, what 0: of all CELLS now, 1: taken by PIPES since the TEXT, 2: come in over the RIM, "
            + "3: brought by STREAMS, 4: gone with what was DUG, 5: as it was behind the TEXT.");
        FrostRing r = Check.ring("far 100;shaft 5 5 to 5 5;pipe 5 5 at -100 lead 50;pipe 0 0 at 0 lead 50;pipe 11 5 at 0 lead 50;stream 5 speed 10;");
        int[] asNew = {14400, 0, 0, 0, 0, 14400};
        for (int what = 0; what < 6; what++) {
            due("heat(" + what + ") behind the TEXT", r.heat(what), asNew[what]);
        }
        r.tick(1);
        int[] once = {14200, 200, 0, 0, 0, 14400};
        for (int what = 0; what < 6; what++) {
            due("heat(" + what + ") behind a TICK", r.heat(what), once[what]);
        }
        r.tick(1);
        // 50, 25, 25 are taken; 2 * 5 at the corner and 5 at the side come over the RIM; the STREAM brings 10, -10 and 5
        int[] twice = {14200 - 100 + 15 + 5, 300, 15, 5, 0, 14400};
        for (int what = 0; what < 6; what++) {
            due("heat(" + what + ") behind two", r.heat(what), twice[what]);
        }
        int gone = r.cell(5, 5, 1) - r.cell(5, 5, 2);
        due("dig(5, 5)", r.dig(5, 5), 0);
        due("gone with it", r.heat(4), gone);
        due("of all now", r.heat(0), twice[0] - gone);
        due("as it was behind the TEXT", r.heat(5), 14400);
        for (int t = 0; t < 30; t++) {
            r.tick(1);
            due("all in all", r.heat(0), r.heat(5) - r.heat(1) + r.heat(2) + r.heat(3) - r.heat(4));
        }
        due("gone once", r.heat(4), gone);
    }

    private static void otherHeat() {
        Sentences.holds(8, "NOTHING for others.");
        FrostRing r = new FrostRing();
        for (int what : new int[] {-1, 6, 7, Integer.MAX_VALUE, Integer.MIN_VALUE}) {
            due("heat(" + what + ")", r.heat(what), NOTHING);
        }
    }

    // ---- promises 9 to 11

    private static String twelvePipes() {
        StringBuilder all = new StringBuilder(ALONE);
        for (int i = 0; i < 12; i++) {
            all.append("pipe " + i + " " + i + " at -" + i + " lead " + (i + 20) + ";");
        }
        return all.toString();
    }

    private static void runs() {
        Sentences.holds(9, "PIPE p runs or not: true if it was otherwise.");
        FrostRing r = Check.ring(twelvePipes());
        for (int p : new int[] {0, 5, 11}) {
            Sentences.due("run(" + p + ", true), running", r.run(p, true), false);
            Sentences.due("run(" + p + ", false)", r.run(p, false), true);
            due("it does not run", r.pipe(p, 3), 0);
            Sentences.due("run(" + p + ", false) again", r.run(p, false), false);
            due("still not", r.pipe(p, 3), 0);
        }
        due("the others run", r.pipe(1, 3) + r.pipe(10, 3), 2);
        r.tick(1);
        due("it took nothing", r.pipe(11, 5), 0);
        Sentences.due("run(11, true)", r.run(11, true), true);
        due("it runs", r.pipe(11, 3), 1);
        r.tick(1);
        due("it takes 111 * 31 / 100", r.pipe(11, 4), 34);
    }

    private static void otherRuns() {
        Sentences.holds(9, "False for others.");
        FrostRing r = Check.ring(twelvePipes());
        List<Integer> ahead = Sentences.look(r);
        for (int p : new int[] {12, 13, 17, 18, -1, Integer.MAX_VALUE, Integer.MIN_VALUE}) {
            Sentences.due("run(" + p + ", false)", r.run(p, false), false);
            Sentences.due("run(" + p + ", true)", r.run(p, true), false);
        }
        Sentences.same("nothing happens", Sentences.look(r), ahead);
        r = Check.ring("pipe 0 0 at 0 lead 1;");
        Sentences.due("of one PIPE the second", r.run(1, false), false);
        Sentences.due("without PIPES", new FrostRing().run(0, false), false);
    }

    private static void pipesTold() {
        Sentences.holds(10, "Of PIPE p, what 0: its CELL, 1: what runs through, 2: its lead, 3: whether it runs (1, 0), "
            + "4: HEAT that it took in the latest TICK, 5: in all.");
        FrostRing r = Check.ring(twelvePipes());
        for (int p = 0; p < 12; p++) {
            int[] want = {13 * p, -p, p + 20, 1, 0, 0};
            for (int what = 0; what < 6; what++) {
                due("pipe(" + p + ", " + what + ")", r.pipe(p, what), want[what]);
            }
        }
        r.tick(1);
        due("100 * 20 / 100", r.pipe(0, 4), 20);
        due("in all", r.pipe(0, 5), 20);
        r.tick(1);
        due("80 * 20 / 100", r.pipe(0, 4), 16);
        due("in all", r.pipe(0, 5), 36);
        r.run(0, false);
        due("the latest TICK's still", r.pipe(0, 4), 16);
        r.tick(1);
        due("nothing in the latest TICK", r.pipe(0, 4), 0);
        due("in all, still", r.pipe(0, 5), 36);
        due("whether it runs", r.pipe(0, 3), 0);
        r.run(0, true);
        r.tick(2);
        due("64 * 20 / 100, then 52 * 20 / 100", r.pipe(0, 4), 10);
        due("in all", r.pipe(0, 5), 58);
    }

    private static void otherPipes() {
        Sentences.holds(10, "NOTHING for others.");
        FrostRing r = Check.ring(twelvePipes());
        for (int what : new int[] {-1, 6, Integer.MAX_VALUE, Integer.MIN_VALUE}) {
            due("what " + what, r.pipe(0, what), NOTHING);
        }
        for (int p : new int[] {-1, 12, 17, 18, Integer.MAX_VALUE, Integer.MIN_VALUE}) {
            for (int what = 0; what < 6; what++) {
                due("PIPE " + p, r.pipe(p, what), NOTHING);
            }
        }
        due("without PIPES", new FrostRing().pipe(0, 3), NOTHING);
    }

    private static void coldBecomes() {
        Sentences.holds(11, "COLD of the machine becomes v (0 .. 99999): what it was.");
        FrostRing r = Check.ring("pipe 5 5 at -100 lead 50;");
        due("the least", r.cold(0), 99999);
        due("count(9)", r.count(9), 0);
        r.tick(1);
        due("nothing is taken", r.heat(1), 0);
        due("7", r.cold(7), 0);
        r.tick(1);
        due("7 are taken", r.heat(1), 7);
        due("the greatest", r.cold(99999), 7);
        due("count(9)", r.count(9), 99999);
        r.tick(1);
        due("193 * 50 / 100 are taken", r.heat(1), 7 + 96);
        due("the same", r.cold(99999), 99999);
    }

    private static void otherCold() {
        Sentences.holds(11, "-2: another v.");
        FrostRing r = Check.ring("cold 5;");
        for (int v : new int[] {-1, 100000, 100001, Integer.MAX_VALUE, Integer.MIN_VALUE}) {
            due("cold(" + v + ")", r.cold(v), -2);
            due("it stays", r.count(9), 5);
        }
    }
}
