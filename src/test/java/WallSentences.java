import java.util.Arrays;
import java.util.List;

/** The sentences of II and III and of promises 12 to 19: WAYS, GAPS, how THICK the frost is, digging and floods. */
final class WallSentences {
    private static final int NONE = FrostRing.NONE;

    /** Ground that leads nothing and freezes at once, so that just the CELLS with a PIPE are FROZEN behind a TICK. */
    private static final String QUICK = "ground 0 lead 0 ice 0 latent 1 mark 0;far 1;";
    private static final String ONE = "shaft 5 5 to 5 5;";
    private static final String TWO = "shaft 5 5 to 6 5;";
    private static final int[] SIDES = {53, 64, 66, 77};
    private static final int[] OUTER = {41, 52, 54, 63, 67, 76, 78, 89};

    private WallSentences() {
    }

    static void all() {
        ways();
        shutWithoutWay();
        fewestGaps();
        nearestGaps();
        GapSentences.all();
        fewestFrozen();
        askedInAnyOrder();
        whetherShut();
        noShaft();
        shortestWay();
        toldGaps();
        rules();
        rulesWithoutShaft();
        dug();
        noneOfIt();
        noRuleLets();
        flooded();
        behindATick();
        staysFlooded();
        lacking();
        pumped();
        refusedPumps();
    }

    private static void due(String call, long got, long want) {
        Sentences.due(call, got, want);
    }

    private static String pipes(int... cells) {
        StringBuilder all = new StringBuilder();
        for (int c : cells) {
            all.append("pipe " + c % 12 + " " + c / 12 + " at -400 lead 60;");
        }
        return all.toString();
    }

    private static FrostRing frozen(String shaft, int... cells) {
        FrostRing r = Check.ring(QUICK + shaft + pipes(cells));
        r.tick(1);
        due("FROZEN CELLS", r.count(3), cells.length);
        return r;
    }

    private static int[] without(int[] cells, int left) {
        int[] rest = new int[cells.length - 1];
        int n = 0;
        for (int c : cells) {
            if (c != left) {
                rest[n++] = c;
            }
        }
        return rest;
    }

    private static int[] both(int[] some, int[] more) {
        int[] all = Arrays.copyOf(some, some.length + more.length);
        System.arraycopy(more, 0, all, some.length, more.length);
        return all;
    }

    private static void gapsAre(FrostRing r, int... cells) {
        due("gaps()", r.gaps(), cells.length);
        for (int i = 0; i < cells.length; i++) {
            due("gap(" + i + ")", r.gap(i), cells[i]);
        }
        due("no more", r.gap(cells.length), NONE);
    }

    // ---- II

    private static void ways() {
        Sentences.holds(13, "II. A WAY: CELLS one beside the other (four sides), none of the SHAFT, none FROZEN, "
            + "from one beside a CELL of the SHAFT to one at the RIM.");
        int[] lengths = {5, 5, 6, 6};
        for (int i = 0; i < 4; i++) {
            FrostRing r = frozen(ONE, without(SIDES, SIDES[i]));
            due("by " + SIDES[i] + " alone", r.way(), lengths[i]);
            due("shut()", r.shut(), 0);
        }
        due("CELLS aslant are not beside the SHAFT", frozen(ONE, SIDES).way(), NONE);
        due("nor beside one another", frozen(ONE, OUTER).way(), NONE);
        due("a hole of one CELL", frozen(ONE, without(OUTER, 76)).way(), 6);
        due("a FROZEN SHAFT is no wall", frozen(ONE, 65).way(), 5);
        due("at the RIM at once", frozen("shaft 1 5 to 1 5;").way(), 1);
        due("at the last column at once", frozen("shaft 10 5 to 10 5;", 58, 69, 82).way(), 1);
        due("at the first row at once", frozen("shaft 5 1 to 5 1;", 16, 18, 29).way(), 1);
        due("at the last row at once", frozen("shaft 5 10 to 5 10;", 124, 126, 113).way(), 1);
        due("the greatest SHAFT", frozen("shaft 1 1 to 10 10;").way(), 1);
        // along the first row of CELLS inside the RIM, and not over a FROZEN CELL at it
        due("round a corner", frozen("shaft 1 1 to 1 1;", 1, 12, 14, 24, 36, 37, 26).way(), NONE);
        due("and out", frozen("shaft 1 1 to 1 1;", 1, 12, 14, 24, 37).way(), 5);
    }

    private static void shutWithoutWay() {
        Sentences.holds(12, "SHUT: there is none.");
        due("four sides", frozen(ONE, SIDES).shut(), 1);
        for (int side : SIDES) {
            due("but " + side, frozen(ONE, without(SIDES, side)).shut(), 0);
        }
        due("further out", frozen(ONE, OUTER).shut(), 1);
        for (int side : OUTER) {
            due("but " + side, frozen(ONE, without(OUTER, side)).shut(), 0);
        }
        FrostRing r = Check.ring("ground 0 lead 0 ice 0 latent 10 mark 0;far 1;" + ONE + "pipe 5 4 at -9 lead 60;pipe 4 5 at -9 lead 60;"
            + "pipe 6 5 at -9 lead 60;pipe 5 6 at -8 lead 60;");
        r.tick(2);
        due("ICE 8 of 10 is no wall", r.cell(5, 6, 2), 8);
        due("shut()", r.shut(), 0);
        r.tick(1);
        due("shut() then", r.shut(), 1);
    }

    private static void fewestGaps() {
        Sentences.holds(14, "GAPS: the fewest CELLS that would have to be FROZEN too for it to be SHUT;");
        gapsAre(frozen(ONE), SIDES);
        for (int side : SIDES) {
            gapsAre(frozen(ONE, without(SIDES, side)), side);
        }
        gapsAre(frozen(ONE, SIDES));
        gapsAre(frozen(ONE, without(OUTER, 76)), 76);
        gapsAre(frozen(ONE, 41, 52, 63, 67, 78, 89), 54, 76);
        due("the greatest SHAFT", frozen("shaft 1 1 to 10 10;").gaps(), 40);
        due("but 12 of them", frozen("shaft 1 1 to 10 10;", 1, 2, 3, 12, 23, 24, 35, 36, 133, 134, 141, 142).gaps(), 28);
        gapsAre(frozen("shaft 1 1 to 1 1;"), 1, 12, 14, 25);
    }

    private static void nearestGaps() {
        Sentences.holds(15, "of all such sets that which leaves the fewest CELLS to go to from the SHAFT.");
        // a chamber of 53, 54, 66; 55 is its door, but 54 leaves one CELL less
        gapsAre(frozen(ONE, 64, 77, 52, 41, 42, 67, 78), 54);
        // a lane from the SHAFT to the RIM: any of its CELLS would do
        gapsAre(frozen(ONE, 64, 66, 77, 52, 54, 40, 42, 28, 30), 53);
        gapsAre(frozen(ONE, 53, 64, 66, 76, 78, 88, 90), 77);
        // two CELLS beside the SHAFT, of which one goes on to the other alone: 54 leaves one CELL, 42 behind it two
        gapsAre(frozen(TWO, 64, 67, 77, 78, 52, 55, 41), 54);
        // two open sides, and a door of two CELLS further out: as few as they are, they leave more
        gapsAre(frozen(ONE, 64, 77, 52, 67, 78), 53, 66);
    }

    private static void fewestFrozen() {
        Sentences.holds(16, "THICK: the fewest FROZEN CELLS on any row of CELLS that goes as a WAY does, but through FROZEN ones, too.");
        due("nothing FROZEN", frozen(ONE).thick(), 0);
        due("a hole", frozen(ONE, without(SIDES, 77)).thick(), 0);
        due("one", frozen(ONE, SIDES).thick(), 1);
        due("one, further out", frozen(ONE, OUTER).thick(), 1);
        due("two", frozen(ONE, both(SIDES, OUTER)).thick(), 2);
        for (int c : OUTER) {
            due("two but at " + c, frozen(ONE, both(SIDES, without(OUTER, c))).thick(), 1);
        }
        for (int c : SIDES) {
            due("two but at " + c, frozen(ONE, both(without(SIDES, c), OUTER)).thick(), 1);
        }
        due("thick ahead, thin aside", frozen(ONE, 53, 64, 66, 77, 41, 29, 63, 67, 89).thick(), 1);
        due("no straight row", frozen("shaft 1 1 to 1 1;", 1, 12, 14, 25, 2, 24).thick(), 1);
        due("at the RIM", frozen("shaft 1 1 to 1 1;", 1, 12, 14, 25).thick(), 1);
        thickWalls();
    }

    /** The four calls, one after the other and again, on one object: each has its answer, whatever was asked ahead of it. */
    private static void ask(FrostRing r, int way, int gaps, int thick) {
        int[] orders = {0, 1, 2, 3, 2, 0, 3, 3, 1, 1, 0, 2, 2, 1, 3, 0, 0};
        for (int which : orders) {
            switch (which) {
                case 0 -> due("shut()", r.shut(), way == NONE ? 1 : 0);
                case 1 -> due("way()", r.way(), way);
                case 2 -> due("gaps()", r.gaps(), gaps);
                default -> due("thick()", r.thick(), thick);
            }
        }
    }

    private static void askedInAnyOrder() {
        Sentences.holds(12, "SHUT: there is none.");
        FrostRing r = Check.ring(QUICK + ONE + pipes(both(SIDES, OUTER)));
        ask(r, 5, 4, 0);
        r.keep(0);
        r.tick(1);
        ask(r, NONE, 0, 2);
        r.keep(1);
        due("a new TEXT", Check.tell(r, QUICK + ONE + pipes(both(SIDES, without(OUTER, 89)))), 3 + 11);
        ask(r, 5, 4, 0);
        r.tick(1);
        ask(r, NONE, 0, 1);
        due("another", Check.tell(r, QUICK + ONE + pipes(without(OUTER, 76))), 3 + 7);
        r.tick(1);
        ask(r, 6, 1, 0);
        due("the greatest SHAFT", Check.tell(r, "shaft 1 1 to 10 10;"), 1);
        ask(r, 1, 40, 0);
        due("back(1)", r.back(1), 0);
        ask(r, NONE, 0, 2);
        due("back(0)", r.back(0), 0);
        ask(r, 5, 4, 0);
        // a chamber of 63 alone, in a wall through which a WAY went in the TEXT ahead
        due("a small chamber", Check.tell(r, QUICK + "shaft 2 5 to 2 5;" + pipes(50, 61, 74, 51, 75, 64)), 3 + 6);
        r.tick(1);
        ask(r, NONE, 0, 1);
    }

    /** All that leads freezes in so many TICKS; the frost is as thick as the ground that leads. */
    private static void thickWalls() {
        String ground = "ground 0 lead 0 ice 0 latent 999 mark 0;ground 1 lead 15 ice 15 latent 1 mark 0;far 1;";
        FrostRing r = Check.ring(ground + ONE);
        for (int wide = 1; wide <= 5; wide++) {
            due("the greatest SHAFT", Check.tell(r, "shaft 1 1 to 10 10;"), 1);
            ask(r, 1, 40, 0);
            String lay = "lay " + (5 - wide) + " " + (5 - wide) + " to " + (5 + wide) + " " + (5 + wide) + " ground 1;";
            due("a wall of " + wide, Check.tell(r, ground + lay + ONE + pipes(SIDES)), 9);
            r.tick(30);
            if (wide < 5) {
                due("FROZEN CELLS", r.count(3), (2 * wide + 1) * (2 * wide + 1));
            }
            ask(r, NONE, 0, wide);
        }
    }

    // ---- promises 12 to 16

    private static void whetherShut() {
        Sentences.holds(12, "Whether the SHAFT is SHUT (II): 1, 0.");
        due("not", Check.ring(QUICK + ONE).shut(), 0);
        due("so", frozen(ONE, SIDES).shut(), 1);
    }

    /** Six calls want a SHAFT; a TEXT without one takes it away. */
    private static void noShaft() {
        FrostRing[] without = {new FrostRing(), Check.ring(pipes(SIDES) + "dig if shut;"), Check.ring(ONE)};
        Check.tell(without[2], "far 1;");
        Sentences.holds(12, "-6: there is none.");
        for (FrostRing r : without) {
            due("shut()", r.shut(), -6);
        }
        Sentences.holds(13, "-6 likewise.");
        for (FrostRing r : without) {
            due("way()", r.way(), -6);
        }
        Sentences.holds(14, "-6 likewise.");
        for (FrostRing r : without) {
            due("gaps()", r.gaps(), -6);
            due("none were TOLD", r.gap(0), NONE);
        }
        Sentences.holds(16, "-6 likewise.");
        for (FrostRing r : without) {
            due("thick()", r.thick(), -6);
        }
    }

    private static void shortestWay() {
        Sentences.holds(13, "The fewest CELLS of a WAY; NONE: it is SHUT.");
        due("of many WAYS", frozen(ONE).way(), 5);
        due("SHUT", frozen(ONE, SIDES).way(), NONE);
        due("round a wall", frozen(ONE, 41, 52, 53, 54, 64, 66, 63).way(), 6);
        due("SHUT further out", frozen(ONE, 53, 64, 66, 75, 79, 88, 89, 90, 91, 87).way(), NONE);
        due("by a door", frozen(ONE, 53, 64, 66, 75, 88, 89, 90).way(), 7);
    }

    private static void toldGaps() {
        Sentences.holds(14, "GAPS: the fewest CELLS (II).");
        due("gaps()", frozen(ONE, 53).gaps(), 3);
        due("SHUT", frozen(ONE, SIDES).gaps(), 0);
        Sentences.holds(14, "They are TOLD then.");
        FrostRing r = Check.ring(QUICK + ONE + pipes(without(SIDES, 77)));
        due("ahead of any", r.gap(0), NONE);
        due("gaps()", r.gaps(), 4);
        r.tick(1);
        due("those of then", r.gap(0), 53);
        due("those of then", r.gap(3), 77);
        due("gaps()", r.gaps(), 1);
        due("those of now", r.gap(0), 77);
        due("no more", r.gap(1), NONE);
        due("GAPS of a RULE are not TOLD", Check.ring(ONE + "dig if gaps > 1;").lacks(0), 0);
        r = Check.ring(ONE + "dig if gaps > 1;");
        r.lacks(0);
        r.dig(5, 5);
        due("none were TOLD", r.gap(0), NONE);
        Sentences.holds(15, "GAP i that was TOLD, as a CELL's number, by numbers; NONE.");
        r = frozen("shaft 1 1 to 10 10;");
        due("gaps()", r.gaps(), 40);
        int last = -1;
        for (int i = 0; i < 40; i++) {
            int c = r.gap(i);
            due("by numbers, gap(" + i + ")", c > last ? 1 : 0, 1);
            due("beside the SHAFT", c % 12 == 0 || c % 12 == 11 || c < 12 || c >= 132 ? 1 : 0, 1);
            last = c;
        }
        due("the first", r.gap(0), 1);
        due("the last", r.gap(39), 142);
        for (int i : new int[] {40, 41, 143, 144, Integer.MAX_VALUE, -1, Integer.MIN_VALUE}) {
            due("gap(" + i + ")", r.gap(i), NONE);
        }
        Sentences.holds(16, "THICK (II).");
        due("thick()", frozen(ONE, SIDES).thick(), 1);
    }

    // ---- III and promises 17 to 19

    private static void rules() {
        Sentences.holds(17, "III. A RULE lets a CELL be DUG if all its CONDS hold; without RULES each may be");
        due("without RULES", Check.ring(ONE).dig(5, 5), 0);
        due("all hold", Check.ring(ONE + "dig if tick < 1 and gaps > 3 and lift < 1;").dig(5, 5), 0);
        due("not the first", Check.ring(ONE + "dig if shut and gaps > 3 and lift < 1;").dig(5, 5), -5);
        due("not the second", Check.ring(ONE + "dig if tick < 1 and gaps > 4 and lift < 1;").dig(5, 5), -5);
        due("not the third", Check.ring(ONE + "dig if tick < 1 and gaps > 3 and lift < 0;").dig(5, 5), -5);
        due("the last of four RULES", Check.ring(ONE + "dig if shut;dig if shut;dig if shut;dig if tick < 1;").dig(5, 5), 0);
        due("the first of four", Check.ring(ONE + "dig if tick < 1;dig if shut;dig if shut;dig if shut;").dig(5, 5), 0);
        due("none of two, though all CONDS hold somewhere",
            Check.ring(ONE + "dig if shut and tick < 1;dig if tick > 0 and gaps > 0;").dig(5, 5), -5);
        FrostRing r = frozen(ONE + "dig if shut and thick > 0 and gaps < 1;", SIDES);
        due("SHUT", r.dig(5, 5), 0);
    }

    private static void rulesWithoutShaft() {
        Sentences.holds(18, "(without a SHAFT \"shut\" does not hold, thick and gaps are 0).");
        FrostRing r = Check.ring("dig if shut;dig if thick < 1 and gaps < 1;dig if thick > 0 and gaps > 0;dig if thick < 0 and gaps < 0 and shut;");
        due("shut", r.lacks(0), 1);
        due("they are below 1", r.lacks(1), 0);
        due("they are not above 0", r.lacks(2), 3);
        due("they are not below 0", r.lacks(3), 7);
    }

    private static void dug() {
        Sentences.holds(17, "A CELL of the SHAFT is DUG: how many of it are not.");
        due("of one", Check.ring(ONE).dig(5, 5), 0);
        FrostRing r = Check.ring("shaft 1 1 to 10 10;");
        for (int i = 0; i < 100; i++) {
            int x = 1 + i % 10;
            int y = 1 + i / 10;
            due("ahead", r.cell(x, y, 3), 0);
            due("dig(" + x + ", " + y + ")", r.dig(x, y), 99 - i);
            due("behind", r.cell(x, y, 3), 2);
            due("DUG ones", r.count(4), i + 1);
        }
        due("HEAT gone", r.heat(4), 10000);
    }

    private static void noneOfIt() {
        Sentences.holds(17, "-2: it is none of it, or is DUG;");
        FrostRing r = Check.ring("shaft 4 5 to 6 7;");
        int[][] out = {{3, 5}, {7, 5}, {4, 4}, {4, 8}, {7, 7}, {6, 8}, {0, 0}, {11, 11}, {-1, 5}, {12, 5}, {5, -1}, {5, 12}, {16, 4}, {-8, 6},
            {Integer.MAX_VALUE, 5}, {5, Integer.MIN_VALUE}, {Integer.MIN_VALUE, Integer.MAX_VALUE}};
        List<Integer> ahead = Sentences.look(r);
        for (int[] p : out) {
            due("dig(" + p[0] + ", " + p[1] + ")", r.dig(p[0], p[1]), -2);
        }
        Sentences.same("nothing happens", Sentences.look(r), ahead);
        int[][] corners = {{4, 5}, {6, 5}, {4, 7}, {6, 7}};
        for (int i = 0; i < 4; i++) {
            due("a corner", r.dig(corners[i][0], corners[i][1]), 8 - i);
            due("again", r.dig(corners[i][0], corners[i][1]), -2);
            due("DUG once", r.count(4), i + 1);
        }
        due("without a SHAFT", new FrostRing().dig(5, 5), -2);
        due("ahead of the RULES", Check.ring(ONE + "dig if shut;").dig(5, 6), -2);
        r = Check.ring(TWO);
        r.dig(5, 5);
        r.tick(1);
        due("ahead of the FLOOD", r.dig(5, 5), -2);
        due("ahead of the FLOOD", r.dig(5, 6), -2);
    }

    private static void noRuleLets() {
        Sentences.holds(17, "-5: no RULE lets it (III);");
        FrostRing r = Check.ring(ONE + "dig if shut;dig if tick > 1;");
        List<Integer> ahead = Sentences.look(r);
        due("none", r.dig(5, 5), -5);
        Sentences.same("nothing happens", Sentences.look(r), ahead);
        r.tick(1);
        due("not yet", r.dig(5, 5), -5);
        r.tick(1);
        due("now", r.dig(5, 5), 0);
        r = Check.ring(TWO + "dig if tick < 1;");
        r.dig(5, 5);
        r.tick(1);
        due("ahead of the FLOOD", r.dig(6, 5), -5);
    }

    private static void flooded() {
        Sentences.holds(17, "-7: it is FLOODED.");
        FrostRing r = Check.ring(TWO + "dig if tick < 9;");
        due("dry", r.dig(5, 5), 1);
        r.tick(1);
        List<Integer> ahead = Sentences.look(r);
        due("FLOODED", r.dig(6, 5), -7);
        Sentences.same("nothing happens", Sentences.look(r), ahead);
        r = Check.ring(TWO);
        r.dig(5, 5);
        r.tick(1);
        due("FLOODED, without RULES", r.dig(6, 5), -7);
    }

    private static void behindATick() {
        Sentences.holds(31, "FLOODED: behind a TICK, if some CELL of the SHAFT is DUG and it is not SHUT");
        FrostRing r = Check.ring(TWO);
        r.tick(1);
        due("none is DUG", r.count(8), 0);
        r.dig(5, 5);
        due("no TICK yet", r.count(8), 0);
        due("so the next may be DUG", r.dig(6, 5), 0);
        r.tick(1);
        due("FLOODED", r.count(8), 1);
        r = frozen(ONE, SIDES);
        r.dig(5, 5);
        r.tick(40);
        due("it is SHUT", r.count(8), 0);
        due("never", r.count(12), 0);
        // the frost comes in the very TICK: it is SHUT behind it
        r = Check.ring(QUICK + ONE + pipes(SIDES));
        r.dig(5, 5);
        due("not SHUT yet", r.shut(), 0);
        r.tick(1);
        due("SHUT behind it", r.count(8), 0);
        // of many TICKS one is enough
        r = Check.ring(QUICK + ONE + pipes(SIDES));
        r.dig(5, 5);
        r.cold(0);
        r.tick(1);
        r.cold(99999);
        r.tick(39);
        due("SHUT since, but FLOODED", r.count(8) + r.shut(), 2);
    }

    private static void staysFlooded() {
        Sentences.holds(31, "(it stays so till pump()).");
        FrostRing r = Check.ring(QUICK + ONE + pipes(SIDES));
        r.dig(5, 5);
        r.cold(0);
        r.tick(1);
        due("FLOODED", r.count(8), 1);
        r.tick(5);
        due("still", r.count(8), 1);
        due("once", r.count(12), 1);
        r.cold(99999);
        r.tick(5);
        due("SHUT", r.shut(), 1);
        due("still", r.count(8), 1);
        due("once", r.count(12), 1);
        due("pump()", r.pump(), 0);
        due("no more", r.count(8), 0);
        r.tick(5);
        due("nor later", r.count(8), 0);
        due("how often", r.count(12), 1);
    }

    private static void lacking() {
        Sentences.holds(18, "RULE r's CONDS that do not hold, as bits (the first lowest);");
        String[] conds = {"tick > 0", "lift > 0", "gaps > 9"};
        String[] others = {"tick < 1", "lift < 1", "gaps < 9"};
        for (int bits = 0; bits < 8; bits++) {
            StringBuilder rule = new StringBuilder(ONE + "dig if tick < 9;dig if ");
            for (int i = 0; i < 3; i++) {
                rule.append(i > 0 ? " and " : "").append((bits >> i & 1) != 0 ? conds[i] : others[i]);
            }
            FrostRing r = Check.ring(rule + ";");
            due("lacks(1) of " + rule, r.lacks(1), bits);
            due("lacks(0)", r.lacks(0), 0);
        }
        due("one COND alone", Check.ring("dig if shut;").lacks(0), 1);
        Sentences.holds(18, "NONE: there is no such RULE.");
        FrostRing r = Check.ring("dig if shut;dig if shut;");
        for (int i : new int[] {2, 3, 4, -1, Integer.MAX_VALUE, Integer.MIN_VALUE}) {
            due("lacks(" + i + ")", r.lacks(i), NONE);
        }
        due("the last", r.lacks(1), 1);
        due("without RULES", new FrostRing().lacks(0), NONE);
        r = Check.ring("dig if shut;dig if shut;dig if shut;dig if shut;");
        due("the fourth", r.lacks(3), 1);
        due("no fifth", r.lacks(4), NONE);
    }

    private static void pumped() {
        Sentences.holds(19, "Water is pumped out of a FLOODED SHAFT: 0.");
        FrostRing r = Check.ring(QUICK + TWO + pipes(53, 54, 64, 67, 77, 78));
        r.dig(5, 5);
        r.cold(0);
        r.tick(1);
        r.cold(99999);
        r.tick(1);
        due("FLOODED", r.dig(6, 5), -7);
        due("pump()", r.pump(), 0);
        due("dry", r.count(8), 0);
        due("it may be DUG again", r.dig(6, 5), 0);
    }

    private static void refusedPumps() {
        Sentences.holds(19, "-6: there is none;");
        due("a new object", new FrostRing().pump(), -6);
        due("a TEXT without a SHAFT", Check.ring("far 1;").pump(), -6);
        Sentences.holds(19, "-5: it is not FLOODED;");
        due("nothing is DUG", Check.ring(ONE).pump(), -5);
        due("SHUT", frozen(ONE, SIDES).pump(), -5);
        FrostRing r = Check.ring(ONE);
        r.dig(5, 5);
        due("not yet", r.pump(), -5);
        Sentences.holds(19, "-8: it is not SHUT.");
        r.tick(1);
        due("open", r.pump(), -8);
        due("still FLOODED", r.count(8), 1);
        due("open", r.pump(), -8);
        r = Check.ring(QUICK + ONE + pipes(SIDES));
        r.dig(5, 5);
        r.cold(0);
        r.tick(1);
        due("open", r.pump(), -8);
        r.cold(99999);
        r.tick(1);
        due("SHUT", r.pump(), 0);
        due("and again", r.pump(), -5);
    }
}
