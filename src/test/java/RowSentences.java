import java.util.List;

/** The sentences of promises 29 to 36: what is counted, IMAGES, and rows. */
final class RowSentences {
    private static final int NONE = FrostRing.NONE;

    private static final String QUICK = "ground 0 lead 0 ice 0 latent 1 mark 0;far 1;";
    /** Of the four sides of the SHAFT 77 alone is lacking: the place at which more() finds it tells where it stands in a row. */
    private static final String LACKING = QUICK + "shaft 5 5 to 5 5;pipe 5 4 at -400 lead 60;pipe 4 5 at -400 lead 60;pipe 6 5 at -400 lead 60;";

    private RowSentences() {
    }

    static void all() {
        coldestAndWarmest();
        otherMost();
        frozenBits();
        counted();
        otherCounts();
        kept();
        goneBackTo();
        noSuchImages();
        rowsLaid();
        rowsRefused();
        rowsBelowNought();
        written();
        notWritten();
        pasted();
        pastedOnItself();
        notPasted();
        beyondTheirRows();
    }

    private static void due(String call, long got, long want) {
        Sentences.due(call, got, want);
    }

    private static void fill(FrostRing r, int slot, int width, int... numbers) {
        due("row", r.row(slot, width, numbers.length), 0);
        for (int i = 0; i < numbers.length; i++) {
            due("write", r.write(slot, i, numbers[i]), 0);
        }
    }

    /** The place of 77 in a row of six at most that has no number twice. */
    private static void placeIs(FrostRing r, int slot, int place) {
        due("more(" + slot + ", 1)", r.more(slot, 1), 1);
        due("chosen()", r.chosen(), 1 << place);
    }

    /** A number and its equal are told twice; SLOT 2 is for that. */
    private static void numberIs(FrostRing r, int slot, int i, int width, int number) {
        fill(r, 2, width, 0, number);
        due("other numbers", r.more(2, 1) == -7 ? 1 : 0, 0);
        due("paste", r.paste(slot, i, 2, 0, 1), 0);
        due("number " + i + " is " + number, r.more(2, 1), -7);
    }

    // ---- promises 29 to 31

    private static void coldestAndWarmest() {
        Sentences.holds(29, "The coldest CELL that is not DUG (of several the first), by number; the warmest for what 1.");
        FrostRing r = new FrostRing();
        due("all alike", r.most(0), 0);
        due("all alike", r.most(1), 0);
        r = Check.ring("pipe 11 11 at -400 lead 60;");
        r.tick(1);
        due("the last", r.most(0), 143);
        due("the warmest", r.most(1), 0);
        r = Check.ring("shaft 5 5 to 6 5;pipe 7 7 at -400 lead 60;pipe 6 5 at -400 lead 60;pipe 5 5 at -400 lead 60;pipe 0 0 at 0 lead 50;pipe 1 0 at 0 lead 50;");
        r.tick(1);
        due("of three the first", r.most(0), 65);
        due("the first of the others", r.most(1), 2);
        due("dig(5, 5)", r.dig(5, 5), 1);
        due("that is not DUG", r.most(0), 66);
        due("dig(6, 5)", r.dig(6, 5), 0);
        due("that is not DUG", r.most(0), 91);
        // WARM counts, and not what is FROZEN
        r = Check.ring("ground 0 lead 0 ice 0 latent 1 mark 0;ground 1 lead 0 ice 0 latent 999 mark -30;lay 3 3 to 3 3 ground 1;far 1;"
            + "pipe 3 3 at -50 lead 60;pipe 4 4 at -10 lead 60;");
        r.tick(1);
        due("the coldest", r.most(0), 39);
        due("another is FROZEN", r.frost(4), 16);
    }

    /** All CELLS are never DUG: those of the SHAFT are 100 at most, and none at the RIM. */
    private static void otherMost() {
        Sentences.holds(29, "NONE: all are DUG, another what.");
        FrostRing r = Check.ring("shaft 1 1 to 10 10;");
        for (int i = 0; i < 100; i++) {
            due("dig", r.dig(1 + i % 10, 1 + i / 10), 99 - i);
        }
        due("the RIM is left", r.most(0), 0);
        due("the RIM is left", r.most(1), 0);
        for (int what : new int[] {-1, 2, 3, Integer.MAX_VALUE, Integer.MIN_VALUE}) {
            due("most(" + what + ")", r.most(what), NONE);
        }
    }

    private static void frozenBits() {
        Sentences.holds(30, "FROZEN CELLS in a row y, as bits by x (DUG ones are not).");
        FrostRing r = Check.ring(QUICK + "shaft 5 5 to 6 5;pipe 0 0 at -400 lead 60;pipe 11 0 at -400 lead 60;pipe 0 11 at -400 lead 60;"
            + "pipe 11 11 at -400 lead 60;pipe 5 5 at -400 lead 60;pipe 6 5 at -400 lead 60;pipe 7 5 at -400 lead 60;");
        due("none yet", r.frost(0), 0);
        r.tick(1);
        due("the first row", r.frost(0), 1 + 2048);
        due("the last row", r.frost(11), 1 + 2048);
        due("the sixth", r.frost(5), 32 + 64 + 128);
        due("another", r.frost(4), 0);
        r.dig(6, 5);
        due("DUG ones are not", r.frost(5), 32 + 128);
        StringBuilder whole = new StringBuilder(QUICK);
        for (int x = 0; x < 12; x++) {
            whole.append("pipe " + x + " 7 at -400 lead 60;");
        }
        r = Check.ring(whole.toString());
        r.tick(1);
        due("a whole row", r.frost(7), 4095);
        Sentences.holds(30, "NONE: there is no such row.");
        for (int y : new int[] {-1, 12, 13, Integer.MAX_VALUE, Integer.MIN_VALUE}) {
            due("frost(" + y + ")", r.frost(y), NONE);
        }
    }

    private static void counted() {
        Sentences.holds(31, "0 LINES, 1 TICK, 2 PIPES, 3 FROZEN CELLS, 4 DUG ones, 5 RULES, 6 bytes of the TAPE, 7 HOUSES, "
            + "8 whether it is FLOODED (1, 0), 9 COLD, 10 SLOTS that have a row, 11 FAR, 12 how often it was FLOODED.");
        FrostRing r = new FrostRing();
        int[] asNew = {0, 0, 0, 0, 0, 0, 0, 0, 0, 99999, 0, 100, 0};
        for (int what = 0; what < 13; what++) {
            due("count(" + what + ") of a new object", r.count(what), asNew[what]);
        }
        due("text()", Check.tell(r, QUICK + "shaft 5 5 to 7 5;pipe 0 0 at -400 lead 60;pipe 5 5 at -400 lead 60;pipe 9 9 at -400 lead 60;cold 5000;"
            + "house 1 limit 9;dig if tick < 9;dig if shut;dig if shut;dig if shut;house 2 limit 9;"), 13);
        r.tick(2);
        r.dig(5, 5);
        r.dig(7, 5);
        Check.put(r, "abcdef");
        r.row(0, 0, 0);
        r.row(3, 3, 60);
        r.row(3, 1, 1);
        int[] want = {13, 2, 3, 2, 2, 4, 6, 2, 0, 5000, 2, 1, 0};
        for (int what = 0; what < 13; what++) {
            due("count(" + what + ")", r.count(what), want[what]);
        }
        r.tick(1);
        due("FLOODED", r.count(8), 1);
        due("how often", r.count(12), 1);
        r.row(1, 0, 5);
        r.row(2, 0, 5);
        due("all SLOTS", r.count(10), 4);
        floodedAgain();
    }

    private static void floodedAgain() {
        FrostRing r = Check.ring("ground 0 lead 15 ice 15 latent 1 mark 0;far 300;shaft 5 5 to 5 5;pipe 5 4 at -400 lead 60;"
            + "pipe 4 5 at -400 lead 60;pipe 6 5 at -400 lead 60;pipe 5 6 at -400 lead 60;");
        r.tick(1);
        r.dig(5, 5);
        for (int often = 1; often <= 3; often++) {
            r.cold(0);
            r.tick(10);
            due("FLOODED", r.count(8), 1);
            due("how often", r.count(12), often);
            r.tick(1);
            due("not anew while it is", r.count(12), often);
            r.cold(99999);
            r.tick(10);
            due("pump()", r.pump(), 0);
            due("dry", r.count(8), 0);
            due("how often it was", r.count(12), often);
        }
    }

    private static void otherCounts() {
        Sentences.holds(31, "NONE for others.");
        FrostRing r = new FrostRing();
        for (int what : new int[] {-1, 13, 14, Integer.MAX_VALUE, Integer.MIN_VALUE}) {
            due("count(" + what + ")", r.count(what), NONE);
        }
    }

    // ---- promises 32 and 33

    private static final String TOLD = "far 60;shaft 4 4 to 6 5;pipe 4 3 at -300 lead 60;pipe 6 3 at -200 lead 50;cold 250;stream 3 speed 12;"
        + "house 3 limit 1;ground 2 lead 3 ice 9 latent 40 mark -5;lay 3 2 to 6 3 ground 2;dig if tick < 7 and gaps > 1;dig if shut;"
        + "dig if lift < 1 and tick > 1 and thick < 1;dig if tick > 0 and tick < 3 and gaps > 0;";
    private static final String OTHER = "far 9;shaft 1 1 to 2 2;pipe 1 0 at -400 lead 60;stream 1 speed 30;ground 0 lead 1 ice 2 latent 3 mark -4;"
        + "ground 1 lead 0 ice 0 latent 1 mark 0;lay 5 5 to 9 9 ground 1;house 0 limit 0;house 5 limit 5;cold 7000;"
        + "dig if shut;dig if tick > 1 and tick < 9 and shut;dig if tick < 9 and gaps > 3 and thick < 1;"
        + "dig if thick < 1 and gaps > 3 and lift < 1;";

    private static FrostRing wornRing() {
        FrostRing r = Check.ring(TOLD);
        r.dig(4, 4);
        r.tick(5);
        r.run(1, false);
        r.cold(123);
        r.gauge(4, 3, 3, 500);
        due("FLOODED", r.count(8), 1);
        return r;
    }

    private static void kept() {
        Sentences.holds(32, "IMAGE k (0 .. 2) keeps all but the TAPE, SLOTS and what was found: 0.");
        for (int k = 0; k < 3; k++) {
            FrostRing r = wornRing();
            List<Integer> ahead = Sentences.look(r);
            due("keep(" + k + ")", r.keep(k), 0);
            Sentences.same("nothing happens", Sentences.look(r), ahead);
            due("the TAPE", r.feed(0, 0, 0, 0, 0), 20);
            due("a SLOT", r.row(2, 1, 6), 0);
            due("GAPS", r.gaps() > 1 ? 1 : 0, 1);
            int first = r.gap(0);
            due("back(" + k + ")", r.back(k), 0);
            Sentences.same("all is as it was", Sentences.look(r), ahead);
            due("the TAPE stays", r.count(6), 20);
            due("SLOTS stay", r.count(10), 1);
            due("GAPS are still TOLD", r.gap(0), first);
            due("TICKS do not change it", r.tick(9), 14);
            due("back(" + k + ")", r.back(k), 0);
            Sentences.same("all is as it was", Sentences.look(r), ahead);
        }
        FrostRing r = new FrostRing();
        due("of a new object", r.keep(0), 0);
        due("a TEXT", Check.tell(r, TOLD), 13);
        due("a FAULT", Check.tell(r, "far"), -4);
        due("back(0)", r.back(0), 0);
        due("no LINES", r.count(0), 0);
        due("no SHAFT", r.shut(), -6);
        due("the FAULT was found", r.fault(0), 1);
        due("its place", r.fault(1), 3);
        r = Check.ring(LACKING);
        due("keep(2)", r.keep(2), 0);
        fill(r, 0, 1, 3, 77);
        placeIs(r, 0, 1);
        due("back(2)", r.back(2), 0);
        due("what was chosen", r.chosen(), 2);
        placeIs(r, 0, 1);
        Sentences.holds(32, "-2: no such k.");
        for (int k : new int[] {-1, 3, 4, Integer.MAX_VALUE, Integer.MIN_VALUE}) {
            due("keep(" + k + ")", r.keep(k), -2);
        }
    }

    private static void goneBackTo() {
        Sentences.holds(33, "All that is as IMAGE k has it: 0.");
        FrostRing r = wornRing();
        List<Integer> worn = Sentences.look(r);
        due("keep(0)", r.keep(0), 0);
        due("another TEXT", Check.tell(r, OTHER), 14);
        r.gauge(9, 0, 0, 0);
        r.gauge(4, 3, 3, -30);
        r.tick(3);
        List<Integer> other = Sentences.look(r);
        due("keep(1)", r.keep(1), 0);
        due("a third", Check.tell(r, ""), 0);
        List<Integer> empty = Sentences.look(r);
        due("keep(2)", r.keep(2), 0);
        int[] order = {0, 1, 2, 1, 0, 2, 0};
        for (int k : order) {
            due("back(" + k + ")", r.back(k), 0);
            Sentences.same("IMAGE " + k, Sentences.look(r), k == 0 ? worn : k == 1 ? other : empty);
        }
        // what goes on from an IMAGE goes on as it did
        FrostRing on = wornRing();
        due("tick(7)", on.tick(7), 12);
        due("tick(7)", r.tick(7), 12);
        Sentences.same("seven TICKS on", Sentences.look(r), Sentences.look(on));
        due("kept in its place", r.keep(0), 0);
        due("back(1)", r.back(1), 0);
        due("back(0)", r.back(0), 0);
        Sentences.same("the later one", Sentences.look(r), Sentences.look(on));
        fullImages();
    }

    /** The last of all that a TEXT can tell: the last CELL, GROUND, STREAM, PIPE, HOUSE, RULE and GAUGE. */
    private static String lastOfAll(int g, int speed, int at, int limit, String rule) {
        StringBuilder text = new StringBuilder("ground 3 lead " + g + " ice " + (g + 1) + " latent " + (20 + g) + " mark -" + g + ";");
        text.append("lay 11 11 to 11 11 ground " + (speed > 9 ? 3 : 2) + ";lay 3 8 to 10 10 ground 3;lay 10 11 to 10 11 ground 3;stream 11 speed " + speed + ";far 60;shaft 5 5 to 5 5;");
        for (int i = 0; i < 12; i++) {
            text.append("pipe" + i + " 11at-" + (at + i) + "lead60;");
        }
        for (int i = 0; i < 6; i++) {
            text.append("house" + (i + (limit > 0 ? 4 : 5)) + "limit" + (limit + i) + ";");
        }
        return text.append("dig if shut;".repeat(3)).append(rule).toString();
    }

    private static void fullImages() {
        String[] texts = {lastOfAll(3, 7, 40, 0, "dig if tick < 99;"), lastOfAll(9, 30, 80, 3, "dig if tick > 1 and gaps > 9 and lift > 99;")};
        FrostRing[] alone = new FrostRing[2];
        FrostRing r = new FrostRing();
        for (int k = 0; k < 2; k++) {
            alone[k] = Check.ring(texts[k]);
            Sentences.due("text() " + k, Check.tell(r, texts[k]) > 0, true);
            for (FrostRing each : new FrostRing[] {alone[k], r}) {
                due("the last GAUGE", each.gauge(9, 11, 11, 50 - 60 * k), 0);
                due("tick(9)", each.tick(9), 9);
            }
            due("keep(" + k + ")", r.keep(k), 0);
        }
        due("a TEXT of nothing", r.text(), 0);
        for (int k : new int[] {0, 1, 0, 1}) {
            due("back(" + k + ")", r.back(k), 0);
            Sentences.same("all of IMAGE " + k, Sentences.look(r), Sentences.look(alone[k]));
            due("twelve PIPES", r.count(2), 12);
            due("six HOUSES", r.count(7), 6);
            due("four RULES", r.count(5), 4);
        }
        FrostRing other = Check.ring(texts[1]);
        other.gauge(9, 11, 11, -10);
        other.tick(9);
        due("tick(9)", r.tick(9), 18);
        due("tick(9)", other.tick(9), 18);
        Sentences.same("nine TICKS on", Sentences.look(r), Sentences.look(other));
        due("back(0)", r.back(0), 0);
        due("tick(9)", r.tick(9), 18);
        due("tick(9)", alone[0].tick(9), 18);
        Sentences.same("nine TICKS on", Sentences.look(r), Sentences.look(alone[0]));
    }

    private static void noSuchImages() {
        Sentences.holds(33, "-2: no such k;");
        FrostRing r = wornRing();
        List<Integer> ahead = Sentences.look(r);
        for (int k : new int[] {-1, 3, 4, Integer.MAX_VALUE, Integer.MIN_VALUE}) {
            due("back(" + k + ")", r.back(k), -2);
        }
        Sentences.same("nothing happens", Sentences.look(r), ahead);
        Sentences.holds(33, "-6: it has nothing.");
        for (int k = 0; k < 3; k++) {
            due("back(" + k + ")", r.back(k), -6);
        }
        Sentences.same("nothing happens", Sentences.look(r), ahead);
        due("keep(1)", r.keep(1), 0);
        due("back(0)", r.back(0), -6);
        due("back(2)", r.back(2), -6);
        due("back(1)", r.back(1), 0);
    }

    // ---- promises 34 to 36

    private static void rowsLaid() {
        Sentences.holds(34, "SLOTS 0 .. 3 have rows of numbers of 1, 2, 4 or 8 bytes (WIDTH 0 .. 3), at most 60, or nothing.");
        FrostRing r = new FrostRing();
        for (int slot = 0; slot < 4; slot++) {
            due("nothing", r.write(slot, 0, 1), -6);
            for (int width = 0; width < 4; width++) {
                due("sixty", r.row(slot, width, 60), 0);
                due("the last", r.write(slot, 59, -1), 0);
                due("no more", r.write(slot, 60, -1), -7);
            }
            due("SLOTS", r.count(10), slot + 1);
        }
        Sentences.holds(34, "A SLOT (0 .. 3) has a row of n numbers of a WIDTH, all 0 (in place of another one): 0.");
        r = Check.ring(LACKING);
        for (int n = 0; n <= 60; n++) {
            due("row of " + n, r.row(0, n % 4, n), 0);
            due("the last", r.write(0, n - 1, 1), n == 0 ? -7 : 0);
            due("no more", r.write(0, n, 1), -7);
            due("SLOTS", r.count(10), 1);
        }
        for (int width = 0; width < 4; width++) {
            fill(r, 1, width, 1, 2, 77);
            placeIs(r, 1, 2);
            due("in its place", r.row(1, width, 3), 0);
            due("0 three times", r.more(1, 1), -7);
            r.write(1, 0, 1);
            r.write(1, 1, 2);
            due("0 once, and no 77", r.more(1, 1), NONE);
            // CELL 0 has a PIPE in another TEXT, so a 0 is told by -7
            FrostRing zero = Check.ring(LACKING + "pipe 0 0 at 0 lead 0;");
            due("row", zero.row(0, width, 1), 0);
            due("it is 0", zero.more(0, 1), -7);
        }
        fill(r, 2, 1, 5, 77);
        due("a longer one", r.row(2, 1, 3), 0);
        r.write(2, 0, 5);
        r.write(2, 2, 6);
        due("nothing of the one ahead", r.more(2, 1), NONE);
        due("a shorter one", r.row(2, 1, 1), 0);
        due("has one number", r.write(2, 1, 1), -7);
    }

    private static void rowsRefused() {
        Sentences.holds(34, "-2: there is no such SLOT or WIDTH (0 .. 3), or n is above 60;");
        FrostRing r = Check.ring(LACKING);
        fill(r, 0, 1, 8, 77);
        for (int bad : new int[] {-1, 4, 5, Integer.MAX_VALUE, Integer.MIN_VALUE}) {
            due("SLOT " + bad, r.row(bad, 0, 1), -2);
            due("WIDTH " + bad, r.row(0, bad, 1), -2);
            due("SLOT " + bad + ", n below 0", r.row(bad, 0, -1), -2);
            due("WIDTH " + bad + ", n below 0", r.row(0, bad, -1), -2);
        }
        for (int n : new int[] {61, 62, 100, Integer.MAX_VALUE}) {
            for (int width = 0; width < 4; width++) {
                due("n " + n, r.row(0, width, n), -2);
                due("n " + n + " of a SLOT that has nothing", r.row(1, width, n), -2);
            }
        }
        due("SLOTS", r.count(10), 1);
        placeIs(r, 0, 1);
    }

    private static void rowsBelowNought() {
        Sentences.holds(34, "-3, and the SLOT stays: n is below 0.");
        FrostRing r = Check.ring(LACKING);
        fill(r, 0, 1, 8, 77);
        for (int n : new int[] {-1, -2, -60, Integer.MIN_VALUE}) {
            for (int width = 0; width < 4; width++) {
                due("n " + n, r.row(0, width, n), -3);
                placeIs(r, 0, 1);
                due("of a SLOT that has nothing", r.row(1, width, n), -3);
                due("it has nothing still", r.write(1, 0, 0), -6);
            }
        }
        due("SLOTS", r.count(10), 1);
        due("of the WIDTH that it had", r.write(0, 0, 256 + 8), 0);
        due("two bytes", r.more(0, 1), -7);
    }

    private static void written() {
        Sentences.holds(35, "Number i of the SLOT's row is v, cut to its WIDTH: 0.");
        FrostRing r = Check.ring(LACKING);
        for (int i = 0; i < 6; i++) {
            fill(r, 0, 1, 1, 2, 3, 4, 5, 6);
            due("write", r.write(0, i, 77), 0);
            placeIs(r, 0, i);
        }
        for (int width = 0; width < 4; width++) {
            long over = width == 3 ? 0 : 1L << 8 * (1 << width);
            long[] cut = {77, 77 + over, 77 - over, 77 + 3 * over, 77 + (over << 7)};
            for (long v : cut) {
                r.row(1, width, 1);
                due("write(" + v + ") of WIDTH " + width, r.write(1, 0, v), 0);
                placeIs(r, 1, 0);
            }
            for (int bit = 7; bit < 64; bit++) {
                r.row(1, width, 1);
                r.write(1, 0, 77 ^ 1L << bit);
                int bits = 8 * (1 << width);
                due("bit " + bit + " of WIDTH " + width, r.more(1, 1), bit >= bits ? 1 : -7);
            }
            for (long v : new long[] {Long.MAX_VALUE, Long.MIN_VALUE, -1}) {
                r.row(1, width, 1);
                due("write(" + v + ")", r.write(1, 0, v), 0);
                due("no CELL, or CELL 0", r.more(1, 1), v == Long.MIN_VALUE && width < 3 ? NONE : -7);
            }
        }
    }

    private static void notWritten() {
        FrostRing r = Check.ring(LACKING);
        fill(r, 0, 1, 8, 77);
        Sentences.holds(35, "-2: there is no such SLOT;");
        for (int slot : new int[] {-1, 4, 5, Integer.MAX_VALUE, Integer.MIN_VALUE}) {
            due("SLOT " + slot, r.write(slot, 0, 1), -2);
            due("SLOT " + slot + ", no such number", r.write(slot, 99, 1), -2);
        }
        Sentences.holds(35, "-6: it has nothing;");
        for (int slot = 1; slot < 4; slot++) {
            due("SLOT " + slot, r.write(slot, 0, 1), -6);
            due("SLOT " + slot + ", no such number", r.write(slot, -1, 1), -6);
        }
        Sentences.holds(35, "-7: there is no such number.");
        for (int i : new int[] {-1, 2, 3, 59, 60, Integer.MAX_VALUE, Integer.MIN_VALUE}) {
            due("number " + i, r.write(0, i, 5), -7);
        }
        placeIs(r, 0, 1);
        due("an empty row", r.row(1, 1, 0), 0);
        due("has none", r.write(1, 0, 1), -7);
    }

    private static void pasted() {
        Sentences.holds(36, "So many numbers of a SLOT's row, from one on, are put to another one's (or its own), from one on, as they were: 0.");
        FrostRing r = Check.ring(LACKING);
        for (int width = 0; width < 4; width++) {
            for (int n = 0; n <= 3; n++) {
                fill(r, 0, width, 11, 77, 13, 14);
                fill(r, 1, width, 21, 22, 23, 24, 25);
                due("paste of " + n, r.paste(0, 1, 1, 2, n), 0);
                if (n > 0) {
                    placeIs(r, 1, 2);
                } else {
                    due("none", r.more(1, 1), NONE);
                }
                placeIs(r, 0, 1);
                int[] want = {21, 22, n > 0 ? 77 : 23, n > 1 ? 13 : 24, n > 2 ? 14 : 25};
                for (int i = 0; i < 5; i++) {
                    numberIs(r, 1, i, width, want[i]);
                }
            }
        }
        Sentences.due("all sixty", r.row(0, 2, 60) == 0 && r.row(3, 2, 60) == 0, true);
        due("write", r.write(0, 59, 77), 0);
        due("paste of sixty", r.paste(0, 0, 3, 0, 60), 0);
        due("row", r.row(1, 2, 1), 0);
        due("the last of them", r.paste(3, 59, 1, 0, 1), 0);
        placeIs(r, 1, 0);
    }

    private static void pastedOnItself() {
        Sentences.holds(36, "(or its own), from one on, as they were: 0.");
        FrostRing r = Check.ring(LACKING);
        fill(r, 0, 1, 77, 12, 13, 14, 15);
        due("upward", r.paste(0, 0, 0, 1, 4), 0);
        r.write(0, 0, 11);
        placeIs(r, 0, 1);
        r.write(0, 1, 16);
        due("the others have gone up by one", r.write(0, 0, 12), 0);
        due("12 is told twice", r.more(0, 1), -7);
        r.write(0, 0, 15);
        due("15 is no more", r.more(0, 1), NONE);
        fill(r, 0, 1, 11, 12, 13, 14, 77);
        due("downward", r.paste(0, 1, 0, 0, 4), 0);
        r.write(0, 4, 11);
        placeIs(r, 0, 3);
        fill(r, 0, 1, 11, 77);
        due("on the same place", r.paste(0, 0, 0, 0, 2), 0);
        placeIs(r, 0, 1);
    }

    private static void notPasted() {
        FrostRing r = Check.ring(LACKING);
        fill(r, 0, 1, 8, 77);
        fill(r, 1, 1, 7, 6);
        Sentences.holds(36, "-2: there is no such SLOT;");
        for (int slot : new int[] {-1, 4, 5, Integer.MAX_VALUE, Integer.MIN_VALUE}) {
            due("from SLOT " + slot, r.paste(slot, 0, 0, 0, 1), -2);
            due("to SLOT " + slot, r.paste(0, 0, slot, 0, 1), -2);
            due("from one that has nothing to SLOT " + slot, r.paste(2, 0, slot, 0, 1), -2);
            due("from SLOT " + slot + " to one that has nothing", r.paste(slot, 0, 2, 0, 1), -2);
            due("and beyond", r.paste(slot, -1, 0, 99, -1), -2);
        }
        Sentences.holds(36, "-6: one has nothing;");
        due("from", r.paste(2, 0, 0, 0, 1), -6);
        due("to", r.paste(0, 0, 2, 0, 1), -6);
        due("both", r.paste(2, 0, 3, 0, 1), -6);
        due("itself", r.paste(2, 0, 2, 0, 1), -6);
        due("and beyond", r.paste(0, -1, 2, 99, 1), -6);
        due("none at all", r.paste(0, 0, 2, 0, 0), -6);
        due("it has nothing still", r.count(10), 2);
        Sentences.holds(36, "-8: they are not of one WIDTH;");
        for (int width = 0; width < 4; width++) {
            for (int other = 0; other < 4; other++) {
                fill(r, 2, width, 1, 2);
                fill(r, 3, other, 3, 4);
                due("WIDTHS " + width + ", " + other, r.paste(2, 0, 3, 0, 1), width == other ? 0 : -8);
                due("and beyond", r.paste(2, 0, 3, 0, 3), width == other ? -7 : -8);
                due("and below", r.paste(2, -1, 3, 0, 1), width == other ? -7 : -8);
                due("none at all", r.paste(2, 0, 3, 0, 0), width == other ? 0 : -8);
            }
        }
        fill(r, 2, 2, 9, 9);
        due("-8", r.paste(0, 0, 2, 0, 2), -8);
        due("nothing was put", r.more(2, 1), -7);
    }

    private static void beyondTheirRows() {
        Sentences.holds(36, "-7, and nothing happens: some are beyond their rows, or a place or n is below 0.");
        FrostRing r = Check.ring(LACKING);
        fill(r, 0, 1, 8, 77, 9);
        fill(r, 1, 1, 7, 6, 5, 4);
        int[][] bad = {{0, 0, 4}, {1, 0, 3}, {2, 0, 2}, {3, 0, 1}, {4, 0, 0}, {0, 2, 3}, {0, 3, 2}, {0, 4, 1}, {0, 5, 0}, {-1, 0, 1}, {0, -1, 1},
            {0, 0, -1}, {-1, 0, 2}, {0, -1, 2}, {-1, -1, -1}, {Integer.MAX_VALUE, 0, 1}, {0, Integer.MAX_VALUE, 1}, {0, 0, Integer.MAX_VALUE},
            {1, 1, Integer.MAX_VALUE}, {Integer.MAX_VALUE, Integer.MAX_VALUE, Integer.MAX_VALUE}, {Integer.MIN_VALUE, 0, 1},
            {0, Integer.MIN_VALUE, 1}, {0, 0, Integer.MIN_VALUE}, {Integer.MIN_VALUE, Integer.MIN_VALUE, Integer.MIN_VALUE},
            {3, 4, -1}, {-1, 0, 0}, {0, -1, 0}};
        for (int[] b : bad) {
            due("paste(0, " + b[0] + ", 1, " + b[1] + ", " + b[2] + ")", r.paste(0, b[0], 1, b[1], b[2]), -7);
            due("nothing happens", r.more(1, 1), NONE);
            placeIs(r, 0, 1);
        }
        due("to the end of both", r.paste(0, 0, 1, 1, 3), 0);
        due("none, at the end of both", r.paste(0, 3, 1, 4, 0), 0);
        placeIs(r, 1, 2);
        fill(r, 2, 1);
        due("none of an empty row", r.paste(2, 0, 1, 0, 0), 0);
        due("one of an empty row", r.paste(2, 0, 1, 0, 1), -7);
        due("one to an empty row", r.paste(1, 0, 2, 0, 1), -7);
    }
}
