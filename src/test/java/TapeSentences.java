import java.util.List;

/** The sentences of promises 1 to 5: a new object, the TAPE, and what a TEXT or a FAULT leaves as it was. */
final class TapeSentences {
    private static final int NONE = FrostRing.NONE;
    private static final int BLANKS = 0x20202020;
    private static final int MARKS = 0x21212121;

    private TapeSentences() {
    }

    static void all() {
        newObject();
        lastCallOfAll();
        bytesOfFeed();
        fullTape();
        cutTape();
        refusedEnds();
        emptyTexts();
        allBeginsAnew();
        allStays();
        faultsTold();
        otherFaults();
    }

    private static void due(String call, long got, long want) {
        Sentences.due(call, got, want);
    }

    private static void newObject() {
        Sentences.holds(1, "No TEXT: GROUND 0 everywhere (as one that is not told), FAR 100, no PIPES, no SHAFT.");
        FrostRing r = new FrostRing();
        int[] want = {0, 100, 0, 0, NONE, 0};
        for (int c = 0; c < 144; c++) {
            for (int what = 0; what < 6; what++) {
                due("cell " + c + ", " + what, r.cell(c % 12, c / 12, what), want[what]);
            }
        }
        due("LINES", r.count(0), 0);
        due("TICK", r.count(1), 0);
        due("PIPES", r.count(2), 0);
        due("pipe(0, 0)", r.pipe(0, 0), Check.NOTHING);
        Sentences.due("run(0, false)", r.run(0, false), false);
        due("RULES", r.count(5), 0);
        due("bytes", r.count(6), 0);
        due("HOUSES", r.count(7), 0);
        due("SLOTS", r.count(10), 0);
        due("FAR", r.count(11), 100);
        due("shut()", r.shut(), -6);
        due("dig(5, 5)", r.dig(5, 5), -2);
        due("back(0)", r.back(0), -6);
        due("tick(40)", r.tick(40), 40);
        due("nothing is other than FAR", r.heat(0), 14400);
        due("nor does HEAT come", r.heat(2), 0);
    }

    private static void lastCallOfAll() {
        Sentences.holds(1, "An object is used for at most 512 calls after it has been made");
        FrostRing r = new FrostRing();
        for (int i = 1; i <= 50; i++) {
            due("tick(40)", r.tick(40), 40 * i);
        }
        for (int i = 51; i < 512; i++) {
            due("call " + i, r.tick(1), -3);
        }
        due("call 512", r.count(1), 2000);
    }

    // ---- the TAPE

    private static int with(int number, int k, int at) {
        return at / 4 == k ? number & ~(255 << 24 - at % 4 * 8) | 0xfe << 24 - at % 4 * 8 : number;
    }

    private static void bytesOfFeed() {
        Sentences.holds(2, "Twenty bytes come behind the TAPE, four of each number, the highest first: how many it has;");
        for (int at = 0; at < 20; at++) {
            FrostRing r = new FrostRing();
            due("feed", r.feed(BLANKS, BLANKS, BLANKS, BLANKS, BLANKS), 20);
            int got = r.feed(with(BLANKS, 0, at), with(BLANKS, 1, at), with(BLANKS, 2, at), with(BLANKS, 3, at),
                with(BLANKS, 4, at));
            due("feed behind it", got, 40);
            due("a byte that is no TOKEN", r.text(), -4);
            due("its place", r.fault(1), 20 + at);
        }
        FrostRing r = new FrostRing();
        // "far " "123;" "cold" " 45;" and blanks
        due("feed", r.feed(0x66617220, 0x3132333b, 0x636f6c64, 0x2034353b, BLANKS), 20);
        due("text()", r.text(), 2);
        due("FAR", r.count(11), 123);
        due("COLD", r.count(9), 45);
        due("the least number of all", r.feed(Integer.MIN_VALUE, -1, 0, 1, Integer.MAX_VALUE), 20);
    }

    private static FrostRing ringWithTape(int n) {
        FrostRing r = new FrostRing();
        for (int i = 0; i < 35; i++) {
            r.feed(BLANKS, BLANKS, BLANKS, BLANKS, BLANKS);
        }
        due("end(" + n + ")", r.end(n), n);
        return r;
    }

    private static void fullTape() {
        Sentences.holds(2, "NONE, and none come, if it would have more than 700.");
        FrostRing r = new FrostRing();
        for (int i = 1; i <= 35; i++) {
            due("feed " + i, r.feed(BLANKS, BLANKS, BLANKS, BLANKS, BLANKS), 20 * i);
        }
        for (int n : new int[] {700, 699, 690, 681}) {
            r = ringWithTape(n);
            due("feed behind " + n, r.feed(MARKS, MARKS, MARKS, MARKS, MARKS), NONE);
            due("bytes", r.count(6), n);
            due("none came", r.text(), 0);
        }
        r = ringWithTape(680);
        due("feed behind 680", r.feed(MARKS, MARKS, MARKS, MARKS, MARKS), 700);
        due("they came", r.text(), -4);
        due("behind the 680", r.fault(1), 680);
        r = ringWithTape(681);
        due("refused", r.feed(MARKS, MARKS, MARKS, MARKS, MARKS), NONE);
        due("end(680)", r.end(680), 680);
        due("the next is not refused", r.feed(BLANKS, BLANKS, BLANKS, BLANKS, BLANKS), 700);
    }

    private static void cutTape() {
        Sentences.holds(3, "The TAPE has its first n bytes alone: n;");
        FrostRing r = new FrostRing();
        due("none of none", r.end(0), 0);
        // "far " "123;" "!!!!" three times
        r.feed(0x66617220, 0x3132333b, MARKS, MARKS, MARKS);
        due("all", r.end(20), 20);
        due("eight", r.end(8), 8);
        due("bytes", r.count(6), 8);
        due("the first of them", r.text(), 1);
        due("FAR", r.count(11), 123);
        r.feed(0x66617220, 0x3132333b, MARKS, MARKS, MARKS);
        due("six", r.end(6), 6);
        r.feed(0x393b2020, BLANKS, BLANKS, BLANKS, BLANKS);
        due("bytes", r.count(6), 26);
        due("what comes then comes behind them", r.text(), 1);
        due("FAR", r.count(11), 129);
        r.feed(MARKS, MARKS, MARKS, MARKS, MARKS);
        due("none", r.end(0), 0);
        due("nothing is left", r.text(), 0);
    }

    private static void refusedEnds() {
        Sentences.holds(3, "NONE, and nothing happens, if it has not so many, or n is below 0.");
        FrostRing r = new FrostRing();
        due("one of none", r.end(1), NONE);
        due("below 0, of none", r.end(-1), NONE);
        r.feed(0x66617220, 0x3132333b, BLANKS, BLANKS, BLANKS);
        for (int n : new int[] {21, 700, 701, Integer.MAX_VALUE, -1, -20, Integer.MIN_VALUE}) {
            due("end(" + n + ")", r.end(n), NONE);
            due("bytes", r.count(6), 20);
        }
        due("the TAPE is as it was", r.text(), 1);
        due("FAR", r.count(11), 123);
        r.feed(MARKS, MARKS, MARKS, MARKS, MARKS);
        r.end(5);
        due("what was cut off is no more", r.end(6), NONE);
    }

    // ---- what a TEXT does

    private static final String BUSY = "far 40;shaft 5 5 to 6 5;pipe 5 4 at -400 lead 60;house 4 limit 0;cold 500;"
        + "dig if tick < 9;stream 2 speed 9;lay 1 1 to 2 2 ground 3;";

    private static FrostRing busyRing() {
        FrostRing r = Check.ring(BUSY);
        wear(r);
        return r;
    }

    private static void emptyTexts() {
        Sentences.holds(4, "The TAPE (empty then) is the TEXT: how many LINES;");
        FrostRing r = new FrostRing();
        due("of no bytes", r.text(), 0);
        due("of blanks", Check.tell(r, " \n\n  "), 0);
        due("the TAPE is empty", r.count(6), 0);
        due("of one LINE", Check.tell(r, BUSY.substring(0, 7)), 1);
        due("the TAPE is empty", r.count(6), 0);
        due("LINES", r.count(0), 1);
        due("of eight", Check.tell(r, BUSY), 8);
        due("LINES", r.count(0), 8);
        due("of no bytes now", r.text(), 0);
        due("LINES", r.count(0), 0);
        due("FAR, not told", r.count(11), 100);
        due("no SHAFT", r.shut(), -6);
        due("no PIPE", r.count(2), 0);
        due("no GROUND laid", r.cell(1, 1, 0), 0);
        due("the TAPE of a FAULT", Check.tell(r, "far"), -4);
        due("is empty, too", r.count(6), 0);
    }

    /** Makes it busy: a CELL is DUG, the SHAFT FLOODED, a HOUSE CRACKED, a GAUGE belied, the PIPE stands still. */
    private static void wear(FrostRing r) {
        due("dig(5, 5)", r.dig(5, 5), 1);
        due("tick(3)", r.tick(3), 3);
        due("FROZEN", r.cell(5, 4, 3), 1);
        due("FLOODED", r.count(8), 1);
        due("CRACKED", r.cracks(), 1);
        due("gauge(9, 0, 0, 500)", r.gauge(9, 0, 0, 500), 0);
        due("belied", r.lies(99), 512);
        Sentences.due("run(0, false)", r.run(0, false), true);
        due("cold(7)", r.cold(7), 500);
    }

    /** All LINES that there are, with all that can be told, and a FAULT at the end. */
    private static final String SPOILT = "ground 0 lead 1 ice 2 latent 3 mark -4;ground 3 lead 5 ice 6 latent 7 mark -8;lay 0 0 to 11 11 ground 3;"
        + "stream 0 speed 9;stream 11 speed 30;far 7;shaft 1 1 to 10 10;pipe 0 0 at -4 lead 5;pipe 11 11 at -400 lead 60;cold 3;"
        + "house 0 limit 0;house 4 limit 9;dig if tick < 0 and lift < 0 and gaps < 0;dig if thick < 0 and shut and shut;"
        + "dig if shut and shut and shut;dig if shut and shut and shut and ";

    private static void nothingIsLeft() {
        List<Integer> asNew = Sentences.look(Check.ring(BUSY));
        List<Integer> empty = Sentences.look(new FrostRing());
        FrostRing r = new FrostRing();
        for (int i = 0; i < 4; i++) {
            due("text()", Check.tell(r, BUSY), 8);
            Sentences.same("anew, time " + i, Sentences.look(r), asNew);
            wear(r);
        }
        for (int i = 0; i < 4; i++) {
            due("of nothing", r.text(), 0);
            Sentences.same("as a new object, time " + i, Sentences.look(r), empty);
        }
        r = new FrostRing();
        for (int i = 0; i < 3; i++) {
            due("a FAULT", Check.tell(r, SPOILT), -4);
            due("at its end", r.fault(1), SPOILT.length());
            due("of nothing", r.text(), 0);
            Sentences.same("behind a FAULT, time " + i, Sentences.look(r), empty);
            due("a FAULT", Check.tell(r, SPOILT), -4);
            due("text()", Check.tell(r, BUSY), 8);
            Sentences.same("behind a FAULT, time " + i, Sentences.look(r), asNew);
            wear(r);
        }
        due("a FAULT", Check.tell(r, SPOILT), -4);
        due("four RULES of one COND", Check.tell(r, "dig if tick < 1;".repeat(4)), 4);
        for (int i = 0; i < 4; i++) {
            due("nothing of the COND that stood there", r.lacks(i), 0);
        }
    }

    private static void allBeginsAnew() {
        List<Integer> asNew = Sentences.look(Check.ring(BUSY));
        Sentences.holds(4, "all begins anew by it (CELLS are as warm as FAR, thawed, not DUG;");
        nothingIsLeft();
        FrostRing r = busyRing();
        due("text()", Check.tell(r, BUSY), 8);
        for (int c = 0; c < 144; c++) {
            due("WARM of " + c, r.cell(c % 12, c / 12, 1), 40);
            due("ICE of " + c, r.cell(c % 12, c / 12, 2), 0);
            due("state of " + c, r.cell(c % 12, c / 12, 3), 0);
        }
        due("none DUG", r.count(4), 0);
        due("all of the SHAFT may be", r.dig(5, 5), 1);
        due("HEAT is reckoned anew", r.heat(1) + r.heat(2) + r.heat(3), 0);
        due("HEAT behind the TEXT", r.heat(5), 5760);
        Sentences.holds(4, "TICK 0;");
        r = busyRing();
        due("text()", Check.tell(r, BUSY), 8);
        due("TICK", r.count(1), 0);
        Sentences.same("all is as in a new object", Sentences.look(r), asNew);
        Sentences.holds(4, "no CRACKS, GAUGES, FLOOD;");
        r = busyRing();
        due("text()", Check.tell(r, BUSY), 8);
        due("cracks()", r.cracks(), 0);
        due("house(0, 2)", r.house(0, 2), NONE);
        due("lies(0)", r.lies(0), 0);
        due("FLOODED", r.count(8), 0);
        due("how often", r.count(12), 0);
        due("pump()", r.pump(), -5);
        Sentences.holds(4, "PIPES run).");
        r = busyRing();
        due("text()", Check.tell(r, BUSY), 8);
        due("it runs", r.pipe(0, 3), 1);
        due("it took nothing", r.pipe(0, 4) + r.pipe(0, 5), 0);
        due("COLD is as told", r.count(9), 500);
        r.tick(1);
        due("it takes", r.pipe(0, 4), 264);
    }

    private static void allStays() {
        Sentences.holds(4, "-4: a FAULT (all stays).");
        String[] faulty = {"x", "far 0;", "far 7;far 7;", "far 7;shaft 1 1 to 1 1;pipe 0 0 at -1 lead 1;cold 1;house 1 limit 1"};
        for (String text : faulty) {
            FrostRing r = busyRing();
            r.row(2, 1, 3);
            r.gaps();
            r.keep(1);
            List<Integer> ahead = Sentences.look(r);
            due("text()", Check.tell(r, text), -4);
            Sentences.same("all behind " + text, Sentences.look(r), ahead);
            due("SLOTS", r.count(10), 1);
            due("GAPS", r.gap(0), 54);
            due("TICKS go on", r.tick(1), 4);
            due("IMAGES", r.back(1), 0);
            Sentences.same("what an IMAGE has", Sentences.look(r), ahead);
        }
    }

    private static void faultsTold() {
        Sentences.holds(5, "Of the latest text(), what 0: its FAULT, 0 without, 1: its place (NONE without).");
        FrostRing r = new FrostRing();
        due("a FAULT", Check.tell(r, "far 0;"), -4);
        due("fault(0)", r.fault(0), 2);
        due("fault(1)", r.fault(1), 4);
        due("asked again", r.fault(0), 2);
        due("another", Check.tell(r, "?"), -4);
        due("fault(0)", r.fault(0), 1);
        due("at the first byte", r.fault(1), 0);
        due("none", Check.tell(r, "far 5;"), 1);
        due("fault(0)", r.fault(0), 0);
        due("fault(1)", r.fault(1), NONE);
        due("a third", Check.tell(r, "far 5;far 5;"), -4);
        due("fault(0)", r.fault(0), 3);
        due("fault(1)", r.fault(1), 6);
        due("an empty one", r.text(), 0);
        due("fault(0)", r.fault(0), 0);
        due("fault(1)", r.fault(1), NONE);
    }

    private static void otherFaults() {
        Sentences.holds(5, "NONE for another what, and ahead of any (what 1).");
        FrostRing r = new FrostRing();
        due("fault(0), ahead of any", r.fault(0), 0);
        due("fault(1), ahead of any", r.fault(1), NONE);
        for (int what : new int[] {2, 3, -1, Integer.MAX_VALUE, Integer.MIN_VALUE}) {
            due("fault(" + what + "), ahead of any", r.fault(what), NONE);
            due("a FAULT", Check.tell(r, "far 0;"), -4);
            due("fault(" + what + ")", r.fault(what), NONE);
            r = new FrostRing();
        }
    }
}
