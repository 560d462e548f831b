/** For each promise ordinary calls, the edges that the document names, and wrong ones; the answers are reckoned by hand. */
public final class PromiseTests {
    private static final int NONE = FrostRing.NONE;
    private static final int NOTHING = Check.NOTHING;

    /** Four PIPES that freeze the CELLS around a SHAFT of one CELL in one TICK (each takes 401 * 60 / 100 = 240). */
    private static final String NORTH = "pipe 5 4 at -400 lead 60;";
    private static final String WEST = "pipe 4 5 at -400 lead 60;";
    private static final String EAST = "pipe 6 5 at -400 lead 60;";
    private static final String SOUTH = "pipe 5 6 at -400 lead 60;";
    private static final String SHAFT = "far 1;shaft 5 5 to 5 5;";
    private static final String RING = SHAFT + NORTH + WEST + EAST + SOUTH;

    private PromiseTests() {
    }

    public static void main(String[] args) {
        newObject();
        tape();
        goodTexts();
        firstTokens();
        bounds();
        toldTwice();
        tooMany();
        placesOfFaults();
        tickOfOnePipe();
        tickAtCorner();
        tickWithStream();
        tickOfGrounds();
        tickWithMarks();
        tickBounds();
        coldIsShared();
        pipes();
        cellsAndHeat();
        shutAndWay();
        gaps();
        thick();
        digging();
        rules();
        floods();
        lifts();
        foretelling();
        off();
        more();
        moreBounds();
        gauges();
        mostAndFrost();
        counts();
        images();
        rows();
        paste();
        Check.close("PromiseTests");
    }

    private static void due(String call, long got, long want) {
        Check.due(call, got, want);
    }

    private static FrostRing ring(String text) {
        return Check.ring(text);
    }

    // ---- promise 1

    private static void newObject() {
        FrostRing r = new FrostRing();
        due("P1 NONE", FrostRing.NONE, -1);
        due("P1 cell(11, 11, 0)", r.cell(11, 11, 0), 0);
        due("P1 cell(11, 11, 1)", r.cell(11, 11, 1), 100);
        due("P1 cell(0, 0, 2)", r.cell(0, 0, 2), 0);
        due("P1 cell(0, 0, 3)", r.cell(0, 0, 3), 0);
        due("P1 cell(0, 0, 4)", r.cell(0, 0, 4), NONE);
        due("P1 cell(5, 5, 5)", r.cell(5, 5, 5), 0);
        due("P1 count(11)", r.count(11), 100);
        due("P1 count(2)", r.count(2), 0);
        due("P1 count(9)", r.count(9), 99999);
        due("P1 heat(5)", r.heat(5), 14400);
        due("P1 shut()", r.shut(), -6);
        due("P1 tick(40)", r.tick(40), 40);
        due("P1 heat(0)", r.heat(0), 14400);
    }

    // ---- promises 2 and 3

    private static void tape() {
        FrostRing r = new FrostRing();
        for (int i = 1; i <= 35; i++) {
            due("P2 feed", r.feed(-1, 0, Integer.MIN_VALUE, Integer.MAX_VALUE, 5), 20 * i);
        }
        due("P2 feed beyond 700", r.feed(0, 0, 0, 0, 0), NONE);
        due("P2 count(6)", r.count(6), 700);
        due("P3 end(681)", r.end(681), 681);
        due("P2 feed from 681", r.feed(0, 0, 0, 0, 0), NONE);
        due("P3 end(682)", r.end(682), NONE);
        due("P3 end(-1)", r.end(-1), NONE);
        due("P3 count(6)", r.count(6), 681);
        due("P3 end(680)", r.end(680), 680);
        due("P2 feed from 680", r.feed(0, 0, 0, 0, 0), 700);
        due("P3 end(0)", r.end(0), 0);
        due("P3 end(0) again", r.end(0), 0);
        due("P3 end(1)", r.end(1), NONE);
        for (int i = 0; i < 35; i++) {
            r.feed(0x31313131, 0x31313131, 0x31313131, 0x31313131, 0x31313131);
        }
        due("P4 a TOKEN of 700 bytes", r.text(), -4);
        due("P5 its place", r.fault(1), 0);
        r.feed(0x66617220, 0x31313131, 0x31313131, 0x31313131, 0x31313131);
        due("P3 end(5)", r.end(5), 5);
        due("P4 what was behind the end is no more", r.text(), -4);
        due("P5 the end's place", r.fault(1), 5);
        // "far 7;" and fourteen bytes more, the highest byte of each number first
        due("P2 feed", r.feed(0x66617220, 0x373b2020, 0x636f6c64, 0x20393b20, 0x20202020), 20);
        due("P4 text()", r.text(), 2);
        due("P2 count(11)", r.count(11), 7);
        due("P2 count(9)", r.count(9), 9);
    }

    // ---- promises 4 and 5, and VI

    private static void goodTexts() {
        FrostRing r = new FrostRing();
        due("P5 fault(0) ahead of any", r.fault(0), 0);
        due("P5 fault(1) ahead of any", r.fault(1), NONE);
        due("P5 fault(2)", r.fault(2), NONE);
        due("P5 fault(-1)", r.fault(-1), NONE);
        due("P4 text() of nothing", r.text(), 0);
        due("P4 without blanks", Check.tell(r, "far7;pipe1 2at-3lead4;dig if shut and tick<5and lift>6;"), 3);
        due("P4 cell(1, 2, 4)", r.cell(1, 2, 4), 0);
        due("P4 pipe(0, 1)", r.pipe(0, 1), -3);
        due("P4 with many blanks", Check.tell(r, "\n\n far\n 00000000000300 \n;  \n"), 1);
        due("P4 far 300", r.count(11), 300);
        due("P4 count(2)", r.count(2), 0);
        due("P4 all words", Check.tell(r, "ground 3 lead 0 ice 15 latent 999 mark -30;lay 0 0 to 11 11 ground 3;stream 11 speed 30;"
            + "far 1;shaft 1 1 to 10 10;pipe 11 11 at -400 lead 60;cold 99999;house 10 limit 999;"
            + "dig if shut and thick<99999 and gaps>0;dig if tick>0 and lift<0;"), 10);
        due("P4 - 0", Check.tell(r, "ground 0 lead 1 ice 1 latent 1 mark - 0;pipe 0 0 at 0 lead 0;"), 2);
        due("P5 fault(1) without", r.fault(1), NONE);
        r.tick(3);
        due("P4 a FAULT", Check.tell(r, "far 1"), -4);
        due("P4 the TAPE is empty then", r.count(6), 0);
        due("P4 all stays: TICK", r.count(1), 3);
        due("P4 all stays: LINES", r.count(0), 2);
        due("P5 fault(0)", r.fault(0), 1);
        due("P5 fault(1)", r.fault(1), 5);
        due("P4 begins anew", Check.tell(r, RING), 6);
        due("P4 TICK", r.count(1), 0);
        due("P5 fault(0) then", r.fault(0), 0);
        beginsAnew();
    }

    private static void beginsAnew() {
        FrostRing r = ring(RING + "house 3 limit 0;cold 5000;");
        r.dig(5, 5);
        r.run(0, false);
        r.tick(1);
        r.gauge(0, 0, 0, 500);
        r.cold(7);
        due("P4 cracked ahead", r.cracks(), 1);
        due("P4 flooded ahead", r.count(8), 1);
        due("P4 a liar ahead", r.lies(0), 1);
        Check.tell(r, RING + "house 3 limit 0;");
        due("P4 no CRACKS", r.cracks(), 0);
        due("P4 no CRACKS, its TICK", r.house(0, 2), NONE);
        due("P4 no GAUGES", r.lies(0), 0);
        due("P4 no FLOOD", r.count(8), 0);
        due("P4 no FLOODS", r.count(12), 0);
        due("P4 not DUG", r.count(4), 0);
        due("P4 thawed", r.cell(4, 5, 2), 0);
        due("P4 as warm as FAR", r.cell(4, 5, 1), 1);
        due("P4 PIPES run", r.pipe(0, 3), 1);
        due("P4 none has taken", r.pipe(0, 5), 0);
        due("P4 COLD is not told", r.count(9), 99999);
        for (int i = 1; i < 5; i++) {
            due("P4 heat(" + i + ")", r.heat(i), 0);
        }
        due("P4 heat(5)", r.heat(5), 144);
    }

    private static void fault(String text, int which, int place) {
        FrostRing r = new FrostRing();
        due("P4 text() of " + text, Check.tell(r, text), -4);
        due("P5 fault(0) of " + text, r.fault(0), which);
        due("P5 fault(1) of " + text, r.fault(1), place);
    }

    private static void firstTokens() {
        fault("x", 1, 0);
        fault(" Far 1;", 1, 1);
        fault(";", 1, 0);
        fault("7", 1, 0);
        fault("far 1;-", 1, 6);
        fault("fars 1;", 1, 0);
        fault("fa r 1;", 1, 0);
        fault("far\t1;", 1, 3);
        fault("far 1\0;", 1, 5);
        fault("far 1;\r", 1, 6);
        fault("far 1;\u00e9", 1, 6);
        fault("farz 1;", 1, 0);
        fault("far -1;", 1, 4);
        fault("far", 1, 3);
        fault("far  ", 1, 5);
        fault("far 1 2;", 1, 6);
        fault("far 1 far 2;", 1, 6);
        fault("mark 1;", 1, 0);
        fault("ground 0 ice 1", 1, 9);
        fault("lay 0 0 1", 1, 8);
        fault("shaft 2 2 to 3;", 1, 14);
        fault("pipe 0 0 at --1 lead 1;", 1, 13);
        fault("pipe 0 0 at - lead 1;", 1, 14);
        fault("house 1 lead 1;", 1, 8);
        fault("stream 1 1;", 1, 9);
        fault("dig shut;", 1, 4);
        fault("dig if ;", 1, 7);
        fault("dig if shut shut;", 1, 12);
        fault("dig if shut > 1;", 1, 12);
        fault("dig if shut and;", 1, 15);
        fault("dig if thick 1;", 1, 13);
        fault("dig if thick - 1;", 1, 13);
        fault("dig if thick < -1;", 1, 15);
        fault("dig if wide < 1;", 1, 7);
    }

    private static void bounds() {
        fault("ground 4 lead", 2, 7);
        fault("ground 0 lead 16", 2, 14);
        fault("ground 0 lead 1 ice 16", 2, 20);
        fault("ground 0 lead 1 ice 1 latent 0", 2, 29);
        fault("ground 0 lead 1 ice 1 latent 1000", 2, 29);
        fault("ground 0 lead 1 ice 1 latent 1 mark 1;", 2, 36);
        fault("ground 0 lead 1 ice 1 latent 1 mark - 31;", 2, 38);
        fault("lay 12 0 to", 2, 4);
        fault("lay 0 12 to", 2, 6);
        fault("lay 5 5 to 4 5", 2, 11);
        fault("lay 5 5 to 5 4", 2, 13);
        fault("lay 5 5 to 12 5", 2, 11);
        fault("lay 5 5 to 5 12", 2, 13);
        fault("lay 5 5 to 5 5 ground 4", 2, 22);
        fault("stream 12", 2, 7);
        fault("stream 1 speed 31", 2, 15);
        fault("far 0;", 2, 4);
        fault("far 301;", 2, 4);
        fault("far 4294967297;", 2, 4);
        fault("far 18446744073709551617;", 2, 4);
        fault("shaft 0 1", 2, 6);
        fault("shaft 1 0", 2, 8);
        fault("shaft 11 1", 2, 6);
        fault("shaft 1 11", 2, 8);
        fault("shaft 5 5 to 11 5", 2, 13);
        fault("shaft 5 5 to 5 4", 2, 15);
        fault("shaft 5 5 to 4 5", 2, 13);
        fault("shaft 5 5 to 5 11", 2, 15);
        fault("pipe 12 0", 2, 5);
        fault("pipe 0 12", 2, 7);
        fault("pipe 0 0 at 1 lead 1;", 2, 12);
        fault("pipe 0 0 at -401 lead 1;", 2, 13);
        fault("pipe 0 0 at -400 lead 61;", 2, 22);
        fault("cold 100000;", 2, 5);
        fault("house 11 limit 1;", 2, 6);
        fault("house 1 limit 1000;", 2, 14);
        fault("dig if tick < 100000;", 2, 14);
    }

    private static void toldTwice() {
        String ground = "ground 2 lead 1 ice 1 latent 1 mark 0;";
        fault(ground + "ground 2;", 2, ground.length() + 7);
        fault("stream 3 speed 0;stream 3 speed 0;", 2, 24);
        fault("pipe 3 4 at 0 lead 0;pipe 3 4 at 0 lead 0;", 2, 28);
        fault("far 1;far 1;", 3, 6);
        fault("far 1;far", 3, 6);
        fault("shaft 1 1 to 1 1;shaft 1 1 to 1 1;", 3, 17);
        fault("cold 1;cold 1;", 3, 7);
        due("P4 houses of one column", Check.tell(new FrostRing(), "house 1 limit 1;house 1 limit 1;"), 2);
        due("P4 a lay again", Check.tell(new FrostRing(), "lay 1 1 to 1 1 ground 0;lay 1 1 to 1 1 ground 1;"), 2);
    }

    private static void tooMany() {
        String forty = "house0limit0;".repeat(6) + "dig if shut;".repeat(4);
        for (int i = 0; i < 12; i++) {
            forty += "pipe0 " + i + "at0lead0;";
        }
        for (int i = 0; i < 12; i++) {
            forty += "stream" + i + "speed0;";
        }
        String forty1 = forty + "far1;cold0;shaft1 1to1 1;lay0 0to0 0ground0;lay0 0to0 0ground0;lay0 0to0 0ground0;";
        due("P4 40 LINES", Check.tell(new FrostRing(), forty1), 40);
        fault(forty1 + "lay", 3, forty1.length());
        fault(forty1 + " far 2;", 3, forty1.length() + 1);
        fault(forty1 + "to", 1, forty1.length());
        fault(forty + "pipe", 3, forty.length());
        fault(forty + "house 0 limit 0;", 3, forty.length());
        fault(forty + "dig", 3, forty.length());
        fault("dig if shut and shut and shut and shut;", 3, 34);
        fault("dig if shut and shut and shut and tick < 1;", 3, 34);
        fault("dig if shut and shut and shut and far;", 1, 34);
        fault("dig if shut and shut and shut and", 1, 33);
        fault("dig if shut and tick < 1 and lift > 1 and gaps < 1;", 3, 42);
    }

    private static void placesOfFaults() {
        fault("far 0;far x", 2, 4);
        fault("far x far 0;", 1, 4);
        fault("far 1 ;house 11 limit !", 2, 13);
        fault("house 1!limit 9999", 1, 7);
    }

    // ---- promise 6 (and I)

    private static void tickOfOnePipe() {
        FrostRing r = ring("pipe 5 5 at -100 lead 50;");
        due("P6 tick(1)", r.tick(1), 1);
        due("P10 pipe(0, 4)", r.pipe(0, 4), 100);
        due("P6 WARM falls to the mark", r.cell(5, 5, 1), 0);
        due("P6 no ICE yet", r.cell(5, 5, 2), 0);
        due("P6 the next is as it was", r.cell(5, 4, 1), 100);
        due("P6 tick(1)", r.tick(1), 2);
        due("P6 4 * 10 come, 50 are taken", r.cell(5, 5, 2), 10);
        due("P6 right", r.cell(6, 5, 1), 90);
        due("P6 left", r.cell(4, 5, 1), 90);
        due("P6 above", r.cell(5, 4, 1), 90);
        due("P6 below", r.cell(5, 6, 1), 90);
        due("P6 aslant", r.cell(6, 6, 1), 100);
        due("P6 tick(1)", r.tick(1), 3);
        due("P6 4 * 9 come, 50 are taken", r.cell(5, 5, 2), 24);
        due("P6 -9 and 3 * 1", r.cell(6, 5, 1), 84);
        due("P6 beside two that are colder", r.cell(6, 6, 1), 98);
        due("P8 heat(1)", r.heat(1), 200);
        due("P8 heat(0)", r.heat(0), 14200);
        due("P10 pipe(0, 5)", r.pipe(0, 5), 200);
        due("P6 tick(2)", r.tick(2), 5);
    }

    private static void tickAtCorner() {
        FrostRing r = ring("pipe 0 0 at -100 lead 50;");
        r.tick(2);
        due("P6 over both sides of a corner", r.cell(0, 0, 2), 10);
        due("P8 heat(2)", r.heat(2), 20);
        r = ring("pipe 11 5 at -100 lead 50;");
        r.tick(2);
        due("P6 over one side", r.cell(11, 5, 2), 10);
        due("P8 heat(2)", r.heat(2), 10);
    }

    private static void tickWithStream() {
        FrostRing r = ring("far 50;stream 3 speed 20;pipe 0 3 at -400 lead 60;");
        r.tick(1);
        due("P6 frozen at once", r.cell(0, 3, 3), 1);
        due("P6 the rest lowers WARM", r.cell(0, 3, 1), -120);
        r.tick(1);
        due("P6 frozen: 3 * 17 led by the lesser, 25 over the RIM, no STREAM, 168 taken", r.cell(0, 3, 1), -212);
        due("P6 no STREAM from a FROZEN CELL", r.cell(1, 3, 1), 33);
        due("P8 heat(3)", r.heat(3), 0);
        r.tick(1);
        due("P6 led -1, streamed -3", r.cell(2, 3, 1), 46);
        due("P8 heat(3)", r.heat(3), -3);
        r = ring("far 50;stream 3 speed 20;pipe 0 3 at 0 lead 60;");
        r.tick(2);
        due("P6 STREAM from FAR: 20 - 12 + 3 * 3 led + 3 + 6", r.cell(0, 3, 1), 26);
        due("P6 and on to the right: -3 led, -6 streamed", r.cell(1, 3, 1), 41);
        due("P8 heat(3)", r.heat(3), 0);
        due("P8 heat(2)", r.heat(2), 3);
    }

    private static void tickOfGrounds() {
        String grounds = "ground 1 lead 3 ice 0 latent 5 mark -7;lay 5 5 to 5 5 ground 1;";
        FrostRing r = ring(grounds + "pipe 5 5 at -100 lead 50;lay 0 0 to 0 0 ground 2;");
        due("P7 GROUND", r.cell(5, 5, 0), 1);
        due("P7 GROUND 2", r.cell(0, 0, 0), 2);
        r.tick(1);
        due("P6 100 are taken", r.cell(5, 5, 1), 0);
        r.tick(1);
        due("P6 4 * 3 led, 50 taken: to the mark 7, 5 freeze, 26 below", r.cell(5, 5, 1), -33);
        due("P6 FROZEN at its own latent", r.cell(5, 5, 3), 1);
        due("P6 the lesser lead", r.cell(5, 4, 1), 97);
        r.tick(1);
        due("P6 FROZEN, it leads nothing: 33 taken", r.cell(5, 5, 1), -66);
        due("P6 nothing goes to it", r.cell(5, 4, 1), 97);
    }

    private static void tickWithMarks() {
        String text = "ground 0 lead 0 ice 15 latent 10 mark -10;far 100;pipe 0 5 at -400 lead 30;";
        FrostRing r = ring(text);
        r.tick(1);
        due("P6 150 are taken: 110, 10, 30", r.cell(0, 5, 1), -40);
        r.run(0, false);
        r.tick(1);
        due("P6 21 come over the RIM", r.cell(0, 5, 1), -19);
        due("P6 still FROZEN", r.cell(0, 5, 3), 1);
        r.tick(1);
        due("P6 17 come: 9 to the mark", r.cell(0, 5, 1), -10);
        due("P6 8 thaw", r.cell(0, 5, 2), 2);
        due("P6 thawed in part", r.cell(0, 5, 3), 0);
        r.tick(1);
        due("P6 not FROZEN, it leads nothing", r.cell(0, 5, 2), 2);
        r = ring("ground 0 lead 10 ice 15 latent 10 mark -10;far 100;pipe 0 0 at -400 lead 30;");
        r.tick(1);
        r.run(0, false);
        r.tick(1);
        due("P6 2 * 21 and 2 * 14 come: 30, 10, 30", r.cell(0, 0, 1), 20);
        due("P6 all thawed", r.cell(0, 0, 2), 0);
    }

    private static void tickBounds() {
        FrostRing r = new FrostRing();
        due("P6 tick(0)", r.tick(0), -2);
        due("P6 tick(-1)", r.tick(-1), -2);
        due("P6 tick(41)", r.tick(41), -2);
        due("P6 tick(most)", r.tick(Integer.MAX_VALUE), -2);
        for (int i = 1; i < 50; i++) {
            due("P6 tick(40)", r.tick(40), 40 * i);
        }
        due("P6 tick(39)", r.tick(39), 1999);
        due("P6 tick(2)", r.tick(2), -3);
        due("P6 nothing is done", r.count(1), 1999);
        due("P6 tick(1)", r.tick(1), 2000);
        due("P6 tick(1) beyond", r.tick(1), -3);
        due("P6 tick(41) beyond", r.tick(41), -2);
    }

    // ---- promises 9 to 11

    private static void coldIsShared() {
        String two = "pipe 2 2 at -100 lead 50;pipe 8 8 at 0 lead 50;";
        FrostRing r = ring(two + "cold 10;");
        r.tick(1);
        due("P11 100 * 10 / 150", r.pipe(0, 4), 6);
        due("P11 50 * 10 / 150", r.pipe(1, 4), 3);
        due("P11 heat(1)", r.heat(1), 9);
        due("P11 what it was", r.cold(0), 10);
        r.tick(1);
        due("P11 no COLD", r.pipe(0, 4), 0);
        due("P11 in all", r.pipe(0, 5), 6);
        due("P11 cold(-1)", r.cold(-1), -2);
        due("P11 cold(100000)", r.cold(100000), -2);
        due("P11 cold(99999)", r.cold(99999), 0);
        due("P11 count(9)", r.count(9), 99999);
        r = ring(two + "cold 150;");
        r.tick(1);
        due("P11 just enough", r.pipe(0, 4), 100);
        r = ring(two + "cold 149;");
        r.tick(1);
        due("P11 100 * 149 / 150", r.pipe(0, 4), 99);
        due("P11 50 * 149 / 150", r.pipe(1, 4), 49);
    }

    private static void pipes() {
        FrostRing r = ring("pipe 2 3 at -100 lead 50;pipe 8 8 at 0 lead 33;");
        due("P9 run(0, true)", r.run(0, true) ? 1 : 0, 0);
        due("P9 run(0, false)", r.run(0, false) ? 1 : 0, 1);
        due("P9 run(0, false) again", r.run(0, false) ? 1 : 0, 0);
        due("P9 run(2, true)", r.run(2, true) ? 1 : 0, 0);
        due("P9 run(-1, false)", r.run(-1, false) ? 1 : 0, 0);
        due("P10 pipe(0, 0)", r.pipe(0, 0), 38);
        due("P10 pipe(0, 1)", r.pipe(0, 1), -100);
        due("P10 pipe(0, 2)", r.pipe(0, 2), 50);
        due("P10 pipe(0, 3)", r.pipe(0, 3), 0);
        due("P10 pipe(1, 3)", r.pipe(1, 3), 1);
        due("P10 pipe(1, 4)", r.pipe(1, 4), 0);
        r.tick(1);
        due("P9 it takes nothing", r.pipe(0, 4), 0);
        due("P9 its CELL stays", r.cell(2, 3, 1), 100);
        due("P10 33 percent of 100", r.pipe(1, 4), 33);
        r.tick(1);
        due("P10 33 percent of 67, rounded down", r.pipe(1, 4), 22);
        due("P10 pipe(1, 5)", r.pipe(1, 5), 55);
        due("P9 run(0, true)", r.run(0, true) ? 1 : 0, 1);
        r.tick(1);
        due("P9 it takes", r.pipe(0, 4), 100);
        due("P9 run(0, false)", r.run(0, false) ? 1 : 0, 1);
        due("P10 the latest TICK's stays", r.pipe(0, 4), 100);
        due("P10 pipe(0, 6)", r.pipe(0, 6), NOTHING);
        due("P10 pipe(0, -1)", r.pipe(0, -1), NOTHING);
        due("P10 pipe(2, 0)", r.pipe(2, 0), NOTHING);
        due("P10 pipe(-1, 0)", r.pipe(-1, 0), NOTHING);
        r = ring("ground 0 lead 0 ice 0 latent 1 mark 0;far 10;pipe 5 5 at 0 lead 60;pipe 6 6 at 0 lead 10;");
        r.tick(40);
        due("P10 as warm as what runs through", r.cell(5, 5, 1), 1);
        due("P10 60 percent of 1", r.pipe(0, 4), 0);
        due("P10 10 percent of 9", r.cell(6, 6, 1), 9);
    }

    // ---- promises 7 and 8

    private static void cellsAndHeat() {
        FrostRing r = ring("far 40;shaft 4 6 to 5 6;pipe 4 6 at -100 lead 50;pipe 11 0 at 0 lead 50;lay 3 5 to 4 6 ground 3;");
        due("P7 GROUND", r.cell(3, 6, 0), 3);
        due("P7 no GROUND laid", r.cell(5, 6, 0), 0);
        due("P7 its PIPE", r.cell(11, 0, 4), 1);
        due("P7 no PIPE", r.cell(10, 0, 4), NONE);
        due("P7 of the SHAFT", r.cell(5, 6, 5), 1);
        due("P7 none of it", r.cell(6, 6, 5), 0);
        due("P7 x below", r.cell(-1, 0, 0), NOTHING);
        due("P7 y below", r.cell(0, -1, 0), NOTHING);
        due("P7 x above", r.cell(12, 0, 0), NOTHING);
        due("P7 y above", r.cell(0, 12, 0), NOTHING);
        due("P7 what above", r.cell(0, 0, 6), NOTHING);
        due("P7 what below", r.cell(0, 0, -1), NOTHING);
        due("P8 heat(5)", r.heat(5), 5760);
        r.tick(1);
        due("P8 heat(1)", r.heat(1), 90);
        due("P7 30 of 70 freeze", r.cell(4, 6, 2), 30);
        due("P8 WARM less ICE", r.heat(0), 5670);
        due("P17 dig(4, 6)", r.dig(4, 6), 1);
        due("P8 heat(4)", r.heat(4), -30);
        due("P8 heat(0)", r.heat(0), 5700);
        due("P8 heat(5) stays", r.heat(5), 5760);
        due("P7 DUG", r.cell(4, 6, 3), 2);
        due("P7 a DUG CELL keeps its ICE", r.cell(4, 6, 2), 30);
        due("P7 and its PIPE", r.cell(4, 6, 4), 0);
        r.tick(1);
        due("P10 the PIPE takes nothing there", r.pipe(0, 4), 0);
        due("P7 no HEAT goes to a DUG CELL", r.cell(5, 6, 1), 40);
        due("P7 none comes to it", r.cell(4, 6, 1), 0);
        due("P8 heat(6)", r.heat(6), NOTHING);
        due("P8 heat(-1)", r.heat(-1), NOTHING);
    }

    // ---- promises 12 to 16

    private static void shutAndWay() {
        FrostRing r = ring(RING);
        due("P12 shut()", r.shut(), 0);
        due("P13 way()", r.way(), 5);
        r.tick(1);
        due("P12 shut()", r.shut(), 1);
        due("P13 way()", r.way(), NONE);
        r = ring(SHAFT + NORTH + WEST + EAST);
        r.tick(1);
        due("P12 one is open", r.shut(), 0);
        due("P13 downward", r.way(), 6);
        r = ring(SHAFT + WEST + EAST + SOUTH);
        r.tick(1);
        due("P13 upward", r.way(), 5);
        r = ring("far 1;shaft 1 1 to 1 1;");
        due("P13 at the RIM at once", r.way(), 1);
        r = ring("far 1;shaft 1 1 to 10 10;");
        due("P13 the greatest SHAFT", r.way(), 1);
        due("P14 as many as stand beside it", r.gaps(), 40);
        due("P15 gap(0)", r.gap(0), 1);
        due("P15 gap(39)", r.gap(39), 142);
        due("P15 gap(40)", r.gap(40), NONE);
        r = ring("far 1;shaft 5 5 to 5 5;pipe 5 5 at -400 lead 60;");
        r.tick(1);
        due("P12 a FROZEN SHAFT is open", r.shut(), 0);
        due("P7 it is FROZEN", r.cell(5, 5, 3), 1);
    }

    private static void gaps() {
        FrostRing r = ring("shaft 1 1 to 1 1;");
        due("P15 ahead of any", r.gap(0), NONE);
        due("P14 gaps()", r.gaps(), 4);
        int[] four = {1, 12, 14, 25};
        for (int i = 0; i < 4; i++) {
            due("P15 gap(" + i + ")", r.gap(i), four[i]);
        }
        due("P15 gap(4)", r.gap(4), NONE);
        due("P15 gap(-1)", r.gap(-1), NONE);
        r = ring(SHAFT + NORTH + WEST + EAST);
        due("P14 gaps()", r.gaps(), 4);
        r.tick(1);
        due("P15 those that were TOLD", r.gap(3), 77);
        due("P14 gaps()", r.gaps(), 1);
        due("P15 gap(0)", r.gap(0), 77);
        due("P15 gap(1)", r.gap(1), NONE);
        r = ring(RING);
        due("P14 gaps()", r.gaps(), 4);
        r.tick(1);
        due("P14 shut", r.gaps(), 0);
        due("P15 none", r.gap(0), NONE);
        // a pocket below the SHAFT: its neck (89) would shut, but what lies before the neck leaves fewer CELLS
        r = ring("far 1;shaft 4 5 to 6 5;pipe 3 5 at -400 lead 60;pipe 7 5 at -400 lead 60;pipe 4 4 at -400 lead 60;"
            + "pipe 5 4 at -400 lead 60;pipe 6 4 at -400 lead 60;pipe 3 6 at -400 lead 60;pipe 7 6 at -400 lead 60;"
            + "pipe 4 7 at -400 lead 60;pipe 6 7 at -400 lead 60;");
        r.tick(1);
        due("P14 fewer than stand beside the SHAFT", r.gaps(), 1);
        due("P15 which leaves the fewest CELLS", r.gap(0), 77);
        due("P13 through the neck", r.way(), 6);
    }

    private static void thick() {
        FrostRing r = ring(RING);
        due("P16 open", r.thick(), 0);
        r.tick(1);
        due("P16 one", r.thick(), 1);
        String outer = "pipe 5 3 at -400 lead 60;pipe 4 4 at -400 lead 60;pipe 6 4 at -400 lead 60;pipe 3 5 at -400 lead 60;"
            + "pipe 7 5 at -400 lead 60;pipe 4 6 at -400 lead 60;pipe 6 6 at -400 lead 60;";
        r = ring(RING + outer);
        r.tick(1);
        due("P16 the weakest place counts", r.thick(), 1);
        r = ring(RING + outer + "pipe 5 7 at -400 lead 60;");
        r.tick(1);
        due("P16 two", r.thick(), 2);
    }

    // ---- promises 17 to 19 (and III)

    private static void digging() {
        FrostRing r = ring("shaft 4 5 to 5 6;");
        due("P17 dig(4, 5)", r.dig(4, 5), 3);
        due("P17 dig(4, 5) again", r.dig(4, 5), -2);
        due("P17 none of it", r.dig(3, 5), -2);
        due("P17 dig(-1, 5)", r.dig(-1, 5), -2);
        due("P17 dig(5, 12)", r.dig(5, 12), -2);
        due("P17 dig(5, 6)", r.dig(5, 6), 2);
        due("P31 count(4)", r.count(4), 2);
        r.tick(1);
        due("P17 FLOODED", r.dig(5, 5), -7);
        due("P17 FLOODED, and DUG", r.dig(5, 6), -2);
    }

    private static void rules() {
        FrostRing r = ring(RING + "dig if shut and thick > 0 and gaps < 1;dig if tick > 1;dig if lift > 19 and tick < 1;");
        due("P18 lacks(0)", r.lacks(0), 7);
        due("P18 lacks(1)", r.lacks(1), 1);
        due("P18 lacks(2)", r.lacks(2), 1);
        due("P18 lacks(3)", r.lacks(3), NONE);
        due("P18 lacks(-1)", r.lacks(-1), NONE);
        due("P17 no RULE lets it", r.dig(5, 5), -5);
        due("P17 none of it, ahead of RULES", r.dig(5, 4), -2);
        r.gaps();
        r.tick(1);
        due("P18 lacks(0)", r.lacks(0), 0);
        due("P15 RULES tell no GAPS", r.gap(3), 77);
        due("P18 TICK 1 is not above 1", r.lacks(1), 1);
        due("P18 LIFT 20", r.lacks(2), 2);
        due("P17 one RULE lets it", r.dig(5, 5), 0);
        r = ring("dig if shut;dig if thick < 1 and gaps < 1;dig if thick > 0 and gaps > 0;");
        due("P18 without a SHAFT", r.lacks(0), 1);
        due("P18 thick and gaps are 0", r.lacks(1), 0);
        due("P18 and not more", r.lacks(2), 3);
        for (int x = 0; x < 12; x++) {
            r = ring("far 1;pipe " + x + " 3 at -400 lead 60;dig if lift > 9 and lift < 10;");
            r.tick(1);
            due("P18 the greatest of all columns", r.lacks(0), 2);
        }
        r = ring("dig if lift > 0;");
        due("P18 no LIFT", r.lacks(0), 1);
        r = ring(RING + "dig if gaps < 4 and gaps > 4 and gaps > 3;");
        due("P18 four GAPS", r.lacks(0), 3);
        r = ring(RING + "dig if tick < 1;");
        due("P17 a RULE lets it", r.dig(5, 5), 0);
    }

    private static void floods() {
        FrostRing r = ring("far 1;shaft 5 5 to 6 5;" + NORTH + WEST + SOUTH + "pipe 6 4 at -400 lead 60;"
            + "pipe 7 5 at -400 lead 60;pipe 6 6 at -400 lead 60;dig if tick < 99;");
        due("P19 not FLOODED", r.pump(), -5);
        r.run(0, false);
        due("P17 dig(5, 5)", r.dig(5, 5), 1);
        due("P31 behind a TICK only", r.count(8), 0);
        r.tick(1);
        due("P31 FLOODED", r.count(8), 1);
        due("P31 once", r.count(12), 1);
        due("P17 FLOODED", r.dig(6, 5), -7);
        due("P19 not SHUT", r.pump(), -8);
        r.tick(1);
        due("P31 still once", r.count(12), 1);
        r.run(0, true);
        r.tick(1);
        due("P12 SHUT", r.shut(), 1);
        due("P31 it stays FLOODED", r.count(8), 1);
        due("P17 still FLOODED", r.dig(6, 5), -7);
        due("P19 pump()", r.pump(), 0);
        due("P31 no more", r.count(8), 0);
        due("P31 how often", r.count(12), 1);
        due("P19 pump() again", r.pump(), -5);
        r.tick(1);
        due("P31 SHUT, it stays dry", r.count(8), 0);
        due("P17 dig(6, 5)", r.dig(6, 5), 0);
        floodedTwice();
        due("P19 no SHAFT", new FrostRing().pump(), -6);
        r = ring("shaft 5 5 to 5 5;");
        r.tick(1);
        due("P31 nothing DUG", r.count(8), 0);
        r = ring("shaft 5 5 to 6 5;dig if tick < 1;");
        r.dig(5, 5);
        r.tick(1);
        due("P17 no RULE, ahead of the FLOOD", r.dig(6, 5), -5);
    }

    private static void floodedTwice() {
        FrostRing r = ring("ground 0 lead 15 ice 15 latent 1 mark 0;far 300;" + RING.substring(6));
        r.tick(1);
        r.dig(5, 5);
        for (int i = 1; i <= 2; i++) {
            int cold = r.cold(0);
            due("P31 dry", r.count(8), 0);
            r.tick(1);
            due("P31 FLOODED", r.count(8), 1);
            due("P31 how often", r.count(12), i);
            r.cold(cold);
            r.tick(1);
            due("P19 SHUT again", r.pump(), 0);
        }
    }

    // ---- promises 20 to 22

    private static void lifts() {
        FrostRing r = ring(RING + "house 4 limit 9;house 5 limit 10;house 3 limit 9;house 0 limit 0;");
        due("P20 lift(5)", r.lift(5), 0);
        due("P22 house(0, 2)", r.house(0, 2), NONE);
        r.tick(1);
        due("P20 lift(5)", r.lift(5), 20);
        due("P20 lift(4)", r.lift(4), 10);
        due("P20 lift(0)", r.lift(0), 0);
        due("P20 lift(11)", r.lift(11), 0);
        due("P20 lift(12)", r.lift(12), NOTHING);
        due("P20 lift(-1)", r.lift(-1), NOTHING);
        due("P21 cracks()", r.cracks(), 5);
        due("P22 house(0, 2)", r.house(0, 2), 1);
        due("P22 just the limit", r.house(1, 2), NONE);
        due("P22 house(2, 2)", r.house(2, 2), 1);
        due("P22 house(2, 0)", r.house(2, 0), 3);
        due("P22 house(2, 1)", r.house(2, 1), 9);
        due("P22 house(2, 3)", r.house(2, 3), NOTHING);
        due("P22 house(2, -1)", r.house(2, -1), NOTHING);
        due("P22 house(4, 0)", r.house(4, 0), NOTHING);
        due("P22 house(-1, 0)", r.house(-1, 0), NOTHING);
        r.tick(1);
        due("P22 once", r.house(0, 2), 1);
        // 19 of ICE each: a tenth is rounded down for each CELL
        String leads = "ground 0 lead 0 ice 0 latent 100 mark 0;far 1;";
        r = ring(leads + "shaft 5 5 to 5 5;pipe 5 4 at -33 lead 60;pipe 5 5 at -33 lead 60;house 4 limit 1;house 5 limit 2;");
        r.tick(1);
        due("P7 ICE 19", r.cell(5, 4, 2), 19);
        due("P20 1 + 1", r.lift(5), 2);
        due("P21 cracks()", r.cracks(), 1);
        due("P17 dig", r.dig(5, 5), 0);
        due("P20 DUG ones do not lift", r.lift(5), 1);
    }

    // ---- promises 23 and 24

    private static void foretelling() {
        FrostRing r = ring(RING);
        due("P23 foretell()", r.foretell(), 1);
        due("P23 nothing has gone by", r.count(1), 0);
        due("P23 nothing is frozen", r.count(3), 0);
        due("P23 nothing is taken", r.pipe(0, 4), 0);
        r.tick(1);
        due("P23 now", r.foretell(), 0);
        due("P23 no SHAFT", new FrostRing().foretell(), -6);
        r = ring("ground 0 lead 0 ice 0 latent 360 mark 0;far 1;shaft 1 1 to 1 1;pipe 1 0 at -10 lead 60;"
            + "pipe 0 1 at -10 lead 60;pipe 2 1 at -10 lead 60;pipe 1 2 at -10 lead 60;");
        due("P23 1 of WARM and 5 of ICE, then 59 * 6 are 359", r.foretell(), NONE);
        due("P6 tick(1)", r.tick(1), 1);
        due("P7 ICE 5", r.cell(1, 0, 2), 5);
        due("P23 60 more", r.foretell(), 60);
        due("P6 tick(1)", r.tick(1), 2);
        due("P23 59 more", r.foretell(), 59);
        r.run(3, false);
        due("P23 if all goes on so", r.foretell(), NONE);
    }

    private static void off() {
        String still = "ground 0 lead 0 ice 15 latent 9 mark 0;";
        FrostRing r = ring(still + RING);
        due("P24 no SHAFT", new FrostRing().off(), -6);
        due("P24 not SHUT", r.off(), -5);
        r.tick(1);
        due("P24 it never thaws", r.off(), NONE);
        String quick = "ground 0 lead 15 ice 15 latent 1 mark 0;far 300;";
        r = ring(quick + RING.substring(6));
        r.tick(1);
        due("P12 SHUT", r.shut(), 1);
        due("P24 in one TICK", r.off(), 1);
        due("P24 the PIPES run", r.pipe(0, 3), 1);
        due("P24 nothing has thawed", r.shut(), 1);
        r = ring("far 100;" + RING.substring(6));
        r.tick(2);
        int first = r.off();
        due("P24 within 60 TICKS, but not at once", first > 1 ? 1 : 0, 1);
        for (int p = 0; p < 4; p++) {
            r.run(p, false);
        }
        for (int i = 1; i < first; i++) {
            r.tick(1);
            due("P24 SHUT till then", r.shut(), 1);
        }
        due("P24 the last TICK", r.off(), 1);
        r.tick(1);
        due("P24 open then", r.shut(), 0);
    }

    // ---- promises 25 and 26 (and V)

    private static void fill(FrostRing r, int slot, int width, int... numbers) {
        due("P34 row", r.row(slot, width, numbers.length), 0);
        for (int i = 0; i < numbers.length; i++) {
            due("P35 write", r.write(slot, i, numbers[i]), 0);
        }
    }

    private static void more() {
        FrostRing r = ring(SHAFT + NORTH + WEST + EAST);
        due("P26 without", r.chosen(), 0);
        fill(r, 0, 1, 0, 77, 100);
        due("P25 one of three", r.more(0, 1), 1);
        due("P26 the second", r.chosen(), 2);
        due("P25 no PIPE is added", r.count(2), 3);
        due("P25 no TICK goes by", r.count(1), 0);
        fill(r, 1, 2, 0, 143);
        due("P25 not by all", r.more(1, 1), NONE);
        due("P26 of the latest that told a number", r.chosen(), 2);
        r = ring(SHAFT + NORTH);
        fill(r, 0, 3, 66, 0, 77, 64, 12);
        due("P25 three", r.more(0, 1), 3);
        due("P26 places 0, 2, 3", r.chosen(), 13);
        r.run(0, false);
        due("P25 a PIPE that does not run goes on so", r.more(0, 1), NONE);
        r = ring(RING);
        fill(r, 0, 0, 0);
        due("P25 none is needed", r.more(0, 1), 0);
        due("P26 none", r.chosen(), 0);
        fill(r, 0, 0);
        due("P25 an empty row", r.more(0, 30), 0);
        r = ring(SHAFT + NORTH + "cold 900;");
        fill(r, 0, 0, 64, 66, 77);
        due("P25 225 for each are enough", r.more(0, 1), 3);
        r.cold(400);
        due("P25 100 for each are not: 1 of WARM, 99 of ICE", r.more(0, 1), NONE);
        r.cold(404);
        due("P25 101 are", r.more(0, 1), 3);
        // of PIPE 0 what runs through and the lead: 101 * 60 / 100 = 60 take two TICKS to freeze
        r = ring(SHAFT + "pipe 5 4 at -100 lead 60;" + WEST + EAST);
        fill(r, 0, 0, 77);
        due("P25 as PIPE 0 is told", r.more(0, 1), NONE);
        due("P25 as PIPE 0 is told", r.more(0, 2), 1);
        placesAsARow();
    }

    /** Either of two pairs shuts; {0, 3} stands before {1, 2} as a row of places, though not as bits. */
    private static void placesAsARow() {
        FrostRing r = ring("ground 0 lead 0 ice 0 latent 1 mark 0;ground 1 lead 0 ice 0 latent 999 mark 0;lay 0 0 to 11 11 ground 1;"
            + "lay 0 1 to 2 1 ground 0;lay 1 0 to 1 2 ground 0;far 1;shaft 1 1 to 1 1;"
            + "pipe 1 0 at -400 lead 60;pipe 0 1 at -400 lead 60;lay 3 1 to 3 1 ground 0;");
        fill(r, 0, 1, 14, 90, 91, 25);
        due("P25 a pair", r.more(0, 1), 2);
        due("P26 the pair", r.chosen(), 9);
        // a corridor of one CELL, closed by frost: any of its two CELLS shuts it
        r = ring("far 1;shaft 5 5 to 5 5;" + NORTH + WEST + EAST + "pipe 4 6 at -400 lead 60;pipe 6 6 at -400 lead 60;");
        fill(r, 0, 1, 89, 77);
        due("P25 either", r.more(0, 1), 1);
        due("P26 the first by its place", r.chosen(), 1);
        r = ring("far 1;shaft 5 5 to 5 5;" + WEST + EAST + "pipe 4 6 at -400 lead 60;pipe 6 6 at -400 lead 60;"
            + "pipe 4 4 at -400 lead 60;pipe 6 4 at -400 lead 60;");
        fill(r, 0, 1, 53, 89, 77, 41);
        due("P25 two of four", r.more(0, 1), 2);
        due("P26 {0, 1} is the first", r.chosen(), 3);
        fill(r, 0, 1, 53, 41, 0, 77);
        due("P25 two of four", r.more(0, 1), 2);
        due("P26 {0, 3} ahead of {1, 3}", r.chosen(), 9);
        fill(r, 0, 1, 77, 53, 41, 89);
        due("P25 two of four", r.more(0, 1), 2);
        due("P26 {0, 1}", r.chosen(), 3);
        fill(r, 0, 1, 12, 53, 77, 41, 89);
        due("P26 {1, 2}", r.more(0, 1) * 100 + r.chosen(), 206);
    }

    private static void moreBounds() {
        FrostRing r = ring(SHAFT + NORTH + WEST + EAST);
        due("P25 no such SLOT", r.more(-1, 1), -2);
        due("P25 no such SLOT", r.more(4, 1), -2);
        due("P25 it has nothing", r.more(0, 1), -6);
        due("P25 another n, ahead of that", r.more(0, 0), -2);
        due("P25 another n, ahead of that", r.more(0, 31), -2);
        fill(r, 0, 1, 0, 1, 2, 3, 4, 5, 6);
        due("P25 more than six", r.more(0, 1), -2);
        fill(r, 0, 1, 0, 1, 2, 3, 4, 5);
        due("P25 six", r.more(0, 1), NONE);
        due("P25 in 30 TICKS the frost of three comes together", r.more(0, 30), 0);
        int[][] bad = {{-1}, {144}, {53}, {77, 77}, {0, 1, 0}, {Integer.MIN_VALUE}};
        for (int[] row : bad) {
            fill(r, 0, 2, row);
            due("P25 no such CELL, " + row[0], r.more(0, 1), -7);
        }
        fill(r, 0, 1, 65);
        due("P25 a CELL of the SHAFT", r.more(0, 1), NONE);
        due("P17 dig", r.dig(5, 5), 0);
        due("P25 a DUG one", r.more(0, 1), -7);
        r.row(0, 3, 1);
        r.write(0, 0, 4294967373L);
        due("P25 beyond an int", r.more(0, 1), -7);
        r = ring("far 1;" + NORTH);
        fill(r, 0, 1, 0);
        due("P25 no SHAFT", r.more(0, 1), -6);
        fill(r, 0, 1, 999);
        due("P25 no SHAFT, ahead of no CELL", r.more(0, 1), -6);
        r = ring(SHAFT);
        fill(r, 0, 1, 0);
        due("P25 no PIPE", r.more(0, 1), -6);
        fill(r, 0, 1, 0, 1, 2, 3, 4, 5, 6);
        due("P25 more than six, ahead of no PIPE", r.more(0, 1), -2);
        due("P26 none told a number", r.chosen(), 0);
    }

    // ---- promises 27 and 28

    private static void gauges() {
        FrostRing r = ring("far 40;shaft 5 5 to 5 5;");
        due("P28 none is read", r.lies(0), 0);
        due("P27 gauge(0, 1, 2, 40)", r.gauge(0, 1, 2, 40), 0);
        due("P27 gauge(9, 11, 11, 43)", r.gauge(9, 11, 11, 43), 0);
        due("P27 gauge(4, 5, 5, 37)", r.gauge(4, 5, 5, 37), 0);
        due("P28 lies(2)", r.lies(2), 512 + 16);
        due("P28 lies(3)", r.lies(3), 0);
        due("P28 lies(99)", r.lies(99), 0);
        r.dig(5, 5);
        due("P28 DUG", r.lies(99), 16);
        due("P27 read again", r.gauge(9, 0, 0, 40), 0);
        due("P28 lies(0)", r.lies(0), 16);
        due("P28 lies(-1)", r.lies(-1), -2);
        due("P28 lies(100)", r.lies(100), -2);
        due("P27 gauge(-1, ..)", r.gauge(-1, 0, 0, 0), -2);
        due("P27 gauge(10, ..)", r.gauge(10, 0, 0, 0), -2);
        due("P27 x", r.gauge(0, 12, 0, 0), -2);
        due("P27 x", r.gauge(0, -1, 0, 0), -2);
        due("P27 y", r.gauge(0, 0, 12, 0), -2);
        due("P27 y", r.gauge(0, 0, -1, 0), -2);
        due("P27 reading", r.gauge(0, 0, 0, 501), -2);
        due("P27 reading", r.gauge(0, 0, 0, -501), -2);
        due("P27 reading", r.gauge(0, 0, 0, Integer.MIN_VALUE), -2);
        due("P28 a wrong reading is none", r.lies(0), 16);
        due("P27 reading", r.gauge(1, 0, 0, -500), 0);
        due("P27 reading", r.gauge(2, 0, 0, 500), 0);
        due("P28 lies(99)", r.lies(99), 16 + 2 + 4);
    }

    // ---- promises 29 to 31

    private static void mostAndFrost() {
        FrostRing r = ring(RING);
        due("P29 all alike", r.most(0), 0);
        due("P29 all alike", r.most(1), 0);
        due("P29 most(2)", r.most(2), NONE);
        due("P29 most(-1)", r.most(-1), NONE);
        due("P30 frost(5)", r.frost(5), 0);
        r.tick(1);
        due("P29 the first of four", r.most(0), 53);
        due("P30 frost(4)", r.frost(4), 32);
        due("P30 frost(5)", r.frost(5), 16 + 64);
        due("P30 frost(0)", r.frost(0), 0);
        due("P30 frost(11)", r.frost(11), 0);
        due("P30 frost(12)", r.frost(12), NONE);
        due("P30 frost(-1)", r.frost(-1), NONE);
        due("P31 count(3)", r.count(3), 4);
        r = ring("far 1;shaft 5 5 to 6 5;pipe 5 5 at -400 lead 60;lay 0 0 to 0 0 ground 1;pipe 0 0 at 0 lead 60;");
        r.tick(2);
        due("P29 the coldest", r.most(0), 65);
        due("P29 the warmest", r.most(1), 0);
        due("P30 FROZEN", r.frost(5), 32);
        r.dig(5, 5);
        due("P30 DUG ones are not", r.frost(5), 0);
        due("P31 count(3)", r.count(3), 0);
        due("P29 DUG ones are not", r.most(0), 53);
    }

    private static void counts() {
        FrostRing r = ring(RING + "cold 5;house 1 limit 1;house 2 limit 2;dig if tick < 9;dig if shut;dig if shut;");
        r.tick(7);
        r.dig(5, 5);
        r.tick(1);
        Check.put(r, "abc");
        r.row(3, 0, 0);
        r.row(1, 3, 60);
        int[] want = {12, 8, 4, 0, 1, 3, 3, 2, 1, 5, 2, 1, 1};
        for (int i = 0; i < want.length; i++) {
            due("P31 count(" + i + ")", r.count(i), want[i]);
        }
        due("P31 count(13)", r.count(13), NONE);
        due("P31 count(-1)", r.count(-1), NONE);
    }

    // ---- promises 32 and 33

    private static void images() {
        FrostRing r = ring(RING + "house 4 limit 9;dig if tick < 5;cold 5000;");
        r.gauge(3, 0, 0, 100);
        r.tick(1);
        r.dig(5, 5);
        r.run(2, false);
        r.cold(4000);
        due("P32 keep(-1)", r.keep(-1), -2);
        due("P32 keep(3)", r.keep(3), -2);
        due("P33 back(-1)", r.back(-1), -2);
        due("P33 back(3)", r.back(3), -2);
        due("P33 back(1)", r.back(1), -6);
        due("P32 keep(1)", r.keep(1), 0);
        due("P33 back(0)", r.back(0), -6);
        int heat = r.heat(0);
        due("P4 another TEXT", Check.tell(r, "shaft 1 1 to 1 1;far 9;lay 0 0 to 11 11 ground 2;stream 5 speed 9;"), 4);
        r.tick(3);
        r.gaps();
        Check.put(r, "xy");
        r.row(0, 1, 1);
        due("P33 back(1)", r.back(1), 0);
        int[] want = {9, 1, 4, 4, 1, 1, 2, 1, 0, 4000, 1, 1, 0};
        for (int i = 0; i < want.length; i++) {
            due("P33 count(" + i + ")", r.count(i), want[i]);
        }
        due("P33 heat(0)", r.heat(0), heat);
        due("P33 heat(1)", r.heat(1), 960);
        due("P33 heat(5)", r.heat(5), 144);
        due("P33 pipe(2, 3)", r.pipe(2, 3), 0);
        due("P33 pipe(2, 4)", r.pipe(2, 4), 240);
        due("P33 cell(5, 5, 3)", r.cell(5, 5, 3), 2);
        due("P33 cell(0, 0, 0)", r.cell(0, 0, 0), 0);
        due("P33 cell(1, 1, 5)", r.cell(1, 1, 5), 0);
        due("P33 cracks()", r.cracks(), 1);
        due("P33 house(0, 2)", r.house(0, 2), 1);
        due("P33 lies(98)", r.lies(98), 8);
        due("P33 lacks(0)", r.lacks(0), 0);
        due("P33 shut()", r.shut(), 1);
        due("P32 what was found is not kept", r.gap(0), 1);
        r.tick(3);
        due("P32 the IMAGE stays", r.back(1), 0);
        due("P33 TICK", r.count(1), 1);
        r.keep(2);
        r.tick(1);
        r.keep(1);
        r.back(2);
        due("P33 each has its own", r.count(1), 1);
        r.back(1);
        due("P33 each has its own", r.count(1), 2);
    }

    // ---- promises 34 to 36

    private static void rows() {
        FrostRing r = ring(SHAFT + NORTH + WEST + EAST);
        due("P34 row(-1, ..)", r.row(-1, 0, 1), -2);
        due("P34 row(4, ..)", r.row(4, 0, 1), -2);
        due("P34 WIDTH -1", r.row(0, -1, 1), -2);
        due("P34 WIDTH 4", r.row(0, 4, 1), -2);
        due("P34 WIDTH 4, ahead of n", r.row(0, 4, -1), -2);
        due("P34 n 61", r.row(0, 0, 61), -2);
        due("P34 n -1", r.row(0, 0, -1), -3);
        due("P31 none has a row", r.count(10), 0);
        due("P34 n 60", r.row(0, 0, 60), 0);
        due("P34 n 0", r.row(1, 3, 0), 0);
        due("P31 two have", r.count(10), 2);
        due("P35 write(-1, ..)", r.write(-1, 0, 1), -2);
        due("P35 write(4, ..)", r.write(4, 0, 1), -2);
        due("P35 nothing", r.write(2, 0, 1), -6);
        due("P35 i 60", r.write(0, 60, 1), -7);
        due("P35 i -1", r.write(0, -1, 1), -7);
        due("P35 i 59", r.write(0, 59, Long.MIN_VALUE), 0);
        due("P35 an empty row", r.write(1, 0, 1), -7);
        // 77 is the CELL that shuts; cut to 1, 2, 4 bytes a greater number is it, too
        long[] over = {256 + 77, 65536 + 77, 4294967296L + 77, 77};
        for (int width = 0; width < 4; width++) {
            r.row(2, width, 1);
            due("P34 all 0", r.more(2, 1), NONE);
            due("P35 write", r.write(2, 0, over[width]), 0);
            due("P35 cut to WIDTH " + width, r.more(2, 1), 1);
            due("P34 n below 0", r.row(2, width, -5), -3);
            due("P34 the SLOT stays", r.more(2, 1), 1);
            due("P35 write", r.write(2, 0, width == 3 ? 4294967296L + 77 : over[width + 1]), 0);
            due("P35 not cut to less", r.more(2, 1), width == 3 ? -7 : 1);
        }
        r.row(2, 1, 1);
        r.write(2, 0, 256 + 77);
        due("P35 two bytes hold 333", r.more(2, 1), -7);
        r.row(2, 0, 1);
        r.write(2, 0, 128);
        due("P35 one byte holds -128 .. 127", r.more(2, 1), -7);
        r.row(2, 1, 1);
        r.write(2, 0, 128);
        due("P35 two hold 128", r.more(2, 1), NONE);
    }

    /** The row that more() sees tells what a paste did: 77 alone shuts, and its place is chosen. */
    private static void paste() {
        FrostRing r = ring(SHAFT + NORTH + WEST + EAST);
        fill(r, 0, 1, 0, 77, 2, 3);
        fill(r, 1, 1, 10, 11, 12);
        due("P36 no such SLOT", r.paste(-1, 0, 1, 0, 1), -2);
        due("P36 no such SLOT", r.paste(4, 0, 1, 0, 1), -2);
        due("P36 no such SLOT", r.paste(0, 0, -1, 0, 1), -2);
        due("P36 no such SLOT", r.paste(0, 0, 4, 0, 1), -2);
        due("P36 one has nothing", r.paste(0, 0, 2, 0, 1), -6);
        due("P36 one has nothing", r.paste(2, 0, 0, 0, 1), -6);
        due("P36 no such SLOT, ahead of nothing", r.paste(2, 0, 4, 0, 1), -2);
        fill(r, 3, 2, 1, 2, 3);
        due("P36 WIDTHS", r.paste(0, 0, 3, 0, 1), -8);
        due("P36 WIDTHS, ahead of places", r.paste(0, -1, 3, 0, 1), -8);
        due("P36 beyond", r.paste(0, 2, 1, 0, 3), -7);
        due("P36 beyond", r.paste(0, 1, 1, 1, 3), -7);
        due("P36 nothing happens", r.more(1, 1), NONE);
        due("P36 below 0", r.paste(0, -1, 1, 0, 1), -7);
        due("P36 below 0", r.paste(0, 0, 1, -1, 1), -7);
        due("P36 below 0", r.paste(0, 0, 1, 0, -1), -7);
        due("P36 far beyond", r.paste(0, Integer.MAX_VALUE, 1, 0, 1), -7);
        due("P36 far beyond", r.paste(0, 1, 1, 1, Integer.MAX_VALUE), -7);
        due("P36 none", r.paste(0, 4, 1, 3, 0), 0);
        due("P36 none, beyond", r.paste(0, 5, 1, 0, 0), -7);
        due("P36 two", r.paste(0, 1, 1, 1, 2), 0);
        due("P36 they are there", r.more(1, 1), 1);
        due("P36 where they were put", r.chosen(), 2);
        due("P36 and here as well", r.more(0, 1), 1);
        fill(r, 0, 1, 77, 1, 2, 3);
        due("P36 its own row, upward", r.paste(0, 0, 0, 1, 3), 0);
        due("P36 told twice now", r.more(0, 1), -7);
        r.write(0, 0, 9);
        due("P36 as they were", r.more(0, 1), 1);
        due("P36 77 stands at 1 alone", r.chosen(), 2);
        fill(r, 0, 1, 1, 2, 3, 77);
        due("P36 its own row, downward", r.paste(0, 1, 0, 0, 3), 0);
        r.write(0, 3, 9);
        due("P36 as they were", r.more(0, 1), 1);
        due("P36 77 stands at 2 alone", r.chosen(), 4);
    }
}
