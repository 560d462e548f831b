import java.math.BigInteger;

/** The sentences of VI, of promises 4 and 5: LINES, TOKENS, the bounds of numbers, FAULTS and their places. */
final class TextSentences {
    private static final int NONE = FrostRing.NONE;

    /** 34 LINES: all the STREAMS, PIPES, HOUSES and RULES that there may be. */
    private static final String FULL = fullOf(12, "stream# speed0;") + fullOf(12, "pipe0 #at0lead0;")
        + fullOf(6, "house#limit0;") + fullOf(4, "dig if tick<#;");

    private TextSentences() {
    }

    static void all() {
        lines();
        conds();
        tokens();
        mostLines();
        cellBounds();
        numberBounds();
        signedBounds();
        mostOfEach();
        firstFault();
        places();
        leastFault();
        noToken();
        wrongToken();
        toldAlready();
        tooMany();
        fourthCond();
    }

    private static void due(String call, long got, long want) {
        Sentences.due(call, got, want);
    }

    private static String fullOf(int n, String line) {
        StringBuilder all = new StringBuilder();
        for (int i = 0; i < n; i++) {
            all.append(line.replace("#", String.valueOf(i)));
        }
        return all.toString();
    }

    private static FrostRing good(String text, int lines) {
        FrostRing r = new FrostRing();
        due("text() of " + text, Check.tell(r, text), lines);
        due("fault(0) of " + text, r.fault(0), 0);
        due("fault(1) of " + text, r.fault(1), NONE);
        return r;
    }

    private static void fault(String text, int which, int place) {
        FrostRing r = new FrostRing();
        due("text() of " + text, Check.tell(r, text), -4);
        due("fault(0) of " + text, r.fault(0), which);
        due("fault(1) of " + text, r.fault(1), place);
        due("LINES of " + text, r.count(0), 0);
    }

    // ---- LINES

    /** A LINE is good as it is, but not if one of its TOKENS is another one, is misspelt, or is the end. */
    private static void eachToken(String line) {
        good(line, 1);
        good(line.replace(" ;", ";").replace(" ", "\n \n"), 1);
        String[] tokens = line.split(" ");
        int place = 0;
        for (String token : tokens) {
            String ahead = line.substring(0, place);
            String behind = line.substring(place + token.length());
            fault(ahead + "zz" + behind, 1, place);
            fault(ahead + "!" + behind, 1, place);
            for (int i = 0; i < token.length() && token.charAt(i) >= 'a'; i++) {
                fault(ahead + token.substring(0, i) + 'q' + token.substring(i + 1) + behind, 1, place);
                fault(ahead + token.substring(0, i) + token.substring(i, i + 1) + token.substring(i) + behind, 1, place);
            }
            if (place > 0) {
                fault(ahead, 1, place);
                fault(ahead.trim(), 1, place - 1);
                fault(ahead + "\n\n ", 1, place + 3);
            }
            place += token.length() + 1;
        }
        fault(line + ";", 1, line.length());
    }

    private static void lines() {
        Sentences.holds(4, "LINE: ground G lead N ice N latent N mark T ;");
        eachToken("ground 2 lead 3 ice 4 latent 50 mark 0 ;");
        eachToken("ground 2 lead 3 ice 4 latent 50 mark - 6 ;");
        Sentences.holds(4, "| lay X Y to X Y ground G ;");
        eachToken("lay 1 2 to 3 4 ground 2 ;");
        FrostRing r = good("lay 1 2 to 3 4 ground 2;", 1);
        for (int c = 0; c < 144; c++) {
            boolean in = c % 12 >= 1 && c % 12 <= 3 && c / 12 >= 2 && c / 12 <= 4;
            due("GROUND of " + c, r.cell(c % 12, c / 12, 0), in ? 2 : 0);
        }
        r = good("lay 0 0 to 11 11 ground 1;lay 11 11 to 11 11 ground 3;", 2);
        due("the first CELL", r.cell(0, 0, 0), 1);
        due("the latest counts", r.cell(11, 11, 0), 3);
        Sentences.holds(4, "| stream Y speed N ;");
        eachToken("stream 7 speed 8 ;");
        Sentences.holds(4, "| far N ;");
        eachToken("far 9 ;");
        due("FAR", good("far 9;", 1).count(11), 9);
        Sentences.holds(4, "| shaft X Y to X Y ;");
        eachToken("shaft 1 2 to 3 4 ;");
        r = good("shaft 1 2 to 3 4;", 1);
        for (int c = 0; c < 144; c++) {
            boolean in = c % 12 >= 1 && c % 12 <= 3 && c / 12 >= 2 && c / 12 <= 4;
            due("of the SHAFT " + c, r.cell(c % 12, c / 12, 5), in ? 1 : 0);
        }
        Sentences.holds(4, "| pipe X Y at T lead N ;");
        eachToken("pipe 1 2 at 0 lead 4 ;");
        eachToken("pipe 1 2 at - 3 lead 4 ;");
        r = good("pipe 1 2 at -3 lead 4;", 1);
        due("its CELL", r.pipe(0, 0), 25);
        due("what runs through", r.pipe(0, 1), -3);
        due("its lead", r.pipe(0, 2), 4);
        Sentences.holds(4, "| cold N ;");
        eachToken("cold 5 ;");
        due("COLD", good("cold 5;", 1).count(9), 5);
        Sentences.holds(4, "| house X limit N ;");
        eachToken("house 1 limit 2 ;");
        r = good("house 1 limit 2;", 1);
        due("its column", r.house(0, 0), 1);
        due("its limit", r.house(0, 1), 2);
        Sentences.holds(4, "| dig if COND {and COND} ;");
        eachToken("dig if shut ;");
        eachToken("dig if shut and shut ;");
        eachToken("dig if shut and tick < 3 and shut ;");
        fault("dig ;", 1, 4);
        fault("dig if ;", 1, 7);
        fault("dig if shut and ;", 1, 16);
        fault("dig if shut shut ;", 1, 12);
        fault("dig if and shut ;", 1, 7);
    }

    private static void conds() {
        Sentences.holds(4, "COND: shut | WORD OP N;");
        eachToken("dig if tick < 3 ;");
        fault("dig if shut < 3 ;", 1, 12);
        fault("dig if tick ;", 1, 12);
        fault("dig if tick < ;", 1, 14);
        fault("dig if tick 3 ;", 1, 12);
        Sentences.holds(18, "WORD: thick, gaps, tick, lift (the greatest of all columns).");
        for (String word : new String[] {"thick", "gaps", "tick", "lift"}) {
            eachToken("dig if " + word + " > 0 ;");
        }
        fault("dig if far > 0 ;", 1, 7);
        fault("dig if thic > 0 ;", 1, 7);
        fault("dig if thicks > 0 ;", 1, 7);
        // nothing is SHUT, a frost of LIFT 20 stands in the last column, behind TICK 2
        FrostRing r = Check.ring("ground 0 lead 0 ice 0 latent 100 mark 0;far 1;shaft 1 1 to 1 1;pipe 11 3 at -400 lead 60;pipe 11 9 at -400 lead 60;"
            + "dig if thick > 0;dig if gaps > 3 and gaps < 5;dig if tick > 1 and tick < 3;dig if lift > 19 and lift < 21;");
        r.tick(2);
        due("thick is 0", r.lacks(0), 1);
        due("gaps is 4", r.lacks(1), 0);
        due("tick is 2", r.lacks(2), 0);
        due("lift is 20", r.lacks(3), 0);
        r = Check.ring("far 1;pipe 0 3 at -400 lead 60;dig if lift > 9 and lift < 11;");
        r.tick(1);
        due("lift of the first column", r.lacks(0), 0);
        Sentences.holds(18, "OP: < or >.");
        fault("dig if tick - 3 ;", 1, 12);
        fault("dig if tick ; 3 ;", 1, 12);
        fault("dig if tick = 3 ;", 1, 12);
        fault("dig if tick < > 3 ;", 1, 14);
        fault("dig if tick << 3 ;", 1, 13);
        r = Check.ring("dig if tick < 2;dig if tick > 2;");
        int[] less = {0, 0, 1, 1};
        int[] more = {1, 1, 1, 0};
        for (int t = 0; t < 4; t++) {
            due("tick < 2 at TICK " + t, r.lacks(0), less[t]);
            due("tick > 2 at TICK " + t, r.lacks(1), more[t]);
            r.tick(1);
        }
        Sentences.holds(4, "T: [-] N.");
        due("0", good("pipe 0 0 at 0 lead 1;", 1).pipe(0, 1), 0);
        due("-0", good("pipe 0 0 at -0 lead 1;", 1).pipe(0, 1), 0);
        due("-5", good("pipe 0 0 at -5 lead 1;", 1).pipe(0, 1), -5);
        due("- 5", good("pipe 0 0 at -\n 5 lead 1;", 1).pipe(0, 1), -5);
        due("-005", good("pipe 0 0 at -005 lead 1;", 1).pipe(0, 1), -5);
        fault("pipe 0 0 at - - 5 lead 1;", 1, 14);
        fault("pipe 0 0 at 5- lead 1;", 2, 12);
        fault("pipe 0 0 at - lead 1;", 1, 14);
        fault("pipe 0 0 at -", 1, 13);
        fault("far -5;", 1, 4);
        fault("dig if tick > -5;", 1, 14);
    }

    /** Between "far" and "7" each byte shows what it is. */
    private static void tokens() {
        Sentences.holds(4, "TOKENS, blanks (32, 10) aside, the longest: words (a .. z), numbers (digits), signs < > - ;");
        for (int b = 0; b < 256; b++) {
            String text = "far" + (char) b + "7;";
            if (b == 32 || b == 10) {
                due("a blank, " + b, good(text, 1).count(11), 7);
            } else if (b >= 'a' && b <= 'z') {
                fault(text, 1, 0);
            } else if (b >= '0' && b <= '9') {
                due("a digit, " + b, good(text, 1).count(11), 10 * (b - '0') + 7);
            } else {
                fault(text, 1, 3);
            }
        }
        due("the longest number", good("far 123;", 1).count(11), 123);
        due("of many noughts", good("far 00000000000000000000000000000000012;", 1).count(11), 12);
        fault("far 1 23;", 1, 6);
        fault("fa r 1;", 1, 0);
        fault("farfar 1;", 1, 0);
        fault("farx 1;", 1, 0);
        due("no blanks", good("far7;cold8;", 2).count(9), 8);
        good("ground0lead1ice2latent3mark-4;lay0 0to1 1ground0;dig if shut and tick<1and thick>2;", 3);
        fault("dig if tick<1andthick>2;", 1, 13);
        fault("lay00 to1 1ground0;", 1, 6);
        // numbers that are the bytes of ; < > - and of blanks
        fault("far 1 59", 1, 6);
        fault("far 1 59 far 1;", 1, 6);
        fault("dig if tick 60 5;", 1, 12);
        fault("dig if tick 62 5;", 1, 12);
        fault("pipe 0 0 at 45 5 lead 1;", 2, 12);
        fault("far 32 7;", 1, 7);
        fault("far 10 7;", 1, 7);
        fault("1".repeat(700), 1, 0);
        fault("a".repeat(700), 1, 0);
        fault(" ".repeat(699) + "a", 1, 699);
    }

    // ---- bounds

    private static void mostLines() {
        Sentences.holds(4, "VI. TEXT: {LINE}, 40 LINES at most.");
        good("", 0);
        good("far 1;", 1);
        String lays = "lay0 0to0 0ground0;";
        due("39", Check.tell(new FrostRing(), FULL + lays.repeat(5)), 39);
        FrostRing r = good(FULL + lays.repeat(6), 40);
        due("count(0)", r.count(0), 40);
        fault(FULL + lays.repeat(6) + "lay", 3, FULL.length() + 6 * lays.length());
    }

    private static String put(String template, String number) {
        return template.replace("#", number);
    }

    /** A number whose bounds are 0 or more: what is out of them, also by far, is a FAULT at its place. */
    private static void bounds(String template, int low, int high) {
        int place = template.indexOf('#');
        int lines = template.replaceAll("[^;]", "").length();
        good(put(template, String.valueOf(low)), lines);
        good(put(template, String.valueOf(high)), lines);
        good(put(template, "000" + high), lines);
        fault(put(template, String.valueOf(high + 1)), 2, place);
        fault(put(template, String.valueOf(high + 10)), 2, place);
        if (low > 0) {
            fault(put(template, String.valueOf(low - 1)), 2, place);
        }
        fault(put(template, "-1"), 1, place);
        for (int bytes = 1; bytes < 10; bytes++) {
            BigInteger wrapped = BigInteger.ONE.shiftLeft(8 * bytes).add(BigInteger.valueOf(low));
            if (wrapped.compareTo(BigInteger.valueOf(high)) > 0) {
                fault(put(template, wrapped.toString()), 2, place);
            }
        }
        fault(put(template, "9".repeat(99)), 2, place);
    }

    private static void cellBounds() {
        Sentences.holds(4, "G 0 .. 3,");
        bounds("ground # lead 1 ice 1 latent 1 mark 0;", 0, 3);
        bounds("lay 0 0 to 1 1 ground #;", 0, 3);
        Sentences.holds(4, "X, Y 0 .. 11");
        bounds("lay # 0 to 11 11 ground 0;", 0, 11);
        bounds("lay 0 # to 11 11 ground 0;", 0, 11);
        bounds("lay 0 0 to # 11 ground 0;", 0, 11);
        bounds("lay 0 0 to 11 # ground 0;", 0, 11);
        bounds("stream # speed 1;", 0, 11);
        bounds("pipe # 0 at 0 lead 0;", 0, 11);
        bounds("pipe 0 # at 0 lead 0;", 0, 11);
        due("the last CELL", good("pipe 11 11 at 0 lead 0;", 1).pipe(0, 0), 143);
        Sentences.holds(4, "(the second X, Y of lay, shaft not below the first;");
        bounds("lay 5 6 to # 11 ground 0;", 5, 11);
        bounds("lay 5 6 to 11 # ground 0;", 6, 11);
        bounds("lay 11 11 to # 11 ground 0;", 11, 11);
        bounds("lay 11 11 to 11 # ground 0;", 11, 11);
        bounds("shaft 5 6 to # 10;", 5, 10);
        bounds("shaft 5 6 to 10 #;", 6, 10);
        due("one CELL", good("shaft 5 6 to 5 6;", 1).dig(5, 6), 0);
        Sentences.holds(4, "those of shaft 1 .. 10;");
        bounds("shaft # 1 to 10 10;", 1, 10);
        bounds("shaft 1 # to 10 10;", 1, 10);
        bounds("shaft 1 1 to # 10;", 1, 10);
        bounds("shaft 1 1 to 10 #;", 1, 10);
        Sentences.holds(4, "X of house 0 .. 10),");
        bounds("house # limit 1;", 0, 10);
        due("the last column but one", good("house 10 limit 1;", 1).house(0, 0), 10);
    }

    private static void numberBounds() {
        Sentences.holds(4, "lead, ice 0 .. 15");
        bounds("ground 0 lead # ice 1 latent 1 mark 0;", 0, 15);
        bounds("ground 0 lead 1 ice # latent 1 mark 0;", 0, 15);
        Sentences.holds(4, "(of a PIPE 0 .. 60),");
        bounds("pipe 0 0 at 0 lead #;", 0, 60);
        due("60", good("pipe 0 0 at 0 lead 60;", 1).pipe(0, 2), 60);
        Sentences.holds(4, "latent 1 .. 999,");
        bounds("ground 0 lead 1 ice 1 latent # mark 0;", 1, 999);
        Sentences.holds(4, "speed 0 .. 30,");
        bounds("stream 0 speed #;", 0, 30);
        Sentences.holds(4, "far 1 .. 300,");
        bounds("far #;", 1, 300);
        due("1", good("far 1;", 1).cell(3, 3, 1), 1);
        due("300", good("far 300;", 1).cell(3, 3, 1), 300);
        Sentences.holds(4, "cold 0 .. 99999,");
        bounds("cold #;", 0, 99999);
        due("0", good("cold 0;", 1).count(9), 0);
        due("99999", good("cold 99999;", 1).count(9), 99999);
        Sentences.holds(4, "limit 0 .. 999,");
        bounds("house 0 limit #;", 0, 999);
        due("999", good("house 0 limit 999;", 1).house(0, 1), 999);
        Sentences.holds(4, "others 0 .. 99999.");
        for (String word : new String[] {"thick", "gaps", "tick", "lift"}) {
            bounds("dig if " + word + " > #;", 0, 99999);
            bounds("dig if shut and " + word + " < # and shut;", 0, 99999);
        }
        Sentences.holds(11, "COLD is 99999 if it is not told.");
        due("of nothing", good("", 0).count(9), 99999);
        due("of another LINE", good("far 1;", 1).cold(3), 99999);
        FrostRing r = good("cold 5;", 1);
        due("told", r.count(9), 5);
        due("another TEXT", Check.tell(r, "far 1;"), 1);
        due("not told any more", r.count(9), 99999);
    }

    private static void signedBounds(String template, int low) {
        int place = template.indexOf('#');
        good(put(template, "0"), 1);
        good(put(template, "-0"), 1);
        good(put(template, "-1"), 1);
        good(put(template, String.valueOf(low)), 1);
        fault(put(template, String.valueOf(low - 1)), 2, place + 1);
        fault(put(template, "- " + (1 - low)), 2, place + 2);
        fault(put(template, "1"), 2, place);
        fault(put(template, String.valueOf(-low)), 2, place);
        for (String wrapped : new String[] {"2147483648", "4294967295", "4294967296", "18446744073709551615", "18446744073709551616"}) {
            fault(put(template, wrapped), 2, place);
            fault(put(template, "-" + wrapped), 2, place + 1);
        }
        fault(put(template, "-" + "9".repeat(99)), 2, place + 1);
    }

    private static void signedBounds() {
        Sentences.holds(4, "mark -30 .. 0,");
        signedBounds("ground 0 lead 1 ice 1 latent 1 mark #;", -30);
        Sentences.holds(4, "at -400 .. 0,");
        signedBounds("pipe 0 0 at # lead 1;", -400);
        due("-400", good("pipe 0 0 at -400 lead 1;", 1).pipe(0, 1), -400);
    }

    private static void mostOfEach() {
        Sentences.holds(4, "12 PIPES, 6 HOUSES, 4 RULES at most.");
        FrostRing r = good(fullOf(12, "pipe 3 # at 0 lead 0;"), 12);
        due("PIPES", r.count(2), 12);
        due("the last one's CELL", r.pipe(11, 0), 135);
        due("no 13th", r.pipe(12, 0), Check.NOTHING);
        r = good(fullOf(6, "house # limit 7;"), 6);
        due("HOUSES", r.count(7), 6);
        due("the last one's column", r.house(5, 0), 5);
        due("no 7th", r.house(6, 0), Check.NOTHING);
        r = good(fullOf(4, "dig if tick < # ;"), 4);
        due("RULES", r.count(5), 4);
        due("the last one", r.lacks(3), 0);
        due("the first one", r.lacks(0), 1);
        due("no 5th", r.lacks(4), NONE);
        good(FULL, 34);
    }

    // ---- FAULTS

    private static void firstFault() {
        Sentences.holds(5, "FAULTS, the first by its place");
        fault("far 0;!", 2, 4);
        fault("! far 0;", 1, 0);
        fault("far 1;far 0;", 3, 6);
        fault("far 0;far 1;", 2, 4);
        fault("house 11 limit 1000;", 2, 6);
        fault("house 1 limit 1000 zz", 2, 14);
        fault("house 1 zz 1000;", 1, 8);
        fault("shaft 5 5 to 4 4;", 2, 13);
        fault("pipe 12 12 at 1 lead 61;", 2, 5);
        fault("pipe 1 1 at 1 lead 61", 2, 12);
        fault("far 0", 2, 4);
        fault("cold 1;far 1;cold 1;far 1;", 3, 13);
        fault("dig if shut and shut and shut and shut and zz;", 3, 34);
        fault("dig if tick < 100000 and shut and shut and shut;", 2, 14);
    }

    private static void places() {
        Sentences.holds(5, "(a TOKEN's first byte, also of a T's number; the end's),");
        fault("   far 1000;", 2, 7);
        fault("far 1;\n\n wrong;", 1, 9);
        fault("pipe 0 0 at -401 lead 0;", 2, 13);
        fault("pipe 0 0 at -   401 lead 0;", 2, 16);
        fault("pipe 0 0 at - far", 1, 14);
        fault("far", 1, 3);
        fault("far  \n", 1, 6);
        fault("far 1", 1, 5);
        fault("far 1;f", 1, 6);
        fault("far 1;far", 3, 6);
        fault("cold 1;far", 1, 10);
        String long700 = "far" + " ".repeat(697);
        fault(long700, 1, 700);
    }

    private static void leastFault() {
        Sentences.holds(5, "of one place the least:");
        String forty = FULL + "lay0 0to0 0ground0;".repeat(6);
        fault(forty + "zz", 1, forty.length());
        fault(forty + ";", 1, forty.length());
        fault(forty + "5", 1, forty.length());
        fault(forty + "!", 1, forty.length());
        fault(forty + "house", 3, forty.length());
        fault("dig if shut and shut and shut and zz", 1, 34);
        fault("dig if shut and shut and shut and 4", 1, 34);
    }

    private static void noToken() {
        Sentences.holds(5, "1 a TOKEN that is none,");
        String tokens = "abcdefghijklmnopqrstuvwxyz0123456789<>-; \n";
        for (int b = 0; b < 256; b++) {
            if (tokens.indexOf(b) < 0) {
                fault((char) b + "far 1;", 1, 0);
                fault("far " + (char) b + ";", 1, 4);
                fault("far 1" + (char) b + ";", 1, 5);
                fault("far 1;" + (char) b, 1, 6);
            }
        }
    }

    private static void wrongToken() {
        Sentences.holds(5, "or can't stand there.");
        for (String token : new String[] {"lead", "ice", "latent", "mark", "to", "speed", "at", "limit", "if", "and", "shut", "tick",
            "thick", "gaps", "lift", "a", "5", "<", ">", "-", ";"}) {
            fault(token, 1, 0);
            fault("far 1;" + token, 1, 6);
        }
        for (String token : new String[] {"far", "a", "<", ">", "-", ";"}) {
            fault("far " + token, 1, 4);
        }
        for (String token : new String[] {"far", "a", "5", "<", ">", "-"}) {
            fault("far 1 " + token, 1, 6);
        }
        fault("far 1", 1, 5);
    }

    private static void toldAlready() {
        Sentences.holds(5, "2 a number out of its bounds;");
        fault("far 301;", 2, 4);
        Sentences.holds(5, "a GROUND, a row's STREAM told already;");
        for (int g = 0; g < 4; g++) {
            String line = "ground " + g + " lead 1 ice 1 latent 1 mark 0;";
            fault(line + line, 2, line.length() + 7);
            fault(line + "ground " + g, 2, line.length() + 7);
        }
        good(fullOf(4, "ground # lead 1 ice 1 latent 1 mark 0;"), 4);
        for (int y = 0; y < 12; y++) {
            String line = "stream " + y + " speed 0;";
            fault(line + line, 2, line.length() + 7);
            fault(line + "stream " + y, 2, line.length() + 7);
        }
        good(fullOf(12, "stream # speed 0;"), 12);
        Sentences.holds(5, "Y of a PIPE where one stands.");
        fault("pipe 3 4 at 0 lead 0;pipe 3 4 at 0 lead 0;", 2, 28);
        fault("pipe 3 4 at 0 lead 0;pipe 4 3 at 0 lead 0;pipe 4 3", 2, 49);
        fault("pipe 3 4 at 0 lead 0;pipe 3 04 !", 2, 28);
        good("pipe 3 4 at 0 lead 0;pipe 4 3 at 0 lead 0;pipe 3 3 at 0 lead 0;pipe 4 4 at 0 lead 0;", 4);
        good("pipe 11 0 at 0 lead 0;pipe 0 1 at 0 lead 0;", 2);
        fault(fullOf(12, "pipe0 #at0lead0;") + "pipe 0 0 at 0 lead 0;", 3, fullOf(12, "pipe0 #at0lead0;").length());
    }

    /** So many are good, one more is a FAULT at its first TOKEN, whatever comes behind that. */
    private static void atMost(int n, String line, String more) {
        String full = fullOf(n, line);
        good(full, n);
        fault(full + more, 3, full.length());
        fault(full + " \n" + more, 3, full.length() + 2);
        String first = more.split("\\W|\\d")[0];
        fault(full + first, 3, full.length());
        fault(full + first + "!", 3, full.length());
    }

    private static void tooMany() {
        Sentences.holds(5, "3 a 41st LINE,");
        String forty = FULL + "lay0 0to0 0ground0;".repeat(6);
        for (String first : new String[] {"far", "cold", "shaft", "lay", "ground", "stream", "pipe", "house", "dig"}) {
            fault(forty + first, 3, forty.length());
            fault(forty + "\n" + first + " 1", 3, forty.length() + 1);
        }
        Sentences.holds(5, "a 13th PIPE,");
        atMost(12, "pipe0 #at0lead0;", "pipe 1 1 at 0 lead 0;");
        Sentences.holds(5, "a 7th HOUSE,");
        atMost(6, "house#limit0;", "house 7 limit 0;");
        atMost(6, "house 3 limit #;", "house 3 limit 7;");
        Sentences.holds(5, "a 5th RULE,");
        atMost(4, "dig if tick<#;", "dig if shut;");
        Sentences.holds(5, "a second far, shaft, cold, at its first TOKEN;");
        atMost(1, "far 1;", "far 2;");
        atMost(1, "far 300;", "far 300;");
        atMost(1, "shaft 1 1 to 1 1;", "shaft 2 2 to 2 2;");
        atMost(1, "cold 0;", "cold 0;");
        atMost(1, "cold 99999;", "cold 99999;");
        fault("far 100;far 100;", 3, 8);
    }

    private static void fourthCond() {
        Sentences.holds(5, "a fourth COND of a RULE, at its first TOKEN (if it may begin one).");
        good("dig if shut and shut and shut;", 1);
        for (String word : new String[] {"shut", "thick", "gaps", "tick", "lift"}) {
            fault("dig if shut and shut and shut and " + word, 3, 34);
            fault("dig if shut and tick < 1 and lift > 2 and\n " + word + " < 3;", 3, 43);
        }
        for (String token : new String[] {"zz", "if", "and", "5", ";", "<", "!", "dig"}) {
            fault("dig if shut and shut and shut and " + token, 1, 34);
        }
        fault("dig if shut and shut and shut and", 1, 33);
        fault("dig if shut and shut and shut shut;", 1, 30);
        good("dig if shut and shut and shut;dig if shut and shut and shut;", 2);
    }
}
