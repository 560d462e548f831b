/** What the tests share: a count of wrong answers, and ways to put a TEXT on the TAPE. */
final class Check {
    static final int NOTHING = -2000000000;

    private static int wrong = 0;

    private Check() {
    }

    static void due(String call, long got, long want) {
        if (got != want) {
            wrong++;
            System.out.println(call + " answered " + got + ", due is " + want);
        }
    }

    static void due(String call, boolean got, boolean want) {
        due(call, got ? 1 : 0, want ? 1 : 0);
    }

    /** Says how it went, and ends the program with 1 if an answer was wrong. */
    static void close(String name) {
        System.out.println(name + ": " + (wrong == 0 ? "all answers are as due" : wrong + " answers are not as due"));
        if (wrong != 0) {
            System.exit(1);
        }
    }

    /** Four bytes of a text, the highest first, blanks behind its end. */
    static int four(String text, int from) {
        int all = 0;
        for (int i = from; i < from + 4; i++) {
            all = all << 8 | (i < text.length() ? text.charAt(i) & 255 : 32);
        }
        return all;
    }

    /** Puts a text behind the TAPE, which has only its bytes then. */
    static void put(FrostRing ring, String text) {
        int had = ring.count(6);
        for (int i = 0; i < text.length(); i += 20) {
            ring.feed(four(text, i), four(text, i + 4), four(text, i + 8), four(text, i + 12), four(text, i + 16));
        }
        ring.end(had + text.length());
    }

    static int tell(FrostRing ring, String text) {
        put(ring, text);
        return ring.text();
    }

    /** A ring whose TEXT must be without a FAULT. */
    static FrostRing ring(String text) {
        FrostRing ring = new FrostRing();
        tell(ring, text);
        due("fault(0) of " + text, ring.fault(0), 0);
        return ring;
    }
}
