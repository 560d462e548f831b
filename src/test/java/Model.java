import java.util.ArrayList;
import java.util.Arrays;
import java.util.HashMap;
import java.util.List;
import java.util.Map;
import java.util.TreeSet;
import java.util.regex.Matcher;
import java.util.regex.Pattern;

/**
 * The document once more, written another way (templates for the LINES, each CELL's HEAT by
 * itself, GAPS by their definition), slow and without care for the rules of the language: random
 * runs are held against it.
 */
final class Model {
    static final int NOTHING = -2000000000;
    static final String[] LINES = {
        "ground G:0:3 lead A:0:15 ice B:0:15 latent C:1:999 mark T:-30:0 ;",
        "lay X:0:11 Y:0:11 to P:X:11 Q:Y:11 ground G:0:3 ;",
        "stream Y:0:11 speed N:0:30 ;",
        "far N:1:300 ;",
        "shaft X:1:10 Y:1:10 to P:X:10 Q:Y:10 ;",
        "pipe X:0:11 Y:0:11 at T:-400:0 lead N:0:60 ;",
        "cold N:0:99999 ;",
        "house X:0:10 limit N:0:999 ;",
    };

    /** All that an image keeps. */
    static final class World {
        int[][] grounds = {{10, 15, 100, 0}, {10, 15, 100, 0}, {10, 15, 100, 0}, {10, 15, 100, 0}};
        int[][] ground = new int[12][12];
        int[][] warm = new int[12][12];
        int[][] ice = new int[12][12];
        boolean[][] dug = new boolean[12][12];
        int[] speed = new int[12];
        int far = 100;
        int[] shaft = null;
        List<int[]> pipes = new ArrayList<>(); // x, y, at, lead, runs, latest, all
        int cold = 99999;
        List<int[]> houses = new ArrayList<>(); // x, limit, tick
        List<List<String[]>> rules = new ArrayList<>();
        int lines = 0;
        int ticks = 0;
        boolean flooded = false;
        int floods = 0;
        Map<Integer, int[]> gauges = new HashMap<>();
        int[] sums = new int[6];

        World copy() {
            World w = new World();
            for (int i = 0; i < 4; i++) {
                w.grounds[i] = grounds[i].clone();
            }
            for (int y = 0; y < 12; y++) {
                w.ground[y] = ground[y].clone();
                w.warm[y] = warm[y].clone();
                w.ice[y] = ice[y].clone();
                w.dug[y] = dug[y].clone();
            }
            w.speed = speed.clone();
            w.far = far;
            w.shaft = shaft == null ? null : shaft.clone();
            for (int[] p : pipes) {
                w.pipes.add(p.clone());
            }
            w.cold = cold;
            for (int[] h : houses) {
                w.houses.add(h.clone());
            }
            w.rules.addAll(rules);
            w.lines = lines;
            w.ticks = ticks;
            w.flooded = flooded;
            w.floods = floods;
            for (Map.Entry<Integer, int[]> e : gauges.entrySet()) {
                w.gauges.put(e.getKey(), e.getValue().clone());
            }
            w.sums = sums.clone();
            return w;
        }

        boolean inShaft(int x, int y) {
            return shaft != null && x >= shaft[0] && y >= shaft[1] && x <= shaft[2] && y <= shaft[3];
        }

        boolean frozen(int x, int y) {
            return !dug[y][x] && ice[y][x] == grounds[ground[y][x]][2];
        }

        int lead(int x, int y) {
            return grounds[ground[y][x]][frozen(x, y) ? 1 : 0];
        }

        int pipeAt(int x, int y) {
            for (int p = 0; p < pipes.size(); p++) {
                if (pipes.get(p)[0] == x && pipes.get(p)[1] == y) {
                    return p;
                }
            }
            return -1;
        }

        int lift(int x) {
            int sum = 0;
            for (int y = 0; y < 12; y++) {
                sum += dug[y][x] ? 0 : ice[y][x] / 10;
            }
            return sum;
        }

        int heat() {
            int sum = 0;
            for (int y = 0; y < 12; y++) {
                for (int x = 0; x < 12; x++) {
                    sum += dug[y][x] ? 0 : warm[y][x] - ice[y][x];
                }
            }
            return sum;
        }

        void begin() {
            for (int[] row : warm) {
                Arrays.fill(row, far);
            }
            sums[5] = heat();
        }
    }

    World now = new World();
    final World[] images = new World[3];
    final long[][] slots = new long[4][];
    String tape = "";
    int fault = 0;
    int place = -1;
    List<Integer> told = new ArrayList<>();
    int chosen = 0;

    Model() {
        now.begin();
    }

    // ---- the TEXT

    static final class Token {
        final String word;
        final int place;

        Token(String word, int place) {
            this.word = word;
            this.place = place;
        }
    }

    private List<Token> tokens;
    private int at;

    private static List<Token> tokensOf(String tape) {
        List<Token> all = new ArrayList<>();
        Matcher m = Pattern.compile("[a-z]+|[0-9]+|[^ \n]", Pattern.DOTALL).matcher(tape);
        while (m.find()) {
            all.add(new Token(m.group(), m.start()));
        }
        all.add(new Token("", tape.length()));
        return all;
    }

    private boolean failed(int which, int where) {
        fault = which;
        place = where;
        return true;
    }

    int text() {
        tokens = tokensOf(tape);
        at = 0;
        tape = "";
        fault = 0;
        place = -1;
        World w = new World();
        TreeSet<String> seen = new TreeSet<>();
        while (!tokens.get(at).word.isEmpty()) {
            if (line(w, seen)) {
                return -4;
            }
            w.lines++;
        }
        w.begin();
        now = w;
        return w.lines;
    }

    private boolean line(World w, TreeSet<String> seen) {
        Token first = tokens.get(at);
        String template = "dig";
        for (String t : LINES) {
            if (t.startsWith(first.word + " ")) {
                template = t;
            }
        }
        if (template.equals("dig") && !first.word.equals("dig")) {
            return failed(1, first.place);
        }
        boolean tooMany = w.lines == 40 || seen.contains(first.word);
        tooMany |= first.word.equals("pipe") && w.pipes.size() == 12;
        tooMany |= first.word.equals("house") && w.houses.size() == 6;
        tooMany |= first.word.equals("dig") && w.rules.size() == 4;
        if (tooMany) {
            return failed(3, first.place);
        }
        if (first.word.equals("far") || first.word.equals("shaft") || first.word.equals("cold")) {
            seen.add(first.word);
        }
        if (template.equals("dig")) {
            return rule(w);
        }
        Map<String, Integer> got = new HashMap<>();
        for (String item : template.split(" ")) {
            if (item(w, seen, first.word, item, got)) {
                return true;
            }
        }
        apply(w, first.word, got);
        return false;
    }

    private static int bound(String b, Map<String, Integer> got) {
        return got.containsKey(b) ? got.get(b) : Integer.parseInt(b);
    }

    private boolean item(World w, TreeSet<String> seen, String line, String item, Map<String, Integer> got) {
        String[] parts = item.split(":");
        if (parts.length == 1) {
            Token t = tokens.get(at++);
            return !t.word.equals(item) && failed(1, t.place);
        }
        int low = bound(parts[1], got);
        int high = bound(parts[2], got);
        boolean minus = parts[0].equals("T") && tokens.get(at).word.equals("-");
        if (minus) {
            at++;
        }
        Token t = tokens.get(at++);
        if (!t.word.matches("[0-9]+")) {
            return failed(1, t.place);
        }
        String digits = t.word.replaceFirst("^0+(?=.)", "");
        int v = digits.length() > 7 ? 9999999 : Integer.parseInt(digits);
        v = minus ? -v : v;
        if (v < low || v > high) {
            return failed(2, t.place);
        }
        got.put(parts[0], v);
        boolean again = line.equals("ground") && parts[0].equals("G") && !seen.add("ground " + v);
        again |= line.equals("stream") && parts[0].equals("Y") && !seen.add("stream " + v);
        again |= line.equals("pipe") && parts[0].equals("Y") && w.pipeAt(got.get("X"), v) != -1;
        return again && failed(2, t.place);
    }

    private static void apply(World w, String line, Map<String, Integer> got) {
        switch (line) {
            case "ground" -> w.grounds[got.get("G")] = new int[] {got.get("A"), got.get("B"), got.get("C"), got.get("T")};
            case "lay" -> {
                for (int y = got.get("Y"); y <= got.get("Q"); y++) {
                    for (int x = got.get("X"); x <= got.get("P"); x++) {
                        w.ground[y][x] = got.get("G");
                    }
                }
            }
            case "stream" -> w.speed[got.get("Y")] = got.get("N");
            case "far" -> w.far = got.get("N");
            case "shaft" -> w.shaft = new int[] {got.get("X"), got.get("Y"), got.get("P"), got.get("Q")};
            case "pipe" -> w.pipes.add(new int[] {got.get("X"), got.get("Y"), got.get("T"), got.get("N"), 1, 0, 0});
            case "cold" -> w.cold = got.get("N");
            default -> w.houses.add(new int[] {got.get("X"), got.get("N"), -1});
        }
    }

    private boolean rule(World w) {
        at++;
        if (!tokens.get(at).word.equals("if")) {
            return failed(1, tokens.get(at).place);
        }
        List<String[]> conds = new ArrayList<>();
        do {
            at++;
            Token word = tokens.get(at++);
            if (!word.word.matches("shut|thick|gaps|tick|lift")) {
                return failed(1, word.place);
            }
            if (conds.size() == 3) {
                return failed(3, word.place);
            }
            if (word.word.equals("shut")) {
                conds.add(new String[] {"shut"});
                continue;
            }
            Token op = tokens.get(at++);
            if (!op.word.matches("[<>]")) {
                return failed(1, op.place);
            }
            Map<String, Integer> got = new HashMap<>();
            if (item(w, new TreeSet<>(), "dig", "N:0:99999", got)) {
                return true;
            }
            conds.add(new String[] {word.word, op.word, String.valueOf(got.get("N"))});
        } while (tokens.get(at).word.equals("and"));
        w.rules.add(conds);
        Token last = tokens.get(at++);
        return !last.word.equals(";") && failed(1, last.place);
    }

    // ---- a TICK

    static void step(World w) {
        int[][] comes = new int[12][12];
        int all = 0;
        for (int[] p : w.pipes) {
            int over = w.warm[p[1]][p[0]] - p[2];
            p[5] = p[4] == 1 && !w.dug[p[1]][p[0]] && over > 0 ? over * p[3] / 100 : 0;
            all += p[5];
        }
        for (int[] p : w.pipes) {
            if (all > w.cold) {
                p[5] = (int) ((long) p[5] * w.cold / all);
            }
            p[6] += p[5];
            w.sums[1] += p[5];
            comes[p[1]][p[0]] -= p[5];
        }
        for (int y = 0; y < 12; y++) {
            for (int x = 0; x < 12; x++) {
                if (!w.dug[y][x]) {
                    comes[y][x] += led(w, x, y) + streamed(w, x, y);
                }
            }
        }
        for (int y = 0; y < 12; y++) {
            for (int x = 0; x < 12; x++) {
                unitByUnit(w, x, y, comes[y][x]);
            }
        }
        w.ticks++;
    }

    private static int led(World w, int x, int y) {
        int sum = 0;
        int[][] around = {{x + 1, y}, {x - 1, y}, {x, y - 1}, {x, y + 1}};
        for (int[] o : around) {
            boolean inside = o[0] >= 0 && o[0] < 12 && o[1] >= 0 && o[1] < 12;
            if (!inside) {
                int h = (w.far - w.warm[y][x]) * w.lead(x, y) / 100;
                w.sums[2] += h;
                sum += h;
            } else if (!w.dug[o[1]][o[0]]) {
                int lesser = Math.min(w.lead(x, y), w.lead(o[0], o[1]));
                sum += (w.warm[o[1]][o[0]] - w.warm[y][x]) * lesser / 100;
            }
        }
        return sum;
    }

    private static int streamed(World w, int x, int y) {
        if (w.speed[y] == 0 || w.frozen(x, y) || x > 0 && (w.frozen(x - 1, y) || w.dug[y][x - 1])) {
            return 0;
        }
        int h = ((x == 0 ? w.far : w.warm[y][x - 1]) - w.warm[y][x]) * w.speed[y] / 100;
        w.sums[3] += h;
        return h;
    }

    private static void unitByUnit(World w, int x, int y, int heat) {
        int mark = w.grounds[w.ground[y][x]][3];
        int latent = w.grounds[w.ground[y][x]][2];
        for (int i = 0; i < -heat; i++) {
            if (w.warm[y][x] <= mark && w.ice[y][x] < latent) {
                w.ice[y][x]++;
            } else {
                w.warm[y][x]--;
            }
        }
        for (int i = 0; i < heat; i++) {
            if (w.warm[y][x] >= mark && w.ice[y][x] > 0) {
                w.ice[y][x]--;
            } else {
                w.warm[y][x]++;
            }
        }
    }

    int tick(int n) {
        if (n < 1 || n > 40) {
            return -2;
        }
        if (now.ticks + n > 2000) {
            return -3;
        }
        for (int i = 0; i < n; i++) {
            step(now);
            boolean wet = dugCount() > 0 && way(now) != -1;
            if (wet && !now.flooded) {
                now.floods++;
            }
            now.flooded |= wet;
            for (int[] h : now.houses) {
                if (h[2] == -1 && Math.abs(now.lift(h[0]) - now.lift(h[0] + 1)) > h[1]) {
                    h[2] = now.ticks;
                }
            }
        }
        return now.ticks;
    }

    int dugCount() {
        int n = 0;
        for (boolean[] row : now.dug) {
            for (boolean d : row) {
                n += d ? 1 : 0;
            }
        }
        return n;
    }

    // ---- walls

    private static List<int[]> beside(int x, int y) {
        List<int[]> all = new ArrayList<>();
        int[][] around = {{x + 1, y}, {x - 1, y}, {x, y - 1}, {x, y + 1}};
        for (int[] o : around) {
            if (o[0] >= 0 && o[0] < 12 && o[1] >= 0 && o[1] < 12) {
                all.add(o);
            }
        }
        return all;
    }

    private static boolean rim(int x, int y) {
        return x % 11 == 0 || y % 11 == 0;
    }

    private static boolean atShaft(World w, int x, int y) {
        for (int[] o : beside(x, y)) {
            if (w.inShaft(o[0], o[1])) {
                return !w.inShaft(x, y);
            }
        }
        return false;
    }

    /** The least price of a row of CELLS from the SHAFT to the RIM; below 0: none may be gone through. */
    private static int cheapest(World w, int open, int frozen) {
        int[][] price = new int[12][12];
        for (int[] row : price) {
            Arrays.fill(row, 1000000);
        }
        boolean changed = true;
        while (changed) {
            changed = false;
            for (int c = 0; c < 144; c++) {
                int x = c % 12;
                int y = c / 12;
                int own = w.frozen(x, y) ? frozen : open;
                if (w.inShaft(x, y) || own < 0) {
                    continue;
                }
                int best = atShaft(w, x, y) ? own : 1000000;
                for (int[] o : beside(x, y)) {
                    best = Math.min(best, price[o[1]][o[0]] + own);
                }
                if (best < price[y][x]) {
                    price[y][x] = best;
                    changed = true;
                }
            }
        }
        int least = 1000000;
        for (int c = 0; c < 144; c++) {
            if (rim(c % 12, c / 12)) {
                least = Math.min(least, price[c / 12][c % 12]);
            }
        }
        return least >= 1000000 ? -1 : least;
    }

    static int way(World w) {
        return cheapest(w, 1, -1);
    }

    static int thick(World w) {
        return cheapest(w, 0, 1);
    }

    /** How many paths from the SHAFT to the RIM, or to one CELL more, share no CELL. */
    private static int paths(World w, int alsoRim) {
        // nodes: 2 * c in, 2 * c + 1 out, 288 the SHAFT, 289 the RIM
        List<List<Integer>> next = new ArrayList<>();
        for (int i = 0; i < 290; i++) {
            next.add(new ArrayList<>());
        }
        for (int c = 0; c < 144; c++) {
            int x = c % 12;
            int y = c / 12;
            if (w.inShaft(x, y) || w.frozen(x, y)) {
                continue;
            }
            next.get(2 * c).add(2 * c + 1);
            if (atShaft(w, x, y)) {
                next.get(288).add(2 * c);
            }
            if (rim(x, y) || c == alsoRim) {
                next.get(2 * c + 1).add(289);
            }
            for (int[] o : beside(x, y)) {
                if (!w.inShaft(o[0], o[1]) && !w.frozen(o[0], o[1])) {
                    next.get(2 * c + 1).add(2 * (12 * o[1] + o[0]));
                }
            }
        }
        int n = 0;
        while (augment(next, 288, new boolean[290])) {
            n++;
        }
        return n;
    }

    /** An edge of which a path makes use is turned round. */
    private static boolean augment(List<List<Integer>> next, int node, boolean[] seen) {
        if (node == 289) {
            return true;
        }
        seen[node] = true;
        for (int i = 0; i < next.get(node).size(); i++) {
            int to = next.get(node).get(i);
            if (!seen[to] && augment(next, to, seen)) {
                next.get(node).remove(i);
                next.get(to).add(node);
                return true;
            }
        }
        return false;
    }

    static int gapCount(World w) {
        return paths(w, -1);
    }

    /** A CELL is left to go to in all sets if one that keeps it away too must be greater. */
    static List<Integer> gapList(World w) {
        int n = paths(w, -1);
        boolean[] left = new boolean[144];
        for (int c = 0; c < 144; c++) {
            boolean open = !w.inShaft(c % 12, c / 12) && !w.frozen(c % 12, c / 12);
            left[c] = open && paths(w, c) > n;
        }
        List<Integer> gaps = new ArrayList<>();
        for (int c = 0; c < 144; c++) {
            int x = c % 12;
            int y = c / 12;
            boolean bounds = atShaft(w, x, y);
            for (int[] o : beside(x, y)) {
                bounds |= left[12 * o[1] + o[0]];
            }
            if (n > 0 && bounds && !left[c] && !w.inShaft(x, y) && !w.frozen(x, y)) {
                gaps.add(c);
            }
        }
        return gaps;
    }

    // ---- the calls

    int lacks(int r) {
        if (r < 0 || r >= now.rules.size()) {
            return -1;
        }
        int bits = 0;
        boolean shafted = now.shaft != null;
        List<String[]> conds = now.rules.get(r);
        for (int i = 0; i < conds.size(); i++) {
            String[] c = conds.get(i);
            boolean holds;
            if (c[0].equals("shut")) {
                holds = shafted && way(now) == -1;
            } else {
                int v;
                switch (c[0]) {
                    case "thick" -> v = shafted ? thick(now) : 0;
                    case "gaps" -> v = shafted ? gapCount(now) : 0;
                    case "tick" -> v = now.ticks;
                    default -> {
                        v = 0;
                        for (int x = 0; x < 12; x++) {
                            v = Math.max(v, now.lift(x));
                        }
                    }
                }
                holds = c[1].equals("<") ? v < Integer.parseInt(c[2]) : v > Integer.parseInt(c[2]);
            }
            bits += holds ? 0 : 1 << i;
        }
        return bits;
    }

    int dig(int x, int y) {
        if (x < 0 || y < 0 || x > 11 || y > 11 || !now.inShaft(x, y) || now.dug[y][x]) {
            return -2;
        }
        boolean lets = now.rules.isEmpty();
        for (int r = 0; r < now.rules.size(); r++) {
            lets |= lacks(r) == 0;
        }
        if (!lets) {
            return -5;
        }
        if (now.flooded) {
            return -7;
        }
        now.sums[4] += now.warm[y][x] - now.ice[y][x];
        now.dug[y][x] = true;
        return (now.shaft[2] - now.shaft[0] + 1) * (now.shaft[3] - now.shaft[1] + 1) - dugCount();
    }

    int pump() {
        if (now.shaft == null) {
            return -6;
        }
        if (!now.flooded) {
            return -5;
        }
        if (way(now) != -1) {
            return -8;
        }
        now.flooded = false;
        return 0;
    }

    int foretell() {
        if (now.shaft == null) {
            return -6;
        }
        World w = now.copy();
        for (int t = 0; t <= 60; t++) {
            if (way(w) == -1) {
                return t;
            }
            step(w);
        }
        return -1;
    }

    int off() {
        if (now.shaft == null) {
            return -6;
        }
        if (way(now) != -1) {
            return -5;
        }
        World w = now.copy();
        for (int[] p : w.pipes) {
            p[4] = 0;
        }
        for (int t = 1; t <= 60; t++) {
            step(w);
            if (way(w) != -1) {
                return t;
            }
        }
        return -1;
    }

    int more(int slot, int n) {
        if (slot < 0 || slot > 3 || n < 1 || n > 30 || slots[slot] != null && slots[slot].length > 6) {
            return -2;
        }
        if (slots[slot] == null || now.shaft == null || now.pipes.isEmpty()) {
            return -6;
        }
        long[] row = slots[slot];
        TreeSet<Long> seen = new TreeSet<>();
        for (long v : row) {
            if (v < 0 || v > 143 || !seen.add(v) || now.dug[(int) v / 12][(int) v % 12]
                    || now.pipeAt((int) v % 12, (int) v / 12) != -1) {
                return -7;
            }
        }
        for (int size = 0; size <= row.length; size++) {
            if (moreFrom(row, n, new ArrayList<>(), size)) {
                return size;
            }
        }
        return -1;
    }

    /** Goes through the rows of places as a dictionary has them. */
    private boolean moreFrom(long[] row, int n, List<Integer> places, int size) {
        if (places.size() == size) {
            World w = now.copy();
            int bits = 0;
            for (int i : places) {
                w.pipes.add(new int[] {(int) row[i] % 12, (int) row[i] / 12, w.pipes.get(0)[2], w.pipes.get(0)[3], 1, 0, 0});
                bits |= 1 << i;
            }
            for (int t = 0; t < n; t++) {
                step(w);
            }
            if (way(w) != -1) {
                return false;
            }
            chosen = bits;
            return true;
        }
        for (int i = places.isEmpty() ? 0 : places.get(places.size() - 1) + 1; i < row.length; i++) {
            places.add(i);
            if (moreFrom(row, n, places, size)) {
                return true;
            }
            places.remove(places.size() - 1);
        }
        return false;
    }
}
