import java.util.ArrayList;
import java.util.List;

/** Runs of calls by a fixed row of numbers, each answer held against the Model's. */
public final class ModelRuns {
    private static final int RUNS = 80;
    private static final int CALLS = 300;
    private static final int TEXTS = 20000;
    private static final int RINGS = 150;
    private static final int MAZES = 2000;

    private static long seed = 1;
    private static FrostRing ring;
    private static Model model;
    private static String label;

    private ModelRuns() {
    }

    private static int below(int n) {
        seed = seed * 6364136223846793005L + 1442695040888963407L;
        return (int) ((seed >>> 33) % n);
    }

    private static int from(int low, int high) {
        return low + below(high - low + 1);
    }

    private static boolean oneIn(int n) {
        return below(n) == 0;
    }

    private static void due(String call, long got, long want) {
        Check.due(label + call, got, want);
    }

    public static void main(String[] args) {
        for (int run = 0; run < RUNS; run++) {
            seed = run + 1;
            below(2);
            ring = new FrostRing();
            model = new Model();
            tellText(goodText());
            for (int i = 0; i < CALLS; i++) {
                label = "run " + run + ", call " + i + ": ";
                call();
            }
        }
        for (int i = 0; i < TEXTS; i++) {
            seed = 1000000 + i;
            ring = new FrostRing();
            model = new Model();
            label = "text " + i + ": ";
            tellText(spoilt(goodText()));
        }
        for (int i = 0; i < RINGS; i++) {
            seed = 2000000 + i;
            ring = new FrostRing();
            model = new Model();
            label = "ring " + i + ": ";
            askForMore();
        }
        for (int i = 0; i < MAZES; i++) {
            seed = 3000000 + i;
            ring = new FrostRing();
            model = new Model();
            label = "maze " + i + ": ";
            walkMaze();
        }
        Check.close("ModelRuns");
    }

    // ---- texts

    private static String goodText() {
        List<String> lines = new ArrayList<>();
        for (int g = 0; g < 4; g++) {
            if (!oneIn(3)) {
                int latent = oneIn(3) ? from(1, 999) : from(1, 60);
                String mark = oneIn(2) ? "0" : "-" + from(0, 30);
                lines.add("ground " + g + " lead " + from(0, 15) + " ice " + from(0, 15) + " latent " + latent
                    + " mark " + mark + " ;");
            }
        }
        for (int i = below(4); i > 0; i--) {
            int x = below(12);
            int y = below(12);
            lines.add("lay " + x + " " + y + " to " + from(x, 11) + " " + from(y, 11) + " ground " + below(4) + " ;");
        }
        for (int y = 0; y < 12; y++) {
            if (oneIn(8)) {
                lines.add("stream " + y + " speed " + below(31) + " ;");
            }
        }
        if (!oneIn(3)) {
            lines.add("far " + (oneIn(2) ? from(1, 40) : from(1, 300)) + " ;");
        }
        if (oneIn(3)) {
            lines.add("cold " + (oneIn(5) ? below(100000) : below(3000)) + " ;");
        }
        shaftAndPipes(lines);
        for (int i = below(5); i > 0; i--) {
            lines.add("house " + below(11) + " limit " + (oneIn(3) ? below(1000) : below(30)) + " ;");
        }
        for (int i = oneIn(2) ? 0 : below(5); i > 0; i--) {
            lines.add(rule());
        }
        StringBuilder text = new StringBuilder();
        while (!lines.isEmpty() && text.length() < 640) {
            text.append(lines.remove(below(lines.size()))).append(oneIn(3) ? "\n" : "");
        }
        return text.toString();
    }

    private static void shaftAndPipes(List<String> lines) {
        int x = from(1, 10);
        int y = from(1, 10);
        int x2 = Math.min(10, x + below(4));
        int y2 = Math.min(10, y + below(4));
        if (!oneIn(12)) {
            lines.add("shaft " + x + " " + y + " to " + x2 + " " + y2 + " ;");
        }
        boolean ring = oneIn(2);
        boolean[] taken = new boolean[144];
        for (int i = oneIn(8) ? 0 : from(1, 12); i > 0; i--) {
            int px = ring ? Math.min(11, Math.max(0, from(x - 2, x2 + 2))) : below(12);
            int py = ring ? Math.min(11, Math.max(0, from(y - 2, y2 + 2))) : below(12);
            if (!taken[12 * py + px]) {
                taken[12 * py + px] = true;
                lines.add("pipe " + px + " " + py + " at -" + from(oneIn(3) ? 0 : 200, 400) + " lead " + from(20, 60) + ";");
            }
        }
    }

    private static String rule() {
        String[] words = {"thick", "gaps", "tick", "lift"};
        StringBuilder text = new StringBuilder("dig if ");
        for (int i = from(1, 3); i > 0; i--) {
            String cond = words[below(4)] + (oneIn(2) ? "<" : " > ") + (oneIn(4) ? below(100000) : below(8));
            text.append(oneIn(3) ? "shut" : cond).append(i > 1 ? " and " : " ;");
        }
        return text.toString();
    }

    /** A text with a few of its TOKENS or bytes put elsewhere, left out, doubled or put in place of others. */
    private static String spoilt(String text) {
        StringBuilder all = new StringBuilder(text);
        String[] bits = {"-", ";", "<", ">", "far 5 ;", "12", "99999", "100000", "and", "and shut", "to", "cold 0 ;", "G", ".",
            "pipe 0 0 at -1 lead 1 ;", "house 0 limit 0 ;", "ground 0 lead 1 ice 1 latent 1 mark 0 ;", "dig if shut ;",
            "stream 1 speed 1 ;", "shaft 1 1 to 2 2 ;", "\n", " ", "0", "-31", "007", "99999999999999999999", "lay", "\u00e9",
            "dig if shut and shut and shut and shut ;", "dig if shut and shut and shut and 1 ;", "\0"};
        for (int i = from(1, 2); i > 0 && all.length() > 0; i--) {
            int at = below(all.length());
            int kind = below(4);
            if (kind == 0) {
                all.deleteCharAt(at);
            } else if (kind == 1) {
                all.setLength(at);
            } else if (kind == 2) {
                all.insert(at, bits[below(bits.length)]);
            } else {
                int line = all.indexOf(";", at) + 1;
                String bit = bits[below(bits.length)];
                for (int n = oneIn(3) ? 14 : 1; n > 0; n--) {
                    all.insert(line, bit);
                }
            }
        }
        all.setLength(Math.min(all.length(), 690));
        return all.toString();
    }

    private static void tellText(String text) {
        Check.put(ring, text);
        model.tape += text;
        due("count(6)", ring.count(6), model.tape.length());
        due("text() of " + text, ring.text(), model.text());
        due("fault(0) of " + text, ring.fault(0), model.fault);
        due("fault(1) of " + text, ring.fault(1), model.place);
    }

    // ---- calls

    private static void call() {
        switch (below(24)) {
            case 0, 1, 2, 3 -> {
                int n = oneIn(4) ? from(-1, 42) : 1 + below(4);
                due("tick(" + n + ")", ring.tick(n), model.tick(n));
            }
            case 4 -> compareCells();
            case 5 -> comparePipes();
            case 6, 7 -> compareWalls();
            case 8, 9, 10 -> {
                int x = oneIn(4) || model.now.shaft == null ? from(-1, 12) : from(model.now.shaft[0], model.now.shaft[2]);
                int y = oneIn(4) || model.now.shaft == null ? from(-1, 12) : from(model.now.shaft[1], model.now.shaft[3]);
                due("dig(" + x + ", " + y + ")", ring.dig(x, y), model.dig(x, y));
            }
            case 11 -> due("pump()", ring.pump(), model.pump());
            case 12 -> compareHouses();
            case 13 -> due("foretell()", ring.foretell(), model.foretell());
            case 14 -> due("off()", ring.off(), model.off());
            case 15 -> callMore();
            case 16, 17 -> callGauges();
            case 18 -> callPipes();
            case 19 -> callImages();
            case 20 -> compareCounts();
            case 21 -> callRows();
            case 22 -> callGaps();
            default -> {
                if (oneIn(6)) {
                    tellText(oneIn(3) ? spoilt(goodText()) : goodText());
                }
            }
        }
    }

    private static void compareCells() {
        Model.World w = model.now;
        int coldest = -1;
        int warmest = -1;
        for (int c = 0; c < 144; c++) {
            int x = c % 12;
            int y = c / 12;
            String at = "cell(" + x + ", " + y + ", ";
            due(at + "0)", ring.cell(x, y, 0), w.ground[y][x]);
            due(at + "1)", ring.cell(x, y, 1), w.warm[y][x]);
            due(at + "2)", ring.cell(x, y, 2), w.ice[y][x]);
            due(at + "3)", ring.cell(x, y, 3), w.dug[y][x] ? 2 : w.frozen(x, y) ? 1 : 0);
            due(at + "4)", ring.cell(x, y, 4), w.pipeAt(x, y));
            due(at + "5)", ring.cell(x, y, 5), w.inShaft(x, y) ? 1 : 0);
            if (!w.dug[y][x]) {
                coldest = coldest == -1 || w.warm[y][x] < w.warm[coldest / 12][coldest % 12] ? c : coldest;
                warmest = warmest == -1 || w.warm[y][x] > w.warm[warmest / 12][warmest % 12] ? c : warmest;
            }
        }
        due("most(0)", ring.most(0), coldest);
        due("most(1)", ring.most(1), warmest);
        due("heat(0)", ring.heat(0), w.heat());
        for (int i = 1; i < 6; i++) {
            due("heat(" + i + ")", ring.heat(i), w.sums[i]);
        }
        int[] s = w.sums;
        due("heat in all", w.heat(), s[5] - s[1] + s[2] + s[3] - s[4]);
    }

    private static void comparePipes() {
        for (int p = 0; p < model.now.pipes.size(); p++) {
            int[] told = model.now.pipes.get(p);
            int[] want = {12 * told[1] + told[0], told[2], told[3], told[4], told[5], told[6]};
            for (int i = 0; i < 6; i++) {
                due("pipe(" + p + ", " + i + ")", ring.pipe(p, i), want[i]);
            }
        }
        due("pipe behind the last", ring.pipe(model.now.pipes.size(), 0), Model.NOTHING);
    }

    private static void compareWalls() {
        boolean shafted = model.now.shaft != null;
        int way = shafted ? Model.way(model.now) : -6;
        due("way()", ring.way(), way);
        due("shut()", ring.shut(), !shafted ? -6 : way == -1 ? 1 : 0);
        due("thick()", ring.thick(), shafted ? Model.thick(model.now) : -6);
        for (int r = -1; r < 5; r++) {
            due("lacks(" + r + ")", ring.lacks(r), model.lacks(r));
        }
    }

    private static void callGaps() {
        if (oneIn(3)) {
            if (model.now.shaft == null) {
                due("gaps()", ring.gaps(), -6);
            } else {
                model.told = Model.gapList(model.now);
                due("gaps()", ring.gaps(), Model.gapCount(model.now));
                due("as many as are listed", model.told.size(), Model.gapCount(model.now));
            }
        }
        callGapsTold();
    }

    private static void callGapsTold() {
        for (int i = 0; i < model.told.size(); i++) {
            due("gap(" + i + ")", ring.gap(i), model.told.get(i));
        }
        due("gap behind the last", ring.gap(model.told.size()), -1);
    }

    private static void compareHouses() {
        int bits = 0;
        for (int h = 0; h < model.now.houses.size(); h++) {
            int[] told = model.now.houses.get(h);
            bits |= told[2] == -1 ? 0 : 1 << h;
            for (int i = 0; i < 3; i++) {
                due("house(" + h + ", " + i + ")", ring.house(h, i), told[i]);
            }
        }
        due("cracks()", ring.cracks(), bits);
        due("house behind the last", ring.house(model.now.houses.size(), 0), Model.NOTHING);
        for (int x = 0; x < 12; x++) {
            due("lift(" + x + ")", ring.lift(x), model.now.lift(x));
        }
    }

    private static void callMore() {
        int slot = below(4);
        if (model.now.shaft != null && !oneIn(6)) {
            int length = below(oneIn(8) ? 8 : 5);
            due("row", ring.row(slot, 1, length), 0);
            model.slots[slot] = new long[length];
            for (int i = 0; i < length; i++) {
                int x = from(model.now.shaft[0] - 1, model.now.shaft[2] + 1);
                int y = from(model.now.shaft[1] - 1, model.now.shaft[3] + 1);
                int v = oneIn(20) ? from(-1, 145) : 12 * y + x;
                model.slots[slot][i] = v;
                due("write", ring.write(slot, i, v), 0);
            }
        }
        int n = oneIn(12) ? from(0, 31) : from(1, 12);
        due("more(" + slot + ", " + n + ")", ring.more(slot, n), model.more(slot, n));
        due("chosen()", ring.chosen(), model.chosen);
    }

    /** A ring of PIPES with some left out, those and others being what more() may choose from. */
    private static void askForMore() {
        int x = from(2, 8);
        int y = from(2, 8);
        int[] around = {12 * y - 12 + x, 12 * y - 11 + x, 12 * y - 1 + x, 12 * y + 2 + x, 12 * y + 11 + x, 12 * y + 14 + x,
            12 * y + 24 + x, 12 * y + 25 + x};
        for (int i = 7; i > 0; i--) {
            int j = below(i + 1);
            int other = around[i];
            around[i] = around[j];
            around[j] = other;
        }
        int left = from(1, 4);
        StringBuilder text = new StringBuilder("far " + from(5, 60) + ";ground 0 lead 5 ice " + from(0, 15) + " latent ");
        text.append(from(1, 150)).append(" mark 0;shaft ").append(x + " " + y + " to " + (x + 1) + " " + (y + 1) + ";");
        text.append(oneIn(2) ? "cold " + from(100, 1200) + ";" : "");
        for (int i = left; i < 8; i++) {
            text.append("pipe " + around[i] % 12 + " " + around[i] / 12 + " at -300 lead 40;");
        }
        tellText(text.toString());
        int length = from(left, 6);
        long[] row = new long[length];
        for (int i = 0; i < length; i++) {
            row[i] = i < left ? around[i] : around[i % 2] + (i % 2 == 0 ? -1 : 1) * (i < 4 ? 24 : 2);
        }
        for (int i = length - 1; i > 0; i--) {
            int j = below(i + 1);
            long other = row[i];
            row[i] = row[j];
            row[j] = other;
        }
        model.slots[0] = row;
        ring.row(0, 3, length);
        for (int i = 0; i < length; i++) {
            due("write", ring.write(0, i, row[i]), 0);
        }
        for (int n = 1; n <= 30; n += 1 + below(9)) {
            due("more(0, " + n + ")", ring.more(0, n), model.more(0, n));
            due("chosen()", ring.chosen(), model.chosen);
        }
    }

    /** Blocks of ground that leads and freezes at once in ground that does neither: walls with holes, of any shape. */
    private static void walkMaze() {
        int x = from(3, 6);
        int y = from(3, 6);
        StringBuilder text = new StringBuilder("ground0lead0ice0latent999mark0;ground1lead15ice15latent1mark0;far1;");
        text.append("shaft" + x + " " + y + "to" + from(x, Math.min(8, x + 3)) + " " + from(y, Math.min(8, y + 3)) + ";");
        boolean[] taken = new boolean[144];
        StringBuilder pipes = new StringBuilder();
        for (int i = from(8, 14); i > 0; i--) {
            int bx = below(12);
            int by = below(12);
            boolean wide = oneIn(2);
            int bx2 = Math.min(11, bx + (wide ? below(7) : 0));
            int by2 = Math.min(11, by + (wide ? 0 : below(7)));
            text.append("lay" + bx + " " + by + "to" + bx2 + " " + by2 + "ground1;");
            int px = from(bx, bx2);
            int py = from(by, by2);
            if (!taken[12 * py + px] && i <= 12) {
                taken[12 * py + px] = true;
                pipes.append("pipe" + px + " " + py + "at-400lead60;");
            }
        }
        tellText(text.append(pipes).toString());
        for (int i = 0; i < 3; i++) {
            due("tick(2)", ring.tick(2), model.tick(2));
            compareWalls();
            model.told = Model.gapList(model.now);
            due("gaps()", ring.gaps(), Model.gapCount(model.now));
            callGapsTold();
        }
    }

    private static void callGauges() {
        int g = from(-1, 10);
        int x = from(-1, 12);
        int y = from(-1, 12);
        int reading = oneIn(3) ? from(-501, 501) : from(-20, 40);
        boolean good = g >= 0 && g < 10 && x >= 0 && y >= 0 && x < 12 && y < 12 && Math.abs(reading) <= 500;
        due("gauge", ring.gauge(g, x, y, reading), good ? 0 : -2);
        if (good) {
            model.now.gauges.put(g, new int[] {x, y, reading});
        }
        int by = below(oneIn(2) ? 100 : 20);
        int bits = 0;
        for (int i : model.now.gauges.keySet()) {
            int[] read = model.now.gauges.get(i);
            boolean dug = model.now.dug[read[1]][read[0]];
            bits |= dug || Math.abs(model.now.warm[read[1]][read[0]] - read[2]) > by ? 1 << i : 0;
        }
        due("lies(" + by + ")", ring.lies(by), bits);
    }

    private static void callPipes() {
        int p = from(-1, 12);
        boolean is = oneIn(2);
        boolean known = p >= 0 && p < model.now.pipes.size();
        boolean changes = known && model.now.pipes.get(p)[4] != (is ? 1 : 0);
        due("run(" + p + ", " + is + ")", ring.run(p, is) ? 1 : 0, changes ? 1 : 0);
        if (known) {
            model.now.pipes.get(p)[4] = is ? 1 : 0;
        }
        if (oneIn(4)) {
            int v = oneIn(4) ? from(-1, 100000) : below(2000);
            boolean good = v >= 0 && v < 100000;
            due("cold(" + v + ")", ring.cold(v), good ? model.now.cold : -2);
            model.now.cold = good ? v : model.now.cold;
        }
    }

    private static void callImages() {
        int k = from(-1, 3);
        boolean known = k >= 0 && k < 3;
        if (oneIn(2)) {
            due("keep(" + k + ")", ring.keep(k), known ? 0 : -2);
            if (known) {
                model.images[k] = model.now.copy();
            }
        } else {
            due("back(" + k + ")", ring.back(k), !known ? -2 : model.images[k] == null ? -6 : 0);
            if (known && model.images[k] != null) {
                model.now = model.images[k].copy();
            }
        }
    }

    private static void compareCounts() {
        Model.World w = model.now;
        int frozen = 0;
        for (int y = 0; y < 12; y++) {
            int bits = 0;
            for (int x = 0; x < 12; x++) {
                bits |= w.frozen(x, y) ? 1 << x : 0;
            }
            frozen += Integer.bitCount(bits);
            due("frost(" + y + ")", ring.frost(y), bits);
        }
        int rows = 0;
        for (long[] row : model.slots) {
            rows += row == null ? 0 : 1;
        }
        int[] want = {w.lines, w.ticks, w.pipes.size(), frozen, model.dugCount(), w.rules.size(), model.tape.length(),
            w.houses.size(), w.flooded ? 1 : 0, w.cold, rows, w.far, w.floods, -1};
        for (int i = 0; i < want.length; i++) {
            due("count(" + i + ")", ring.count(i), want[i]);
        }
    }

    /** Numbers of rows can be seen by more() alone, so they are only put within one row here. */
    private static void callRows() {
        int slot = below(4);
        long[] row = model.slots[slot];
        int i = from(-1, 7);
        int k = from(-1, 7);
        int n = from(-1, 4);
        int due = -6;
        if (row != null) {
            boolean fits = i >= 0 && k >= 0 && n >= 0 && i + n <= row.length && k + n <= row.length;
            due = fits ? 0 : -7;
            if (fits) {
                System.arraycopy(row, i, row, k, n);
            }
        }
        due("paste(" + slot + ", " + i + ", " + slot + ", " + k + ", " + n + ")", ring.paste(slot, i, slot, k, n), due);
    }
}
