import java.util.Random;

/** Runs of calls by a seed, each answer held against the model's. */
public final class FuzzTest {
    private static final int RUNS = 80;
    private static final int CALLS = 512;

    private final Random random;
    private final CrossbarHouse house = new CrossbarHouse();
    private final Model model = new Model();
    private final StringBuilder told = new StringBuilder();
    private int calls = 1;
    private int wrong = 0;

    private FuzzTest(long seed) {
        random = new Random(seed);
    }

    public static void main(String[] args) {
        int wrong = 0;
        int runs = args.length > 0 ? Integer.parseInt(args[0]) : RUNS;
        for (int seed = 0; seed < runs && wrong < 5; seed++) {
            FuzzTest test = new FuzzTest(seed);
            if (seed % 4 == 1) {
                test.runShadow();
            } else if (seed % 4 == 3) {
                test.runFits();
            } else {
                test.run();
            }
            if (test.wrong > 0) {
                System.out.println("FuzzTest, seed " + seed + ":\n" + test.told);
            }
            wrong += test.wrong;
        }
        System.out.println(wrong == 0 ? "FuzzTest: all as due" : "FuzzTest: wrong answers");
        if (wrong > 0) {
            System.exit(1);
        }
    }

    private void run() {
        tell(0, -1, bar());
        tell(1, -1, traffic());
        tell(2, -1, log());
        while (calls < CALLS - 40 && wrong == 0) {
            if (random.nextInt(12) == 0) {
                int sort = random.nextInt(3);
                int at = random.nextInt(6) == 0 ? odd() : random.nextInt(3) - 1;
                tell(sort, at, spoil(sort == 0 ? bar() : sort == 1 ? traffic() : log()));
            } else {
                ask();
            }
        }
    }

    /** Nothing but CELLS, for few OUTPUTS, so that rows grow long: each CELL by both SPEEDS. */
    private void runShadow() {
        int ports = 2 + below(5);
        tell(0, -1, "ports " + ports + ";");
        for (int n = 0; n < 4; n++) {
            StringBuilder traffic = new StringBuilder();
            int arrived = 0;
            int narrow = 1 + below(ports);
            for (int k = 0; k < 40; k++) {
                int i = below(ports);
                boolean isSlot = (arrived >> i & 1) != 0 && below(3) == 0;
                for (int j = 0; j < ports && (arrived >> i & 1) != 0; j++) {
                    i = (i + 1) % ports;
                }
                isSlot |= (arrived >> i & 1) != 0;
                traffic.append(isSlot ? "slot;" : "cell " + i + " " + below(narrow) + ";");
                arrived = isSlot ? 0 : arrived | 1 << i;
            }
            tell(1, n == 0 ? -1 : 0, traffic.toString());
            for (int k = -1; k < 40; k++) {
                for (int what = 0; what < 3; what++) {
                    due("mimic " + k + " " + what, house.mimic(0, 0, k, what), model.mimic(0, 0, k, what));
                }
            }
        }
    }

    /** All that fits() tells, of many LOGS. */
    private void runFits() {
        tell(0, -1, bar() + (below(2) == 0 ? "ports 6;" : ""));
        tell(1, -1, traffic());
        for (int n = 0; n < 8; n++) {
            tell(2, n == 0 ? -1 : 0, n == 0 ? "" : log());
            for (int what = 0; what < 37; what++) {
                due("fits " + what, house.fits(0, 0, 0, what), model.fits(0, 0, 0, what));
            }
            for (int what = 0; what < 17; what++) {
                due("after " + what, house.after(0, 0, what), model.after(0, 0, what));
            }
            tell(1, 0, traffic());
        }
    }

    private void due(String call, int got, int want) {
        calls++;
        if (got != want) {
            wrong++;
            told.append(call).append(" answered ").append(got).append(", due is ").append(want).append('\n');
        }
    }

    private void tell(int sort, int at, String text) {
        byte[] bytes = text.getBytes(java.nio.charset.StandardCharsets.ISO_8859_1);
        int size = Math.min(bytes.length, 600);
        for (int k = 0; k < size; k += 20) {
            int[] v = new int[5];
            for (int j = 0; j < 20; j++) {
                v[j / 4] = v[j / 4] << 8 | (k + j < size ? bytes[k + j] & 255 : 0);
            }
            due("feed", house.feed(v[0], v[1], v[2], v[3], v[4]), model.feed(v));
        }
        due("end", house.end(size), model.end(size));
        told.append("text ").append(sort).append(' ').append(at).append(": ").append(text).append('\n');
        due("text", house.text(sort, at), model.text(sort, at));
        due("fault 0", house.fault(0), model.fault(0));
        due("fault 1", house.fault(1), model.fault(1));
    }

    private int below(int n) {
        return random.nextInt(n);
    }

    /** A number that is seldom the right one. */
    private int odd() {
        int[] some = {-1, -2, -3, 0, 1, 2, 3, 5, 6, 7, 9, 16, 80, 99, 100, 156, 160, 200, 1000000,
            Integer.MAX_VALUE, Integer.MIN_VALUE, -10, -100};
        return some[below(some.length)];
    }

    private String bar() {
        StringBuilder s = new StringBuilder();
        String[] words = {"ports", "rounds", "depth", "pointer"};
        int[] most = {6, 4, 9, 6};
        for (int n = below(8); n > 0; n--) {
            int w = below(4);
            int v = w == 2 && below(2) == 0 ? 1 + below(3) : below(most[w]) + (w == 3 ? 0 : 1);
            s.append(words[w]).append(' ').append(v).append(';').append(below(3) == 0 ? " " : "");
        }
        return s.toString();
    }

    /** Mostly such DEEDS as can be: by PORTS of a crossbar, no two from one INPUT behind the last SLOT. */
    private String traffic() {
        StringBuilder s = new StringBuilder();
        int ports = Math.max(1, house.crossbar(0, 0));
        int arrived = 0;
        int slotsSeldom = 2 + below(6);
        int cellsMostly = below(3);
        int size = below(4) == 0 ? below(12) : 20 + below(21);
        for (int k = 0; k < size; k++) {
            int free = below(ports);
            boolean isSlot = below(slotsSeldom) == 0 || arrived == (1 << ports) - 1;
            for (int j = 0; j < ports && (arrived >> free & 1) != 0; j++) {
                free = (free + 1) % ports;
            }
            if (isSlot) {
                s.append(below(5) == 0 ? "idle " + (1 + below(below(4) == 0 ? 9 : 3)) + ";" : "slot;");
                arrived = 0;
                continue;
            }
            if (below(150) == 0) {
                free = below(6);
            }
            arrived |= 1 << free;
            int sort = cellsMostly == 0 ? 0 : below(cellsMostly == 1 ? 6 : 3);
            int narrow = 1 + below(ports);
            if (sort == 1 || sort == 2) {
                int outs = 1 + below((1 << ports) - 1);
                s.append(sort == 1 ? "fan " : "burst ").append(free).append(' ').append(outs).append(';');
            } else {
                s.append("cell ").append(free).append(' ').append(below(narrow)).append(';');
            }
        }
        return s.toString();
    }

    /** Mostly such FACTS as are so. */
    private String log() {
        StringBuilder s = new StringBuilder();
        int stop = house.stop(0, 0);
        for (int n = below(6); n > 0; n--) {
            int slot = below(4) == 0 ? below(61) : below(6);
            int o = below(6);
            int i = below(6);
            boolean match = below(2) == 0;
            int last = stop > 0 ? below(stop + 1) : 0;
            int seen = house.state(0, 0, last, 60 + o);
            if (seen >= 0 && below(4) > 0) {
                slot = Math.min(60, house.state(0, 0, last, 0) - 1);
                i = seen;
                match = true;
            }
            s.append(match ? "match " : "apart ").append(slot).append(' ').append(i).append(' ').append(o).append(';');
        }
        return s.toString();
    }

    private String spoil(String text) {
        if (below(3) > 0) {
            return text;
        }
        StringBuilder s = new StringBuilder(text);
        String signs = "; \n0123456789azslotcellX" + (char) 0 + (char) 233 + (char) 9;
        for (int n = 1 + below(2); n > 0; n--) {
            int at = below(s.length() + 1);
            char sign = signs.charAt(below(signs.length()));
            int how = below(4);
            if (how == 0) {
                s.insert(at, sign);
            } else if (how == 1 && at < s.length()) {
                s.setCharAt(at, sign);
            } else if (how == 2 && at < s.length()) {
                s.deleteCharAt(at);
            } else if (how == 3 && s.length() < 560) {
                s.append("slot;idle 0;cell 0 7;match 1 1 1;".substring(0, 5 * (1 + below(4))));
            }
        }
        return s.toString();
    }

    private int one() {
        return below(20) == 0 ? odd() : below(8) == 0 ? 1 : 0;
    }

    private int what(int most) {
        return below(15) == 0 ? odd() : below(most + 1);
    }

    private int stateWhat() {
        int b = below(12);
        if (b == 0) {
            return odd();
        }
        if (b < 3) {
            return below(7);
        }
        return b < 9 ? 10 + below(76) : 100 + 10 * below(7) + below(7);
    }

    private void ask() {
        int c = one();
        int t = one();
        int l = one();
        int stop = Math.max(0, model.stop(c, t));
        int n = below(12) == 0 ? odd() : below(stop + 2);
        int k = below(12) == 0 ? odd() : below(40) - 1;
        int w;
        String at = "(" + c + ", " + t + ", n " + n + ", k " + k + ", log " + l + ", what ";
        switch (below(19)) {
            case 0:
                w = what(4);
                due("crossbar" + at + w, house.crossbar(c, w), model.crossbar(c, w));
                break;
            case 1:
                w = what(3);
                due("deed" + at + w, house.deed(t, k, w), model.deed(t, k, w));
                break;
            case 2:
                due("stop" + at, house.stop(c, t), model.stop(c, t));
                break;
            case 3:
            case 4:
            case 5:
                w = stateWhat();
                due("state" + at + w, house.state(c, t, n, w), model.state(c, t, n, w));
                break;
            case 6:
                w = what(6);
                due("cell" + at + w, house.cell(c, t, k, w), model.cell(c, t, k, w));
                break;
            case 7:
                w = what(99);
                int o = what(6);
                due("full" + at + w + " " + o, house.full(c, w, o), model.full(c, w, o));
                break;
            case 8:
                w = what(4);
                due("rhythm" + at + w, house.rhythm(c, w), model.rhythm(c, w));
                break;
            case 9:
            case 10:
                w = what(4 + 12);
                due("judge" + at + w, house.judge(c, t, n, w), model.judge(c, t, n, w));
                break;
            case 11:
            case 12:
                w = what(3);
                due("mimic" + at + w, house.mimic(c, t, k, w), model.mimic(c, t, k, w));
                due("mimic" + at + 1, house.mimic(c, t, -1, 1), model.mimic(c, t, -1, 1));
                due("mimic" + at + 2, house.mimic(c, t, -1, 2), model.mimic(c, t, -1, 2));
                break;
            case 13:
                w = what(3);
                due("flow" + at + w, house.flow(c, t, k, w), model.flow(c, t, k, w));
                break;
            case 14:
                w = what(16);
                due("after" + at + w, house.after(c, t, w), model.after(c, t, w));
                break;
            case 15:
                w = what(4);
                due("fact" + at + w, house.fact(l, k, w), model.fact(l, k, w));
                break;
            case 16:
                w = below(2) == 0 ? what(4) : 10 + below(26);
                due("fits" + at + w, house.fits(c, t, l, w), model.fits(c, t, l, w));
                break;
            case 17:
                w = stateWhat();
                int seed = random.nextInt();
                int m = below(12) == 0 ? odd() : below(62);
                due("drawn" + at + w + " seed " + seed + " n " + m, house.drawn(c, seed, m, w), model.drawn(c, seed, m, w));
                break;
            default:
                askRest();
        }
    }

    private void askRest() {
        int k = below(6) == 0 ? odd() : below(3);
        switch (below(5)) {
            case 0:
                due("count " + k, house.count(k), model.count(k));
                break;
            case 1:
                due("image " + k, house.image(k) ? 1 : 0, model.image(k) ? 1 : 0);
                break;
            case 2:
                due("again " + k, house.again(k) ? 1 : 0, model.again(k) ? 1 : 0);
                break;
            case 3:
                due("end " + k, house.end(k), model.end(k));
                break;
            default:
                int a = random.nextInt();
                due("feed", house.feed(a, a, 7, 8, 9), model.feed(a, a, 7, 8, 9));
                due("fault " + k, house.fault(k), model.fault(k));
                break;
        }
    }
}
