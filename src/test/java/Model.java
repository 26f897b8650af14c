import java.util.ArrayList;
import java.util.Arrays;
import java.util.HashMap;
import java.util.HashSet;
import java.util.LinkedHashMap;
import java.util.List;
import java.util.Map;
import java.util.Set;
import java.util.TreeMap;
import java.util.regex.Matcher;
import java.util.regex.Pattern;

/**
 * The document once more, in its slowest and plainest form, with the whole Java library: what the
 * class answers is held against it by FuzzTest. Nothing here is taken from the class.
 */
final class Model {
    static final int[] DEFAULTS = {4, 2, 9, 0};

    List<int[]> bars = new ArrayList<>();
    List<List<int[]>> traffics = new ArrayList<>();
    List<List<int[]>> logs = new ArrayList<>();
    List<Byte> tape = new ArrayList<>();
    int faultSort = 0;
    int faultPlace = -1;
    final Model[] images = new Model[3];

    // ---- texts

    int feed(int... numbers) {
        if (tape.size() + 20 > 600) {
            return -1;
        }
        for (int v : numbers) {
            for (int s = 24; s >= 0; s -= 8) {
                tape.add((byte) (v >>> s));
            }
        }
        return tape.size();
    }

    int end(int n) {
        if (n < 0 || n > tape.size()) {
            return -1;
        }
        tape = new ArrayList<>(tape.subList(0, n));
        return n;
    }

    int count(int sort) {
        switch (sort) {
            case 0: return bars.size();
            case 1: return traffics.size();
            case 2: return logs.size();
            default: return -2;
        }
    }

    int text(int sort, int at) {
        StringBuilder all = new StringBuilder();
        for (byte b : tape) {
            all.append((char) (b & 255));
        }
        tape = new ArrayList<>();
        faultSort = 0;
        faultPlace = -1;
        if (sort < 0 || sort > 2 || at < -1 || at >= count(sort) || at == -1 && count(sort) == 2) {
            return -2;
        }
        List<int[]> lines = new ArrayList<>();
        read(all.toString(), sort, lines);
        if (faultSort != 0) {
            return -1;
        }
        if (sort == 0) {
            int[] bar = DEFAULTS.clone();
            for (int[] line : lines) {
                bar[line[0]] = line[1];
            }
            return put(bars, at, bar);
        }
        return put(sort == 1 ? traffics : logs, at, lines);
    }

    private static <T> int put(List<T> list, int at, T what) {
        if (at == -1) {
            list.add(what);
            return list.size() - 1;
        }
        list.set(at, what);
        return at;
    }

    /** Each line's form: kind, then least and greatest of each number. */
    private static Map<String, int[]> forms(int sort) {
        Map<String, int[]> f = new HashMap<>();
        if (sort == 0) {
            f.put("ports", new int[] {0, 1, 6});
            f.put("rounds", new int[] {1, 1, 4});
            f.put("depth", new int[] {2, 1, 9});
            f.put("pointer", new int[] {3, 0, 5});
        } else if (sort == 1) {
            f.put("slot", new int[] {0});
            f.put("idle", new int[] {1, 1, 9});
            f.put("cell", new int[] {2, 0, 5, 0, 5});
            f.put("fan", new int[] {3, 0, 5, 1, 63});
            f.put("burst", new int[] {4, 0, 5, 1, 63});
        } else {
            f.put("match", new int[] {1, 0, 60, 0, 5, 0, 5});
            f.put("apart", new int[] {0, 0, 60, 0, 5, 0, 5});
        }
        return f;
    }

    private void read(String all, int sort, List<int[]> lines) {
        Matcher m = Pattern.compile("[\\n ]+|[a-z]+|[0-9]+|;|.", Pattern.DOTALL).matcher(all);
        List<String> tokens = new ArrayList<>();
        List<Integer> places = new ArrayList<>();
        while (m.find()) {
            if (!m.group().matches("[\\n ]+")) {
                tokens.add(m.group());
                places.add(m.start());
            }
        }
        tokens.add("");
        places.add(all.length());
        TreeMap<Integer, Integer> others = new TreeMap<>();
        int t = 0;
        while (!tokens.get(t).isEmpty()) {
            int[] form = forms(sort).get(tokens.get(t));
            if (form == null) {
                fail(1, places.get(t));
                return;
            }
            if (sort > 0 && lines.size() == (sort == 1 ? 40 : 8)) {
                others.putIfAbsent(places.get(t), 3);
            }
            t++;
            int[] line = {form[0], -1, -1, -1};
            for (int j = 1; j < form.length; j += 2) {
                if (!tokens.get(t).matches("[0-9]{1,2}")) {
                    fail(1, places.get(t));
                    return;
                }
                int v = Integer.parseInt(tokens.get(t));
                if (v < form[j] || v > form[j + 1]) {
                    others.putIfAbsent(places.get(t), 2);
                }
                line[(j + 1) / 2] = v;
                t++;
            }
            if (!tokens.get(t).equals(";")) {
                fail(1, places.get(t));
                return;
            }
            t++;
            lines.add(line);
        }
        if (!others.isEmpty()) {
            fail(others.firstEntry().getValue(), others.firstKey());
        }
    }

    private void fail(int sort, int place) {
        faultSort = sort;
        faultPlace = place;
    }

    int fault(int what) {
        return what == 0 ? faultSort : what == 1 ? faultPlace : -1;
    }

    int crossbar(int c, int what) {
        return in(c, bars) && what >= 0 && what < 4 ? bars.get(c)[what] : -1;
    }

    private static boolean in(int k, List<?> list) {
        return k >= 0 && k < list.size();
    }

    private static int line(List<List<int[]>> texts, int at, int k, int what, int most) {
        if (!in(at, texts) || what < 0 || what > most) {
            return -2;
        }
        if (k == -1) {
            return what == 0 ? texts.get(at).size() : -2;
        }
        return in(k, texts.get(at)) ? texts.get(at).get(k)[what] : -2;
    }

    int deed(int t, int k, int what) {
        return line(traffics, t, k, what, 2);
    }

    int fact(int l, int k, int what) {
        return line(logs, l, k, what, 3);
    }

    // ---- a run

    static final class Item {
        int number;
        int input;
        Set<Integer> outputs = new HashSet<>();
        Set<Integer> left = new HashSet<>();
        Set<Integer> sentIn = new HashSet<>();
        boolean fan;
        boolean lost;
        int could;
        int went = -1;
    }

    static final class Sim {
        int ports;
        int rounds;
        int depth;
        int[] grant;
        int[] accept;
        List<Item> items = new ArrayList<>();
        List<List<List<Item>>> cells = new ArrayList<>();
        List<List<Item>> fans = new ArrayList<>();
        Set<Integer> arrived = new HashSet<>();
        List<Integer> shutOrder = new ArrayList<>();
        List<int[]> matches = new ArrayList<>();
        List<int[]> taken = new ArrayList<>();

        Sim(int[] bar) {
            ports = bar[0];
            rounds = bar[1];
            depth = bar[2];
            grant = new int[ports];
            accept = new int[ports];
            Arrays.fill(grant, bar[3] % ports);
            Arrays.fill(accept, bar[3] % ports);
            for (int i = 0; i < ports; i++) {
                fans.add(new ArrayList<>());
                cells.add(new ArrayList<>());
                for (int o = 0; o < ports; o++) {
                    cells.get(i).add(new ArrayList<>());
                }
            }
        }

        static Set<Integer> set(int bits) {
            Set<Integer> s = new HashSet<>();
            for (int k = 0; k < 31; k++) {
                if ((bits & 1 << k) != 0) {
                    s.add(k);
                }
            }
            return s;
        }

        boolean act(int[] deed) {
            if (deed[0] < 2) {
                for (int s = deed[0] == 0 ? 1 : deed[1]; s > 0; s--) {
                    slot();
                }
                return true;
            }
            Set<Integer> outs = deed[0] == 2 ? Set.of(deed[2]) : set(deed[2]);
            if (deed[1] >= ports || arrived.contains(deed[1])) {
                return false;
            }
            for (int o : outs) {
                if (o >= ports) {
                    return false;
                }
            }
            arrived.add(deed[1]);
            if (deed[0] == 2) {
                come(deed[1], outs, false);
            } else if (deed[0] == 3) {
                come(deed[1], outs, true);
            } else {
                List<Integer> opened = new ArrayList<>();
                for (int o = 0; o < ports; o++) {
                    if (outs.contains(o)) {
                        opened.add(o);
                        if (come(deed[1], Set.of(o), false)) {
                            break;
                        }
                    }
                }
                for (int k = opened.size() - 1; k >= 0; k--) {
                    shutOrder.add(opened.get(k));
                }
            }
            return true;
        }

        boolean come(int i, Set<Integer> outs, boolean fan) {
            Item x = new Item();
            x.number = items.size();
            x.input = i;
            x.outputs.addAll(outs);
            x.left.addAll(outs);
            x.fan = fan;
            x.could = matches.size();
            items.add(x);
            List<Item> queue = fan ? fans.get(i) : cells.get(i).get(outs.iterator().next());
            x.lost = queue.size() == depth;
            if (!x.lost) {
                queue.add(x);
            }
            return x.lost;
        }

        void slot() {
            int now = matches.size();
            int[] took = new int[ports];
            Arrays.fill(took, -1);
            Set<Integer> busyIn = new HashSet<>();
            Set<Integer> busyOut = new HashSet<>();
            int served = 0;
            for (int s = 0; s < 1 << ports; s++) {
                int wants = 0;
                Set<Integer> union = new HashSet<>();
                boolean may = true;
                for (int i : set(s)) {
                    if (fans.get(i).isEmpty()) {
                        may = false;
                    } else {
                        wants += fans.get(i).get(0).left.size();
                        union.addAll(fans.get(i).get(0).left);
                    }
                }
                if (may && wants == union.size() && set(s).size() > set(served).size()) {
                    served = s;
                }
            }
            for (int i : set(served)) {
                for (int o : fans.get(i).get(0).left) {
                    took[o] = i;
                }
            }
            for (int o = 0; o < ports; o++) {
                for (int i = 0; i < ports && took[o] == -1; i++) {
                    if (!fans.get(i).isEmpty() && fans.get(i).get(0).left.contains(o)) {
                        took[o] = i;
                    }
                }
            }
            for (int o = 0; o < ports; o++) {
                if (took[o] != -1) {
                    Item head = fans.get(took[o]).get(0);
                    head.left.remove(o);
                    head.sentIn.add(now);
                    busyIn.add(took[o]);
                    busyOut.add(o);
                }
            }
            for (List<Item> row : fans) {
                if (!row.isEmpty() && row.get(0).left.isEmpty()) {
                    row.remove(0).went = now;
                }
            }
            int[] match = rounds(rounds, busyIn, busyOut);
            for (int o = 0; o < ports; o++) {
                if (match[o] != -1) {
                    cells.get(match[o]).get(o).remove(0).went = now;
                }
            }
            matches.add(match);
            taken.add(took);
            arrived.clear();
        }

        int[] rounds(int n, Set<Integer> busyIn, Set<Integer> busyOut) {
            int[] match = new int[ports];
            Arrays.fill(match, -1);
            for (int r = 0; r < n; r++) {
                Map<Integer, Set<Integer>> grants = new HashMap<>();
                for (int o = 0; o < ports; o++) {
                    for (int k = 0; k < ports; k++) {
                        int i = (grant[o] + k) % ports;
                        if (!busyOut.contains(o) && !busyIn.contains(i) && !cells.get(i).get(o).isEmpty()) {
                            grants.computeIfAbsent(i, z -> new HashSet<>()).add(o);
                            break;
                        }
                    }
                }
                for (int i : grants.keySet()) {
                    int o = accept[i];
                    while (!grants.get(i).contains(o)) {
                        o = (o + 1) % ports;
                    }
                    match[o] = i;
                    busyIn.add(i);
                    busyOut.add(o);
                    if (r == 0) {
                        grant[o] = (i + 1) % ports;
                        accept[i] = (o + 1) % ports;
                    }
                }
            }
            return match;
        }

        static int bits(Set<Integer> s) {
            int b = 0;
            for (int k : s) {
                b |= 1 << k;
            }
            return b;
        }

        int tell(int what) {
            if (what < 0) {
                return -2;
            }
            if (what < 10) {
                int lost = 0;
                int cellsWent = 0;
                int fansWent = 0;
                for (Item x : items) {
                    lost += x.lost ? 1 : 0;
                    cellsWent += x.went >= 0 && !x.fan ? 1 : 0;
                    fansWent += x.went >= 0 && x.fan ? 1 : 0;
                }
                int[] all = {matches.size(), items.size(), lost, cellsWent, fansWent, shutOrder.size()};
                return what < all.length ? all[what] : -2;
            }
            int p = what % 10;
            if (p >= ports) {
                return -2;
            }
            if (what >= 100) {
                int i = (what - 100) / 10;
                return i < ports ? cells.get(i).get(p).size() : -2;
            }
            int last = matches.size() - 1;
            switch (what / 10) {
                case 1: return accept[p];
                case 2: return grant[p];
                case 3: return fans.get(p).size();
                case 4: return fans.get(p).isEmpty() ? 0 : bits(fans.get(p).get(0).left);
                case 5: return shutOrder.lastIndexOf(p) + 1;
                case 6: return last < 0 ? -1 : matches.get(last)[p];
                case 7: return last < 0 ? -1 : taken.get(last)[p];
                default: return -2;
            }
        }
    }

    private Sim sim(int[] bar, int t, int n) {
        Sim s = new Sim(bar);
        List<int[]> deeds = traffics.get(t);
        for (int k = 0; k < n; k++) {
            if (k >= deeds.size() || !s.act(deeds.get(k))) {
                return null;
            }
        }
        return s;
    }

    private int stopOf(int[] bar, int t) {
        Sim s = new Sim(bar);
        int n = 0;
        for (int[] deed : traffics.get(t)) {
            if (!s.act(deed)) {
                return n;
            }
            n++;
        }
        return n;
    }

    private Sim whole(int c, int t) {
        return sim(bars.get(c), t, stopOf(bars.get(c), t));
    }

    private boolean both(int c, int t) {
        return in(c, bars) && in(t, traffics);
    }

    int stop(int c, int t) {
        return both(c, t) ? stopOf(bars.get(c), t) : -1;
    }

    int state(int c, int t, int n, int what) {
        if (!both(c, t) || n < 0 || n > 40) {
            return -2;
        }
        Sim s = sim(bars.get(c), t, n);
        return s == null ? -2 : s.tell(what);
    }

    int cell(int c, int t, int k, int what) {
        if (!both(c, t)) {
            return -2;
        }
        List<Item> items = whole(c, t).items;
        if (!in(k, items) || what < 0 || what > 5) {
            return -2;
        }
        Item x = items.get(k);
        return new int[] {x.input, Sim.bits(x.outputs), x.fan ? 1 : 0, x.could, x.went, x.lost ? 1 : 0}[what];
    }

    // ---- full load

    private List<int[]> fullMatches(int[] bar, int slots, List<String> pointers) {
        Sim s = new Sim(bar);
        for (List<List<Item>> row : s.cells) {
            for (List<Item> queue : row) {
                queue.add(new Item());
            }
        }
        List<int[]> all = new ArrayList<>();
        pointers.add(Arrays.toString(s.grant) + Arrays.toString(s.accept));
        for (int k = 0; k < slots; k++) {
            all.add(s.rounds(bar[1], new HashSet<>(), new HashSet<>()));
            pointers.add(Arrays.toString(s.grant) + Arrays.toString(s.accept));
        }
        return all;
    }

    int full(int c, int slot, int output) {
        if (!in(c, bars) || slot < 0 || slot > 99 || output < 0 || output >= bars.get(c)[0]) {
            return -1;
        }
        return fullMatches(bars.get(c), 100, new ArrayList<>()).get(slot)[output];
    }

    private static int matched(int[] match) {
        int n = 0;
        for (int i : match) {
            n += i != -1 ? 1 : 0;
        }
        return n;
    }

    int rhythm(int c, int what) {
        if (!in(c, bars) || what < 0 || what > 3) {
            return -2;
        }
        List<String> pointers = new ArrayList<>();
        List<int[]> matches = fullMatches(bars.get(c), 500, pointers);
        int t = 1;
        while (pointers.indexOf(pointers.get(t)) == t) {
            t++;
        }
        int before = pointers.indexOf(pointers.get(t));
        int sum = 0;
        for (int s = before; s < t; s++) {
            sum += matched(matches.get(s));
        }
        int step = 500;
        while (step > 0 && matched(matches.get(step - 1)) == bars.get(c)[0]) {
            step--;
        }
        return new int[] {t, t - before, sum, step > 250 ? -1 : step}[what];
    }

    // ---- judges

    private static void rows(Sim s, int i, int[] row, Set<Integer> used, List<int[]> all) {
        if (i == s.ports) {
            all.add(row.clone());
            return;
        }
        for (int o = 0; o <= 6; o++) {
            if (o == 6 || o < s.ports && !used.contains(o) && !s.cells.get(i).get(o).isEmpty()) {
                row[i] = o;
                used.add(o);
                rows(s, i + 1, row, used, all);
                used.remove(o);
            }
        }
    }

    int judge(int c, int t, int n, int what) {
        if (!both(c, t) || n < 0 || n > 40) {
            return -2;
        }
        Sim s = sim(bars.get(c), t, n);
        if (s == null || what < 0 || what > 4 && what < 10 || what >= 10 + s.ports) {
            return -2;
        }
        if (what == 2 || what == 3) {
            int[] match = s.rounds(s.rounds, new HashSet<>(), new HashSet<>());
            int sum = 0;
            for (int o = 0; o < s.ports; o++) {
                sum += match[o] == -1 ? 0 : s.cells.get(match[o]).get(o).size();
            }
            return what == 2 ? matched(match) : sum;
        }
        if (what == 4) {
            for (int r = 1; r <= 6; r++) {
                Sim fresh = sim(bars.get(c), t, n);
                Set<Integer> busyIn = new HashSet<>();
                Set<Integer> busyOut = new HashSet<>();
                fresh.rounds(r, busyIn, busyOut);
                boolean more = false;
                for (int i = 0; i < s.ports; i++) {
                    for (int o = 0; o < s.ports; o++) {
                        more |= !busyIn.contains(i) && !busyOut.contains(o) && !s.cells.get(i).get(o).isEmpty();
                    }
                }
                if (!more) {
                    return r;
                }
            }
            return -99;
        }
        List<int[]> all = new ArrayList<>();
        rows(s, 0, new int[s.ports], new HashSet<>(), all);
        int most = 0;
        int heavy = -1;
        int[] first = null;
        for (int[] row : all) {
            int pairs = 0;
            int sum = 0;
            for (int i = 0; i < s.ports; i++) {
                if (row[i] < 6) {
                    pairs++;
                    sum += s.cells.get(i).get(row[i]).size();
                }
            }
            most = Math.max(most, pairs);
            if (sum > heavy) {
                heavy = sum;
                first = row;
            }
        }
        return what == 0 ? most : what == 1 ? heavy : first[what - 10];
    }

    // ---- shadow

    static final class Ghost {
        int input;
        int output;
        int comes;
        int ideal = -1;
        int sent = -1;
    }

    int mimic(int c, int t, int k, int what) {
        if (!both(c, t) || what < 0 || what > 2) {
            return -1;
        }
        List<Ghost> all = new ArrayList<>();
        int now = 0;
        for (int[] deed : traffics.get(t).subList(0, stopOf(bars.get(c), t))) {
            if (deed[0] < 2) {
                now += deed[0] == 0 ? 1 : deed[1];
            } else if (deed[0] == 2) {
                Ghost g = new Ghost();
                g.input = deed[1];
                g.output = deed[2];
                g.comes = now;
                all.add(g);
            }
        }
        if (k != -1 && !in(k, all)) {
            return -1;
        }
        ideals(all, now + 100);
        if (what == 0) {
            return k == -1 ? all.size() : all.get(k).ideal;
        }
        pass(all, what, now + 200);
        int late = 0;
        for (Ghost g : all) {
            late += g.sent > g.ideal ? 1 : 0;
        }
        return k == -1 ? late : all.get(k).sent;
    }

    private static void ideals(List<Ghost> all, int slots) {
        for (int s = 0; s < slots; s++) {
            for (int o = 0; o < 6; o++) {
                Ghost first = null;
                for (Ghost g : all) {
                    if (g.output == o && g.comes <= s && g.ideal == -1
                            && (first == null || g.comes * 10 + g.input < first.comes * 10 + first.input)) {
                        first = g;
                    }
                }
                if (first != null) {
                    first.ideal = s;
                }
            }
        }
    }

    private static void pass(List<Ghost> all, int speed, int slots) {
        List<List<Ghost>> rows = new ArrayList<>();
        List<List<Ghost>> outs = new ArrayList<>();
        for (int p = 0; p < 6; p++) {
            rows.add(new ArrayList<>());
            outs.add(new ArrayList<>());
        }
        for (int s = 0; s < slots; s++) {
            for (Ghost g : all) {
                if (g.comes == s) {
                    int before = 0;
                    for (Ghost h : outs.get(g.output)) {
                        before += h.ideal < g.ideal ? 1 : 0;
                    }
                    List<Ghost> row = rows.get(g.input);
                    row.add(Math.min(before, row.size()), g);
                }
            }
            stable(rows, outs);
            for (List<Ghost> out : outs) {
                if (!out.isEmpty()) {
                    out.sort((a, b) -> a.ideal - b.ideal);
                    out.remove(0).sent = s;
                }
            }
            if (speed == 2) {
                stable(rows, outs);
            }
        }
    }

    /** Until all is still, the last OUTPUT first: a stable match does not hang on who asks when. */
    private static void stable(List<List<Ghost>> rows, List<List<Ghost>> outs) {
        Map<Integer, Ghost> kept = new HashMap<>();
        Set<Ghost> refused = new HashSet<>();
        boolean moved = true;
        while (moved) {
            moved = false;
            for (int o = 5; o >= 0; o--) {
                final int output = o;
                if (kept.values().stream().anyMatch(g -> g.output == output)) {
                    continue;
                }
                Ghost ask = null;
                for (List<Ghost> row : rows) {
                    for (Ghost g : row) {
                        if (g.output == o && !refused.contains(g) && (ask == null || g.ideal < ask.ideal)) {
                            ask = g;
                        }
                    }
                }
                if (ask == null) {
                    continue;
                }
                moved = true;
                Ghost was = kept.get(ask.input);
                List<Ghost> row = rows.get(ask.input);
                if (was == null || row.indexOf(ask) < row.indexOf(was)) {
                    kept.put(ask.input, ask);
                    if (was != null) {
                        refused.add(was);
                    }
                } else {
                    refused.add(ask);
                }
            }
        }
        for (Ghost g : kept.values()) {
            rows.get(g.input).remove(g);
            outs.get(g.output).add(g);
        }
    }

    // ---- flows and waits

    private static Map<Integer, Integer> flows(Sim s) {
        Map<Integer, Integer> flows = new LinkedHashMap<>();
        for (int[] match : s.matches) {
            for (int o = 0; o < s.ports; o++) {
                if (match[o] != -1) {
                    flows.merge(10 * match[o] + o, 1, Integer::sum);
                }
            }
        }
        return flows;
    }

    int flow(int c, int t, int k, int what) {
        if (!both(c, t)) {
            return -1;
        }
        Sim s = whole(c, t);
        List<Integer> order = new ArrayList<>(flows(s).keySet());
        if (k == -1) {
            return what == 0 ? order.size() : -1;
        }
        if (!in(k, order) || what < 0 || what > 2) {
            return -1;
        }
        int f = order.get(k);
        return new int[] {f, flows(s).get(f), s.cells.get(f / 10).get(f % 10).size()}[what];
    }

    int after(int c, int t, int what) {
        if (!both(c, t)) {
            return -2;
        }
        Sim s = whole(c, t);
        if (what >= 10 && what < 10 + s.ports) {
            List<Integer> inputs = new ArrayList<>();
            for (int[] match : s.matches) {
                if (match[what - 10] != -1) {
                    inputs.add(match[what - 10]);
                }
            }
            int turns = 0;
            for (int k = 1; k < inputs.size(); k++) {
                turns += inputs.get(k).equals(inputs.get(k - 1)) ? 0 : 1;
            }
            return turns;
        }
        int longest = 0;
        int sum = 0;
        int worst = -1;
        int splits = 0;
        for (Item x : s.items) {
            splits += x.sentIn.size() > 1 ? 1 : 0;
            if (x.went >= 0) {
                int wait = x.went - x.could;
                sum += wait;
                if (worst == -1 || wait > longest) {
                    worst = x.number;
                    longest = wait;
                }
            }
        }
        int idle = 0;
        int best = -1;
        int most = -1;
        int meets = 0;
        for (int k = 0; k < s.matches.size(); k++) {
            int n = matched(s.matches.get(k)) + matched(s.taken.get(k));
            idle += n == 0 ? 1 : 0;
            if (n > most) {
                most = n;
                best = k;
            }
            for (int j = 0; j < k; j++) {
                meets += matched(s.matches.get(k)) > 0 && Arrays.equals(s.matches.get(k), s.matches.get(j)) ? 1 : 0;
            }
        }
        int fair = -1;
        for (Map.Entry<Integer, Integer> f : flows(s).entrySet()) {
            if (fair == -1 || f.getValue() < flows(s).get(fair)) {
                fair = f.getKey();
            }
        }
        int starved = 0;
        int same = 0;
        for (int i = 0; i < s.ports; i++) {
            starved |= starves(s, i) ? 1 << i : 0;
            for (int j = 0; j < i; j++) {
                boolean alike = true;
                for (int o = 0; o < s.ports; o++) {
                    alike &= s.cells.get(i).get(o).size() == s.cells.get(j).get(o).size();
                }
                same += alike ? 1 : 0;
            }
        }
        int[] all = {longest, sum, worst, splits, idle, best, fair, meets, starved, same};
        return what >= 0 && what < 10 ? all[what] : -2;
    }

    private static boolean starves(Sim s, int i) {
        int has = s.fans.get(i).size();
        for (List<Item> queue : s.cells.get(i)) {
            has += queue.size();
        }
        int n = s.matches.size();
        if (has == 0 || n < s.ports) {
            return false;
        }
        for (int k = n - s.ports; k < n; k++) {
            for (int o = 0; o < s.ports; o++) {
                if (s.matches.get(k)[o] == i || s.taken.get(k)[o] == i) {
                    return false;
                }
            }
        }
        return true;
    }

    // ---- logs

    int fits(int c, int t, int l, int what) {
        if (!both(c, t) || !in(l, logs)) {
            return -2;
        }
        List<Integer> fit = new ArrayList<>();
        List<List<int[]>> pasts = new ArrayList<>();
        int ports = bars.get(c)[0];
        for (int r = 1; r <= 4; r++) {
            for (int p = 0; p < ports; p++) {
                int[] bar = {ports, r, bars.get(c)[2], p};
                List<int[]> past = sim(bar, t, stopOf(bar, t)).matches;
                boolean so = true;
                for (int[] f : logs.get(l)) {
                    boolean was = f[1] < past.size() && f[3] < ports && past.get(f[1])[f[3]] == f[2];
                    so &= was == (f[0] == 1);
                }
                if (so) {
                    fit.add(10 * r + p);
                    pasts.add(past);
                }
            }
        }
        if (what >= 10 && what < 10 + fit.size()) {
            return fit.get(what - 10);
        }
        Set<Integer> rounds = new HashSet<>();
        Set<Integer> pointers = new HashSet<>();
        for (int f : fit) {
            rounds.add(f / 10);
            pointers.add(f % 10);
        }
        switch (what) {
            case 0: return fit.size();
            case 1: return rounds.size() == 1 ? rounds.iterator().next() : -1;
            case 2: return pointers.size() == 1 ? pointers.iterator().next() : -1;
            case 3: return ask(pasts, ports);
            default: return -2;
        }
    }

    private static int ask(List<List<int[]>> pasts, int ports) {
        int best = -1;
        int least = 100;
        for (int s = 0; !pasts.isEmpty() && s < pasts.get(0).size(); s++) {
            for (int o = 0; o < ports; o++) {
                Map<Integer, Integer> answers = new HashMap<>();
                int most = 0;
                for (List<int[]> past : pasts) {
                    most = Math.max(most, answers.merge(past.get(s)[o], 1, Integer::sum));
                }
                if (most < least) {
                    least = most;
                    best = 10 * s + o;
                }
            }
        }
        return best;
    }

    // ---- drawn

    private long x;

    private int below(int n) {
        x = (x * 1103515245L + 12345L) & 0xffffffffL;
        return (int) ((x >> 16) % n);
    }

    int drawn(int c, int seed, int n, int what) {
        if (!in(c, bars) || n < 0 || n > 60) {
            return -2;
        }
        Sim s = new Sim(bars.get(c));
        x = seed & 0xffffffffL;
        for (int k = 0; k < n; k++) {
            int kind = below(8);
            if (kind > 5) {
                s.act(new int[] {0, -1, -1});
            } else {
                int i = below(s.ports);
                int second = kind < 4 ? below(s.ports) : 1 + below((1 << s.ports) - 1);
                s.act(new int[] {kind < 4 ? 2 : kind - 1, i, second});
            }
        }
        return s.tell(what);
    }

    // ---- images

    private static void copy(Model from, Model to) {
        to.bars = new ArrayList<>(from.bars);
        to.traffics = new ArrayList<>(from.traffics);
        to.logs = new ArrayList<>(from.logs);
        to.tape = new ArrayList<>(from.tape);
        to.faultSort = from.faultSort;
        to.faultPlace = from.faultPlace;
    }

    boolean image(int k) {
        if (k < 0 || k > 2) {
            return false;
        }
        images[k] = new Model();
        copy(this, images[k]);
        return true;
    }

    boolean again(int k) {
        if (k < 0 || k > 2 || images[k] == null) {
            return false;
        }
        copy(images[k], this);
        return true;
    }
}
