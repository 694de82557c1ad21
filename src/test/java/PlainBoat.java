import java.util.ArrayList;
import java.util.Arrays;
import java.util.List;
import java.util.NoSuchElementException;

/**
 * The document told once more in the plainest way: every search tries all there is. ModelTest holds the class
 * against it.
 */
final class PlainBoat {
    static final int NONE = -1;

    static final class Load {
        int kind;
        int x;
        int y;
        int most;
        int has;
        int eaten;
        int percent;
        int waste = NONE;
    }

    static final class Kept {
        int[] has;
        int air;
        int day;
        int r;
    }

    final List<Load> loads = new ArrayList<>();
    final List<int[]> layers = new ArrayList<>();
    final List<int[]> pumps = new ArrayList<>();
    final List<String> tellings = new ArrayList<>();
    final List<int[]> gauges = new ArrayList<>();
    final Kept[] kept = new Kept[3];
    final int[] slack = {5, 200, 50};
    int baseWeight;
    int baseMoment;
    int baseList;
    int volume = 1000;
    int squeeze;
    String text = "";
    String book = "";
    int air;
    int day;
    int r = 1;
    List<Integer> row = new ArrayList<>();

    private static boolean in(long v, long a, long b) {
        return v >= a && v <= b;
    }

    private static boolean depthOk(int d) {
        return in(d, 0, 600);
    }

    private boolean is(int i, int kind) {
        return in(i, 0, loads.size() - 1) && loads.get(i).kind == kind;
    }

    private void tell(int... numbers) {
        row = new ArrayList<>();
        for (int v : numbers) {
            row.add(v);
        }
    }

    private int[] hasNow() {
        int[] has = new int[loads.size()];
        for (int i = 0; i < has.length; i++) {
            has[i] = loads.get(i).has;
        }
        return has;
    }

    private void setHas(int[] has) {
        for (int i = 0; i < has.length; i++) {
            loads.get(i).has = has[i];
        }
    }

    int load(int kind, int x, int y, int most, int has) {
        if (!in(kind, 0, 3) || !in(x, -99, 99) || !in(y, -9, 9) || !in(most, 0, 999) || !in(has, 0, most)
                || loads.size() == 15) {
            return NONE;
        }
        Load l = new Load();
        l.kind = kind;
        l.x = x;
        l.y = y;
        l.most = most;
        l.has = has;
        loads.add(l);
        return loads.size() - 1;
    }

    int fill(int load, int v) {
        if (!in(load, 0, loads.size() - 1) || !in(v, 0, loads.get(load).most)) {
            return NONE;
        }
        int had = loads.get(load).has;
        loads.get(load).has = v;
        return had;
    }

    int sheet(int kind, int n, int f, int step) {
        if (!in(kind, 0, 3) || n > 15) {
            return NONE;
        }
        if (kind == 3) {
            for (Load l : loads) {
                if (l.kind == 0) {
                    l.has = 0;
                }
            }
            return -3;
        }
        if (n < 0) {
            return -2;
        }
        int told = 0;
        int entry = f;
        for (int i = 0; i < n; i++) {
            if (i < loads.size()) {
                int v = kind == 0 ? (byte) entry : kind == 1 ? (short) entry : entry;
                loads.get(i).has = Math.max(0, Math.min(loads.get(i).most, v));
                told++;
            }
            entry += step;
        }
        return told;
    }

    boolean base(int weight, int moment, int list) {
        if (!in(weight, 0, 99999) || !in(moment, -999999, 999999) || !in(list, -99999, 99999)) {
            return false;
        }
        baseWeight = weight;
        baseMoment = moment;
        baseList = list;
        return true;
    }

    boolean hull(int v, int s) {
        if (!in(v, 1, 99999) || !in(s, 0, 99)) {
            return false;
        }
        volume = v;
        squeeze = s;
        return true;
    }

    int layer(int depth, int density) {
        if (!depthOk(depth) || !in(density, 900, 1100) || layers.size() == 6) {
            return NONE;
        }
        if (!layers.isEmpty() && layers.get(layers.size() - 1)[0] >= depth) {
            return NONE;
        }
        layers.add(new int[] {depth, density});
        return layers.size();
    }

    int mix() {
        int n = layers.size();
        layers.clear();
        return n;
    }

    int slack(int what, int v) {
        if (!in(what, 0, 2) || !in(v, 0, what == 0 ? 50 : 9999)) {
            return NONE;
        }
        int was = slack[what];
        slack[what] = v;
        return was;
    }

    int of(int load, int what) {
        if (!in(load, 0, loads.size() - 1) || !in(what, 0, 4)) {
            throw new NoSuchElementException();
        }
        Load l = loads.get(load);
        return new int[] {l.kind, l.x, l.y, l.most, l.has}[what];
    }

    private int density(int d) {
        int density = 1000;
        for (int[] layer : layers) {
            if (layer[0] <= d) {
                density = layer[1];
            }
        }
        return density;
    }

    private int weight() {
        int w = baseWeight;
        for (Load l : loads) {
            w += l.has;
        }
        return w;
    }

    private int heavyAt(int d) {
        return weight() - (volume - squeeze * d / 10) * density(d) / 1000;
    }

    private int momentNow() {
        int m = baseMoment;
        for (Load l : loads) {
            m += l.x * l.has;
        }
        return m;
    }

    private int listNow() {
        int m = baseList;
        for (Load l : loads) {
            m += l.y * l.has;
        }
        return m;
    }

    private boolean isBalanced(int d) {
        return Math.abs(heavyAt(d)) <= slack[0] && Math.abs(momentNow()) <= slack[1]
                && Math.abs(listNow()) <= slack[2];
    }

    int heavy(int depth) {
        if (!depthOk(depth)) {
            throw new NoSuchElementException();
        }
        return heavyAt(depth);
    }

    int moment(int what) {
        if (!in(what, 0, 1)) {
            throw new NoSuchElementException();
        }
        return what == 0 ? momentNow() : listNow();
    }

    int balanced(int depth) {
        return !depthOk(depth) ? NONE : isBalanced(depth) ? 1 : 0;
    }

    int lies(int from, int to) {
        if (!depthOk(from) || !depthOk(to) || to < from) {
            return NONE;
        }
        for (int d = from; d <= to; d++) {
            if (heavyAt(d) <= 0) {
                return d;
            }
        }
        return -2;
    }

    int hover(int from, int to) {
        if (!depthOk(from) || !depthOk(to) || to < from) {
            return NONE;
        }
        List<Integer> at = new ArrayList<>();
        for (int d = from; d <= to; d++) {
            if (isBalanced(d)) {
                at.add(d);
            }
        }
        if (at.isEmpty()) {
            tell();
        } else {
            tell(at.get(0), at.get(at.size() - 1));
        }
        return at.size();
    }

    int sign(int v) {
        if (text.length() > 76) {
            return NONE;
        }
        text += "" + (char) (v >>> 24 & 255) + (char) (v >>> 16 & 255) + (char) (v >>> 8 & 255) + (char) (v & 255);
        return text.length();
    }

    boolean end(int n) {
        if (n < 0 || n > text.length()) {
            return false;
        }
        text = text.substring(0, n);
        return true;
    }

    private static boolean digit(String s, int p) {
        return p < s.length() && s.charAt(p) >= '0' && s.charAt(p) <= '9';
    }

    /** Where a book's text goes wrong, by what may come next instead of by the grammar's rules; NONE if nowhere. */
    static int bookFault(String all) {
        String s = all.length() > 60 ? all.substring(0, 60) : all;
        if (all.isEmpty()) {
            return NONE;
        }
        // 0: a load, 1: =, 2: a thing, 3: behind a thing
        int state = 0;
        int open = 0;
        int p = 0;
        while (p < s.length()) {
            char c = s.charAt(p);
            if (state == 0) {
                if (!digit(s, p)) {
                    return p;
                }
                int len = digit(s, p + 1) ? 2 : 1;
                if (Integer.parseInt(s.substring(p, p + len)) > 15) {
                    return p + len - 1;
                }
                p += len;
                state = 1;
            } else if (state == 1) {
                if (c != '=') {
                    return p;
                }
                p++;
                state = 2;
            } else if (state == 2) {
                if (c == '-') {
                    p++;
                } else if (c == '(' && open < 4) {
                    open++;
                    p++;
                } else if (digit(s, p)) {
                    for (int k = 0; k < 4 && digit(s, p); k++) {
                        p++;
                    }
                    state = 3;
                } else if ("hmldw".indexOf(c) >= 0) {
                    p++;
                    state = 3;
                } else if (c == 'n') {
                    p++;
                    if (!digit(s, p)) {
                        return p;
                    }
                    int len = digit(s, p + 1) ? 2 : 1;
                    if (Integer.parseInt(s.substring(p, p + len)) > 15) {
                        return p + len - 1;
                    }
                    p += len;
                    state = 3;
                } else {
                    return p;
                }
            } else {
                if (c == '+' || c == '-' || c == '*') {
                    state = 2;
                } else if (c == ')' && open > 0) {
                    open--;
                } else if (c == ';' && open == 0) {
                    state = 0;
                } else {
                    return p;
                }
                p++;
            }
        }
        if (state != 3 || open > 0) {
            return s.length();
        }
        return all.length() > 60 ? 60 : NONE;
    }

    private String[] lines() {
        return book.isEmpty() ? new String[0] : book.split(";");
    }

    int book() {
        String s = text;
        text = "";
        int fault = bookFault(s);
        if (fault != NONE) {
            return -1 - fault;
        }
        book = s;
        return lines().length;
    }

    /** The value of an expression, by its last operator outside of ( ). */
    private int value(String e) {
        int open = 0;
        int lastPlus = -1;
        int lastTimes = -1;
        for (int p = 0; p < e.length(); p++) {
            char c = e.charAt(p);
            open += c == '(' ? 1 : c == ')' ? -1 : 0;
            boolean behindThing = p > 0 && "+-*(".indexOf(e.charAt(p - 1)) < 0;
            if (open == 0 && behindThing && (c == '+' || c == '-')) {
                lastPlus = p;
            }
            if (open == 0 && c == '*') {
                lastTimes = p;
            }
        }
        if (lastPlus >= 0) {
            int a = value(e.substring(0, lastPlus));
            int b = value(e.substring(lastPlus + 1));
            return e.charAt(lastPlus) == '+' ? a + b : a - b;
        }
        if (lastTimes >= 0) {
            return value(e.substring(0, lastTimes)) * value(e.substring(lastTimes + 1));
        }
        switch (e.charAt(0)) {
            case '-':
                return -value(e.substring(1));
            case '(':
                return value(e.substring(1, e.length() - 1));
            case 'h':
                return heavyAt(0);
            case 'm':
                return momentNow();
            case 'l':
                return listNow();
            case 'd':
                return day;
            case 'w':
                return density(0);
            case 'n':
                int load = Integer.parseInt(e.substring(1));
                return load < loads.size() ? loads.get(load).has : 0;
            default:
                return Integer.parseInt(e);
        }
    }

    private int lineValue(String line) {
        return value(line.substring(line.indexOf('=') + 1));
    }

    int line(int i) {
        if (!in(i, 0, lines().length - 1)) {
            throw new NoSuchElementException();
        }
        return lineValue(lines()[i]);
    }

    private List<Integer> doMorning() {
        List<Integer> told = new ArrayList<>();
        int came = 0;
        int went = 0;
        for (String line : lines()) {
            int load = Integer.parseInt(line.substring(0, line.indexOf('=')));
            if (!is(load, 0)) {
                told.add(NONE);
                continue;
            }
            Load l = loads.get(load);
            int had = l.has;
            l.has = Math.max(0, Math.min(l.most, lineValue(line)));
            told.add(had);
            if (l.has > had) {
                came += l.has - had;
            } else {
                went += had - l.has;
            }
        }
        told.add(came);
        told.add(went);
        return told;
    }

    int morning() {
        row = doMorning();
        int done = 0;
        for (int i = 0; i < row.size() - 2; i++) {
            done += row.get(i) == NONE ? 0 : 1;
        }
        return done;
    }

    int holds(int depth) {
        if (!depthOk(depth)) {
            return NONE;
        }
        int[] has = hasNow();
        int today = day;
        int answer = -2;
        for (int k = 0; k <= 400; k++) {
            doMorning();
            if (!isBalanced(depth)) {
                tell(heavyAt(depth), momentNow(), listNow());
                answer = k;
                break;
            }
            oneDay();
        }
        setHas(has);
        day = today;
        return answer;
    }

    int liar(int depth, int heavy, int moment, int list) {
        if (!depthOk(depth)) {
            return NONE;
        }
        int bits = 0;
        int[] told = new int[loads.size()];
        for (int i = 0; i < loads.size(); i++) {
            Load l = loads.get(i);
            int had = l.has;
            told[i] = NONE;
            for (l.has = 0; l.has <= l.most; l.has++) {
                if (heavyAt(depth) == heavy && momentNow() == moment && listNow() == list) {
                    told[i] = l.has;
                    bits |= 1 << i;
                }
            }
            l.has = had;
        }
        tell(told);
        return bits;
    }

    int two(int depth, int heavy, int moment, int list) {
        if (!depthOk(depth)) {
            return NONE;
        }
        int pairs = 0;
        tell();
        int h = heavyAt(depth);
        int m = momentNow();
        int s = listNow();
        for (int i = 0; i < loads.size(); i++) {
            for (int k = i + 1; k < loads.size(); k++) {
                Load a = loads.get(i);
                Load b = loads.get(k);
                for (int va = 0; va <= a.most; va++) {
                    long da = va - a.has;
                    long db = (long) heavy - h - da;
                    long vb = b.has + db;
                    if (da != 0 && db != 0 && in(vb, 0, b.most) && m + a.x * da + b.x * db == moment
                            && s + a.y * da + b.y * db == list) {
                        pairs++;
                        if (pairs == 1) {
                            tell(i, k, va, (int) vb);
                        }
                        break;
                    }
                }
            }
        }
        return pairs;
    }

    int pump(int from, int to, int rate, boolean quiet) {
        if (from != NONE && !is(from, 0) || to != NONE && !is(to, 0) || from == to || !in(rate, 1, 50)
                || pumps.size() == 6) {
            return NONE;
        }
        pumps.add(new int[] {from, to, rate, quiet ? 1 : 0});
        return pumps.size() - 1;
    }

    /** Runs a pump if it can. */
    private boolean runs(int pump, int n) {
        int[] p = pumps.get(pump);
        int from = n > 0 ? p[0] : p[1];
        int to = n > 0 ? p[1] : p[0];
        int much = Math.abs(n) * p[2];
        if (from != NONE && loads.get(from).has < much) {
            return false;
        }
        if (to != NONE && loads.get(to).most - loads.get(to).has < much) {
            return false;
        }
        if (from != NONE) {
            loads.get(from).has -= much;
        }
        if (to != NONE) {
            loads.get(to).has += much;
        }
        return true;
    }

    int run(int pump, int n) {
        if (!in(pump, 0, pumps.size() - 1) || n == 0 || !in(n, -99, 99)) {
            return NONE;
        }
        return runs(pump, n) ? Math.abs(n) * pumps.get(pump)[2] : -2;
    }

    int best(int pump, int depth) {
        if (!in(pump, 0, pumps.size() - 1) || !depthOk(depth)) {
            return NONE;
        }
        List<int[]> all = new ArrayList<>();
        for (int n = -99; n <= 99; n++) {
            if (n == 0 || runs(pump, n)) {
                all.add(new int[] {n, heavyAt(depth), momentNow()});
                if (n != 0) {
                    runs(pump, -n);
                }
            }
        }
        all.sort((a, b) -> {
            int c = Integer.compare(Math.abs(a[1]), Math.abs(b[1]));
            c = c != 0 ? c : Integer.compare(Math.abs(a[2]), Math.abs(b[2]));
            c = c != 0 ? c : Integer.compare(Math.abs(a[0]), Math.abs(b[0]));
            return c != 0 ? c : Integer.compare(a[0], b[0]);
        });
        tell(all.get(0));
        return 0;
    }

    int trim(int depth, boolean quiet) {
        if (!depthOk(depth)) {
            return NONE;
        }
        if (isBalanced(depth)) {
            tell();
            return 0;
        }
        int[] best = null;
        int fewest = 1000;
        for (int p = 0; p < pumps.size(); p++) {
            for (int m = -99; m <= 99; m++) {
                if (m == 0 || quiet && pumps.get(p)[3] == 0 || !runs(p, m)) {
                    continue;
                }
                if (isBalanced(depth)) {
                    int[] one = {p, m};
                    if (Math.abs(m) < fewest || Math.abs(m) == fewest && Arrays.compare(one, best) < 0) {
                        best = one;
                        fewest = Math.abs(m);
                    }
                }
                for (int q = 0; q < pumps.size(); q++) {
                    for (int k = -99; k <= 99; k++) {
                        int all = Math.abs(m) + Math.abs(k);
                        if (q == p || k == 0 || all > fewest || quiet && pumps.get(q)[3] == 0 || !runs(q, k)) {
                            continue;
                        }
                        int[] both = {p, m, q, k};
                        if (isBalanced(depth) && (all < fewest || Arrays.compare(both, best) < 0)) {
                            best = both;
                            fewest = all;
                        }
                        runs(q, -k);
                    }
                }
                runs(p, -m);
            }
        }
        if (best == null) {
            return -2;
        }
        tell(best);
        return fewest;
    }

    private int momentFilled(int sum, boolean aftFirst) {
        List<Load> tanks = new ArrayList<>();
        int moment = baseMoment;
        for (Load l : loads) {
            if (l.kind == 0) {
                tanks.add(l);
            } else {
                moment += l.x * l.has;
            }
        }
        tanks.sort((a, b) -> aftFirst ? a.x - b.x : b.x - a.x);
        int left = sum;
        for (Load l : tanks) {
            int in = Math.min(left, l.most);
            left -= in;
            moment += in * l.x;
        }
        return moment;
    }

    private int[] sums(int depth) {
        int tanksMost = 0;
        int tanksHave = 0;
        for (Load l : loads) {
            tanksMost += l.kind == 0 ? l.most : 0;
            tanksHave += l.kind == 0 ? l.has : 0;
        }
        int rest = heavyAt(depth) - tanksHave;
        int least = NONE;
        int greatest = NONE;
        for (int s = 0; s <= tanksMost; s++) {
            if (Math.abs(rest + s) <= slack[0] && momentFilled(s, true) <= slack[1]
                    && momentFilled(s, false) >= -slack[1]) {
                least = least == NONE ? s : least;
                greatest = s;
            }
        }
        return least == NONE ? null : new int[] {least, greatest};
    }

    int reach(int depth) {
        if (!depthOk(depth)) {
            return NONE;
        }
        int[] sums = sums(depth);
        if (sums == null) {
            tell();
            return 0;
        }
        tell(sums);
        return 1;
    }

    int shot(int load, int n, int late, int rate, int tank) {
        if (!is(load, 3) || !is(tank, 0) || !in(n, 1, loads.get(load).has) || !in(late, 0, 60) || !in(rate, 1, 99)) {
            return NONE;
        }
        Load from = loads.get(load);
        Load to = loads.get(tank);
        if (to.most - to.has < n) {
            return -2;
        }
        int ahead = momentNow();
        int missing = 0;
        int moments = 0;
        from.has -= n;
        int left = n;
        int second = 0;
        while (left > 0) {
            missing += left;
            moments += momentNow() - ahead;
            second++;
            if (second > late) {
                int comes = Math.min(left, rate);
                to.has += comes;
                left -= comes;
            }
        }
        tell(missing, moments);
        return second;
    }

    /** Depth in tenths and speed behind each second 0 .. n. */
    private List<int[]> seconds(int depth, int n) {
        List<int[]> all = new ArrayList<>();
        int at = depth * 10;
        int speed = 0;
        all.add(new int[] {at, speed});
        for (int i = 0; i < n; i++) {
            speed += heavyAt(at / 10) / 20;
            speed += momentNow() / 2000;
            speed = Math.max(-30, Math.min(30, speed));
            at += speed;
            if (at < 0) {
                at = 0;
                speed = 0;
            } else if (at > 6000) {
                at = 6000;
                speed = 0;
            }
            all.add(new int[] {at, speed});
        }
        return all;
    }

    private int firstAt(List<int[]> seconds, int target) {
        for (int i = 0; i < seconds.size(); i++) {
            if (seconds.get(i)[0] >= target * 10) {
                return i;
            }
        }
        return NONE;
    }

    int dive(int depth, int target, int n) {
        if (!depthOk(depth) || !depthOk(target) || !in(n, 0, 600)) {
            return NONE;
        }
        List<int[]> s = seconds(depth, n);
        tell(s.get(n)[1], firstAt(s, target));
        return s.get(n)[0];
    }

    int forward(int from, int to, int depth, int target, int n) {
        if (!is(from, 2) || !is(to, 2) || from == to || !depthOk(depth) || !depthOk(target) || !in(n, 0, 600)) {
            return NONE;
        }
        int[] has = hasNow();
        int answer = -2;
        for (int men = 0; men <= Math.min(has[from], loads.get(to).most - has[to]) && answer == -2; men++) {
            loads.get(from).has = has[from] - men;
            loads.get(to).has = has[to] + men;
            int second = firstAt(seconds(depth, n), target);
            if (second != NONE) {
                tell(second);
                answer = men;
            }
        }
        setHas(has);
        return answer;
    }

    boolean carry(int from, int to, int n) {
        if (!in(from, 0, loads.size() - 1) || !in(to, 0, loads.size() - 1) || from == to) {
            return false;
        }
        Load a = loads.get(from);
        Load b = loads.get(to);
        if (a.kind != b.kind || a.kind != 1 && a.kind != 2 || !in(n, 1, a.has) || b.most - b.has < n) {
            return false;
        }
        a.has -= n;
        b.has += n;
        return true;
    }

    /** Where a telling's text goes wrong, by what may come next; NONE if nowhere. */
    int tellingFault(String all) {
        String s = all.length() > 30 ? all.substring(0, 30) : all;
        if (all.isEmpty()) {
            return NONE;
        }
        int p = 0;
        while (true) {
            if (p >= s.length() || "lvb".indexOf(s.charAt(p)) < 0) {
                return p;
            }
            char kind = s.charAt(p);
            p++;
            int[] two = {-1, -2};
            for (int k = 0; k < (kind == 'v' ? 2 : 1); k++) {
                if (!digit(s, p)) {
                    return p;
                }
                int len = digit(s, p + 1) ? 2 : 1;
                two[k] = Integer.parseInt(s.substring(p, p + len));
                if (two[k] >= loads.size() || two[0] == two[1]) {
                    return p + len - 1;
                }
                p += len;
                char behind = kind == 'v' && k == 0 ? '-' : ',';
                if (p >= s.length() || s.charAt(p) != behind) {
                    return p;
                }
                p++;
            }
            if (kind == 'b' && p < s.length() && s.charAt(p) == '-') {
                p++;
            }
            if (!digit(s, p)) {
                return p;
            }
            for (int k = 0; k < 3 && digit(s, p); k++) {
                p++;
            }
            if (p == s.length()) {
                return all.length() > 30 ? 30 : NONE;
            }
            if (s.charAt(p) != ';') {
                return p;
            }
            p++;
        }
    }

    int telling() {
        String s = text;
        text = "";
        if (tellings.size() == 6) {
            return -100;
        }
        int fault = tellingFault(s);
        if (fault != NONE) {
            return -1 - fault;
        }
        tellings.add(s);
        return tellings.size() - 1;
    }

    int gauge(int hour, int depth, int what, int number) {
        if (!in(hour, 0, 200) || !depthOk(depth) || !in(what, 0, 2) || !in(number, -999999, 999999)
                || gauges.size() == 12) {
            return NONE;
        }
        gauges.add(new int[] {hour, depth, what, number});
        return gauges.size();
    }

    private int told(int telling, int hour, int depth, int what) {
        int[] has = hasNow();
        for (String term : tellings.get(telling).split(";")) {
            if (term.isEmpty()) {
                continue;
            }
            String[] parts = term.substring(1).split(",");
            int number = Integer.parseInt(parts[1]);
            if (term.charAt(0) == 'l') {
                loads.get(Integer.parseInt(parts[0])).has += number * hour;
            } else if (term.charAt(0) == 'b') {
                loads.get(Integer.parseInt(parts[0])).has += number;
            } else {
                String[] ends = parts[0].split("-");
                loads.get(Integer.parseInt(ends[0])).has -= number * hour;
                loads.get(Integer.parseInt(ends[1])).has += number * hour;
            }
        }
        int v = what == 0 ? heavyAt(depth) : what == 1 ? momentNow() : listNow();
        setHas(has);
        return v;
    }

    int tells(int telling, int hour, int depth, int what) {
        if (!in(telling, 0, tellings.size() - 1) || !in(hour, 0, 200) || !depthOk(depth) || !in(what, 0, 2)) {
            throw new NoSuchElementException();
        }
        return told(telling, hour, depth, what);
    }

    int fits(int within) {
        if (!in(within, 0, 99)) {
            return NONE;
        }
        int bits = 0;
        tell();
        for (int t = 0; t < tellings.size(); t++) {
            int sum = 0;
            boolean fit = true;
            for (int[] g : gauges) {
                int far = Math.abs(told(t, g[0], g[1], g[2]) - g[3]);
                sum += far;
                fit &= far <= within;
            }
            row.add(sum);
            bits |= fit ? 1 << t : 0;
        }
        return bits;
    }

    int look(int within, int depth) {
        if (!in(within, 0, 99) || !depthOk(depth)) {
            return NONE;
        }
        List<Integer> before = row;
        int bits = fits(within);
        row = before;
        if (Integer.bitCount(bits) < 2) {
            return -2;
        }
        int fewest = 100;
        for (int hour = 0; hour <= 24; hour++) {
            for (int what = 0; what <= 2; what++) {
                int most = 0;
                for (int a = 0; a < tellings.size(); a++) {
                    int n = 0;
                    for (int b = 0; b < tellings.size(); b++) {
                        if ((bits >> a & 1) == 1 && (bits >> b & 1) == 1
                                && Math.abs(told(a, hour, depth, what) - told(b, hour, depth, what)) <= within) {
                            n++;
                        }
                    }
                    most = Math.max(most, n);
                }
                if (most < fewest) {
                    fewest = most;
                    tell(hour, what);
                }
            }
        }
        return fewest;
    }

    int air(int v) {
        if (!in(v, 0, 99999)) {
            return NONE;
        }
        int was = air;
        air = v;
        return was;
    }

    private static int cost(int much, int depth) {
        int all = much * (depth + 10);
        return all % 10 == 0 ? all / 10 : all / 10 + 1;
    }

    int blow(int tank, int depth) {
        if (!is(tank, 0) || !depthOk(depth)) {
            return NONE;
        }
        int cost = cost(loads.get(tank).has, depth);
        if (cost > air) {
            return -2;
        }
        air -= cost;
        loads.get(tank).has = 0;
        return air;
    }

    private boolean allTanks(int bits) {
        for (int i = 0; i < 32; i++) {
            if ((bits >>> i & 1) == 1 && !is(i, 0)) {
                return false;
            }
        }
        return bits != 0;
    }

    int rise(int tanks, int depth) {
        if (!allTanks(tanks) || Integer.bitCount(tanks) > 8 || !depthOk(depth)) {
            return NONE;
        }
        int[] best = null;
        for (int bits = 0; bits < 1 << 15; bits++) {
            if ((bits & ~tanks) != 0) {
                continue;
            }
            int cost = 0;
            int out = 0;
            for (int i = 0; i < loads.size(); i++) {
                if ((bits >> i & 1) == 1) {
                    cost += cost(loads.get(i).has, depth);
                    out += loads.get(i).has;
                }
            }
            int[] it = {cost, Integer.bitCount(bits), bits};
            if (heavyAt(depth) - out < 0 && cost <= air && (best == null || Arrays.compare(it, best) < 0)) {
                best = it;
            }
        }
        if (best == null) {
            return -2;
        }
        tell(best[2], air - best[0]);
        return best[1];
    }

    int times(int tanks, int depth) {
        if (!allTanks(tanks) || !depthOk(depth)) {
            return NONE;
        }
        int cost = 0;
        for (int i = 0; i < loads.size(); i++) {
            cost += (tanks >> i & 1) == 1 ? cost(loads.get(i).most, depth) : 0;
        }
        if (cost == 0) {
            return NONE;
        }
        int left = air;
        int n = 0;
        while (left >= cost) {
            left -= cost;
            n++;
        }
        tell(left);
        return n;
    }

    boolean eats(int store, int a, int percent, int waste) {
        if (!is(store, 1) || !in(a, 0, 50) || !in(percent, 0, 100) || waste == store) {
            return false;
        }
        if (waste != NONE && !is(waste, 0) && !is(waste, 1)) {
            return false;
        }
        Load l = loads.get(store);
        l.eaten = a;
        l.percent = percent;
        l.waste = waste;
        return true;
    }

    private void oneDay() {
        for (Load l : loads) {
            if (l.kind == 1) {
                int gone = Math.min(l.has, l.eaten);
                l.has -= gone;
                if (l.waste != NONE) {
                    Load to = loads.get(l.waste);
                    to.has = Math.min(to.most, to.has + gone * l.percent / 100);
                }
            }
        }
        day++;
    }

    int days(int n) {
        if (!in(n, 0, 400)) {
            return NONE;
        }
        for (int i = 0; i < n; i++) {
            oneDay();
        }
        int empty = 0;
        for (Load l : loads) {
            empty += l.kind == 1 && l.has == 0 ? 1 : 0;
        }
        return empty;
    }

    int lasts(int depth) {
        if (!depthOk(depth)) {
            return NONE;
        }
        int[] has = hasNow();
        int today = day;
        int answer = -2;
        for (int k = 0; k <= 400 && answer == -2; k++) {
            if (sums(depth) == null) {
                answer = k;
            }
            oneDay();
        }
        setHas(has);
        day = today;
        return answer;
    }

    int shift(int depth) {
        if (!depthOk(depth)) {
            return NONE;
        }
        int best = NONE;
        for (int a = 0; a < loads.size(); a++) {
            for (int b = 0; b < loads.size(); b++) {
                int had = loads.get(a).has;
                if (is(a, 1) && is(b, 1) && had > 0 && carry(a, b, had)) {
                    int days = lasts(depth);
                    days = days == -2 ? 1000 : days;
                    if (days > best) {
                        best = days;
                        tell(a, b);
                    }
                    loads.get(a).has += had;
                    loads.get(b).has -= had;
                }
            }
        }
        return best == NONE ? -2 : best == 1000 ? NONE : best;
    }

    int ground(int depth, int mud) {
        if (!depthOk(depth) || !in(mud, 0, 999)) {
            return NONE;
        }
        int[] has = hasNow();
        int out = 0;
        List<Integer> tanks = new ArrayList<>();
        for (int i = 0; i < loads.size(); i++) {
            if (is(i, 0)) {
                tanks.add(i);
            }
        }
        List<Integer> order = new ArrayList<>(tanks);
        order.sort((a, b) -> has[b] != has[a] ? has[b] - has[a] : a - b);
        for (int tank : order) {
            while (heavyAt(depth) >= -mud && loads.get(tank).has > 0) {
                loads.get(tank).has--;
                out++;
            }
        }
        boolean up = heavyAt(depth) < -mud;
        if (up) {
            tell();
            for (int tank : tanks) {
                row.add(loads.get(tank).has);
            }
        }
        setHas(has);
        return up ? out : -2;
    }

    int ice(int depth, int thick) {
        if (!depthOk(depth) || !in(thick, 1, 20) || depth <= thick) {
            return NONE;
        }
        List<int[]> s = seconds(depth, 600);
        for (int i = 0; i < s.size(); i++) {
            if (s.get(i)[0] <= thick * 10) {
                int hit = Math.abs(s.get(i)[1]) * weight() / 100;
                tell(i, hit);
                return hit >= 50 * thick ? 1 : 0;
            }
        }
        tell(NONE, 0);
        return 0;
    }

    boolean keep(int i) {
        if (!in(i, 0, 2)) {
            return false;
        }
        kept[i] = new Kept();
        kept[i].has = hasNow();
        kept[i].air = air;
        kept[i].day = day;
        kept[i].r = r;
        return true;
    }

    boolean again(int i) {
        if (!in(i, 0, 2) || kept[i] == null) {
            return false;
        }
        setHas(kept[i].has);
        air = kept[i].air;
        day = kept[i].day;
        r = kept[i].r;
        return true;
    }

    int seed(int v) {
        int was = r;
        r = v;
        return was;
    }

    private int draw(int n) {
        r = r * 1103515245 + 12345;
        return (int) ((r & 0xffffffffL) / 65536 % n);
    }

    int lie() {
        List<Integer> can = new ArrayList<>();
        for (int i = 0; i < loads.size(); i++) {
            if (loads.get(i).most > 0) {
                can.add(i);
            }
        }
        if (can.isEmpty()) {
            return -2;
        }
        int load = can.get(draw(can.size()));
        loads.get(load).has = draw(loads.get(load).most + 1);
        return load;
    }

    int count(int what) {
        int[] all = {loads.size(), layers.size(), lines().length, pumps.size(), tellings.size(), gauges.size(), air,
            day, row.size(), text.length()};
        return in(what, 0, 9) ? all[what] : NONE;
    }

    int row(int i) {
        if (!in(i, 0, row.size() - 1)) {
            throw new NoSuchElementException();
        }
        return row.get(i);
    }
}
