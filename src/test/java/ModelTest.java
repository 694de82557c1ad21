import java.util.NoSuchElementException;
import java.util.Random;

/** Random runs of calls on the class and on the plain boat: every answer, row and count has to be alike. */
public final class ModelTest {
    private static final int RUNS = 2500;
    private static final int CALLS = 110;

    private final Random random;
    private final HundredMenAft x = new HundredMenAft();
    private final PlainBoat y = new PlainBoat();
    private String last = "";

    private ModelTest(long seed) {
        random = new Random(seed);
    }

    public static void main(String[] args) {
        int runs = args.length > 0 ? Integer.parseInt(args[0]) : RUNS;
        long from = args.length > 1 ? Long.parseLong(args[1]) : 1;
        for (long seed = from; seed < from + runs; seed++) {
            new ModelTest(seed).go(seed);
        }
        Check.finish("ModelTest");
    }

    private void go(long seed) {
        build();
        for (int i = 0; i < CALLS; i++) {
            int what = random.nextInt(60);
            step(what);
            sameState("run " + seed + ", call " + i + ", " + last);
        }
        Check.due("run " + seed + ": seed", x.seed(0), y.seed(0));
    }

    private void same(String what, Check.Call a, Check.Call b) {
        last = what;
        long got = answer(a);
        long want = answer(b);
        Check.due(what, got, want);
    }

    private static long answer(Check.Call call) {
        try {
            return call.go();
        } catch (NoSuchElementException e) {
            return Long.MIN_VALUE;
        }
    }

    private void sameState(String where) {
        for (int i = -1; i <= 10; i++) {
            Check.due(where + ": count(" + i + ")", x.count(i), y.count(i));
        }
        for (int i = 0; i < x.count(8) && i < y.count(8); i++) {
            Check.due(where + ": row(" + i + ")", x.row(i), y.row(i));
        }
        for (int i = 0; i < x.count(0); i++) {
            Check.due(where + ": of(" + i + ", 4)", x.of(i, 4), y.of(i, 4));
        }
    }

    private int pick(int least, int most) {
        return least + random.nextInt(most - least + 1);
    }

    /** Mostly from least to most, at times an edge, a neighbour of an edge or anything. */
    private int near(int least, int most) {
        int how = random.nextInt(24);
        if (how == 0) {
            return random.nextBoolean() ? least - 1 : most + 1;
        }
        if (how == 1) {
            return random.nextBoolean() ? least : most;
        }
        if (how == 2) {
            return random.nextInt(20) == 0 ? random.nextInt() : pick(least, most);
        }
        return pick(least, most);
    }

    private int depth() {
        return random.nextInt(3) == 0 ? pick(0, 20) : near(0, 600);
    }

    private int anyLoad() {
        return near(0, Math.max(0, y.loads.size() - 1));
    }

    private int loadOf(int kind) {
        for (int i = 0; i < 6; i++) {
            int load = anyLoad();
            if (load >= 0 && load < y.loads.size() && y.loads.get(load).kind == kind) {
                return load;
            }
        }
        return anyLoad();
    }

    private void build() {
        int many = random.nextInt(5) == 0 ? 15 : pick(0, 9);
        int few = random.nextInt(2);
        for (int i = 0; i < many; i++) {
            addLoad(few);
        }
        settle();
        for (int i = pick(0, 4); i > 0; i--) {
            addPump();
        }
        for (int i = pick(0, 3); i > 0; i--) {
            step(42);
        }
    }

    private void addLoad(int few) {
        int kind = random.nextInt(3) == 0 ? pick(0, 3) : few == 0 ? 0 : pick(0, 2);
        int at = random.nextInt(4) == 0 ? pick(-1, 1) * 10 : near(-99, 99);
        int side = random.nextInt(3) == 0 ? 0 : near(-9, 9);
        int most = random.nextInt(3) == 0 ? pick(0, 30) : near(0, 999);
        int has = random.nextInt(9) == 0 ? near(0, 999) : pick(0, Math.max(0, most));
        same("load", () -> x.load(kind, at, side, most, has), () -> y.load(kind, at, side, most, has));
    }

    private void addPump() {
        int from = random.nextInt(3) == 0 ? -1 : loadOf(0);
        int to = random.nextInt(3) == 0 ? -1 : loadOf(0);
        int rate = random.nextBoolean() ? pick(1, 6) : near(1, 50);
        boolean quiet = random.nextBoolean();
        same("pump", () -> x.pump(from, to, rate, quiet), () -> y.pump(from, to, rate, quiet));
    }

    /** Brings the boat near its balance, so that there is something to find. */
    private void settle() {
        int weight = pick(0, 3000);
        x.base(weight, 0, 0);
        y.base(weight, 0, 0);
        int squeeze = random.nextBoolean() ? 0 : pick(0, 40);
        int volume = Math.max(1, y.heavy(0) + (y.volume - 0) + pick(-60, 60) + squeeze * pick(0, 20) / 10);
        same("hull", () -> x.hull(volume, squeeze) ? 1 : 0, () -> y.hull(volume, squeeze) ? 1 : 0);
        int moment = -y.moment(0) + pick(-600, 600);
        int list = -y.moment(1) + pick(-80, 80);
        same("base", () -> x.base(weight, moment, list) ? 1 : 0, () -> y.base(weight, moment, list) ? 1 : 0);
    }

    private String expression(int open) {
        StringBuilder b = new StringBuilder();
        int things = pick(1, 3);
        for (int i = 0; i < things; i++) {
            b.append(i == 0 ? "" : "" + "+-*".charAt(random.nextInt(3)));
            while (random.nextInt(5) == 0) {
                b.append('-');
            }
            int how = random.nextInt(8);
            if (how == 0 && open < 5) {
                b.append('(').append(expression(open + 1)).append(')');
            } else if (how < 3) {
                b.append('n').append(pick(0, 16));
            } else if (how < 5) {
                b.append("hmldw".charAt(random.nextInt(5)));
            } else {
                b.append(random.nextInt(9) == 0 ? pick(0, 10999) : pick(0, 120));
            }
        }
        return b.toString();
    }

    private String bookText() {
        StringBuilder b = new StringBuilder();
        int lines = random.nextInt(12) == 0 ? 15 : pick(0, 5);
        for (int i = 0; i < lines; i++) {
            b.append(i == 0 ? "" : ";").append(random.nextInt(4) == 0 ? pick(0, 16) : Math.max(0, loadOf(0) % 20));
            b.append('=').append(lines == 15 && random.nextInt(9) > 0 ? "" + pick(0, 9) : expression(0));
        }
        return spoilt(b.toString(), "0123456789=;+-*()hmldwnx\0\u00e9");
    }

    private String tellingText() {
        StringBuilder b = new StringBuilder();
        int terms = pick(0, 5);
        for (int i = 0; i < terms; i++) {
            b.append(i == 0 ? "" : ";");
            char kind = "lvb".charAt(random.nextInt(3));
            b.append(kind).append(Math.abs(anyLoad() % 100));
            if (kind == 'v') {
                b.append('-').append(Math.abs(anyLoad() % 100));
            }
            b.append(',').append(kind == 'b' && random.nextBoolean() ? "-" : "").append(pick(0, 60));
        }
        return spoilt(b.toString(), "0123456789,;-lvb x");
    }

    private String spoilt(String s, String signs) {
        StringBuilder b = new StringBuilder(s);
        while (b.length() > 0 && random.nextInt(4) == 0) {
            char c = signs.charAt(random.nextInt(signs.length()));
            int at = random.nextInt(b.length());
            int how = random.nextInt(3);
            if (how == 0) {
                b.setCharAt(at, c);
            } else if (how == 1) {
                b.insert(at, c);
            } else {
                b.setLength(at);
            }
        }
        return b.length() > 80 ? b.substring(0, 80) : b.toString();
    }

    private void type(String s) {
        for (int i = 0; i < s.length(); i += 4) {
            int v = 0;
            for (int k = 0; k < 4; k++) {
                v = v << 8 | (i + k < s.length() ? s.charAt(i + k) : 0);
            }
            int four = v;
            same("sign", () -> x.sign(four), () -> y.sign(four));
        }
        same("end", () -> x.end(s.length()) ? 1 : 0, () -> y.end(s.length()) ? 1 : 0);
    }

    private void step(int what) {
        if (what < 15) {
            boatStep(what);
        } else if (what < 24) {
            textStep(what);
        } else if (what < 33) {
            pumpStep(what);
        } else if (what < 42) {
            tellingStep(what);
        } else {
            otherStep(what);
        }
    }

    private void boatStep(int what) {
        int load = anyLoad();
        int d = depth();
        switch (what) {
            case 0: addLoad(1); break;
            case 1: {
                int v = near(0, 300);
                same("fill " + load + " " + v, () -> x.fill(load, v), () -> y.fill(load, v));
                break;
            }
            case 2: {
                int kind = near(0, 3);
                int n = near(0, 15);
                int f = random.nextInt(4) == 0 ? random.nextInt() : pick(-300, 300);
                int step = random.nextInt(4) == 0 ? random.nextInt() : pick(-60, 90);
                if (random.nextBoolean()) {
                    same("sheet", () -> x.sheet(kind, n, f, step), () -> y.sheet(kind, n, f, step));
                }
                break;
            }
            case 3: {
                int w = near(0, 99999);
                int m = near(-999999, 999999);
                int l = near(-99999, 99999);
                if (random.nextInt(4) == 0) {
                    same("base", () -> x.base(w, m, l) ? 1 : 0, () -> y.base(w, m, l) ? 1 : 0);
                }
                break;
            }
            case 4: {
                int v = near(1, 99999);
                int s = near(0, 99);
                if (random.nextInt(4) == 0) {
                    same("hull", () -> x.hull(v, s) ? 1 : 0, () -> y.hull(v, s) ? 1 : 0);
                }
                break;
            }
            case 5: {
                int density = random.nextBoolean() ? pick(990, 1010) : near(900, 1100);
                same("layer", () -> x.layer(d, density), () -> y.layer(d, density));
                break;
            }
            case 6:
                if (random.nextInt(3) == 0) {
                    same("mix", () -> x.mix(), () -> y.mix());
                }
                break;
            case 7: {
                int which = near(0, 2);
                int v = which == 0 ? near(0, 50) : random.nextBoolean() ? pick(0, 300) : near(0, 9999);
                same("slack", () -> x.slack(which, v), () -> y.slack(which, v));
                break;
            }
            case 8: {
                int which = near(0, 4);
                same("of", () -> x.of(load, which), () -> y.of(load, which));
                break;
            }
            case 9: same("heavy " + d, () -> x.heavy(d), () -> y.heavy(d)); break;
            case 10: {
                int which = near(0, 1);
                same("moment", () -> x.moment(which), () -> y.moment(which));
                break;
            }
            case 11: same("balanced " + d, () -> x.balanced(d), () -> y.balanced(d)); break;
            case 12: {
                int to = random.nextBoolean() ? 600 : depth();
                same("lies " + d + " " + to, () -> x.lies(d, to), () -> y.lies(d, to));
                break;
            }
            case 13: {
                int to = random.nextBoolean() ? 600 : depth();
                same("hover " + d + " " + to, () -> x.hover(d, to), () -> y.hover(d, to));
                break;
            }
            default: settle(); break;
        }
    }

    private void textStep(int what) {
        int d = depth();
        switch (what) {
            case 15: case 16: {
                type(bookText());
                same("book " + y.text, () -> x.book(), () -> y.book());
                break;
            }
            case 17: {
                int i = near(0, Math.max(0, y.count(2) - 1));
                same("line " + i + " of " + y.book, () -> x.line(i), () -> y.line(i));
                break;
            }
            case 18: same("morning by " + y.book, () -> x.morning(), () -> y.morning()); break;
            case 19: same("holds " + d + " by " + y.book, () -> x.holds(d), () -> y.holds(d)); break;
            case 20: {
                int v = random.nextInt();
                same("sign", () -> x.sign(v), () -> y.sign(v));
                int n = near(0, 20);
                same("end", () -> x.end(n) ? 1 : 0, () -> y.end(n) ? 1 : 0);
                break;
            }
            default: lieStep(what); break;
        }
    }

    private void lieStep(int what) {
        int d = depth();
        int at = d < 0 || d > 600 ? 0 : d;
        int h = y.heavy(at);
        int m = y.moment(0);
        int l = y.moment(1);
        for (int k = pick(0, 2); k > 0 && !y.loads.isEmpty(); k--) {
            PlainBoat.Load load = y.loads.get(random.nextInt(y.loads.size()));
            int change = pick(-20, 20);
            h += change;
            m += change * load.x;
            l += change * load.y;
        }
        int hh = random.nextInt(20) == 0 ? random.nextInt() : h;
        int mm = random.nextInt(20) == 0 ? random.nextInt() : m;
        int ll = l;
        if (what == 21) {
            same("liar", () -> x.liar(d, hh, mm, ll), () -> y.liar(d, hh, mm, ll));
        } else {
            same("two", () -> x.two(d, hh, mm, ll), () -> y.two(d, hh, mm, ll));
        }
    }

    private void pumpStep(int what) {
        int d = depth();
        int pump = near(0, Math.max(0, y.pumps.size() - 1));
        switch (what) {
            case 24: addPump(); break;
            case 25: {
                int n = near(-99, 99);
                same("run", () -> x.run(pump, n), () -> y.run(pump, n));
                break;
            }
            case 26: {
                int n = near(-9, 9);
                same("run", () -> x.run(pump, n), () -> y.run(pump, n));
                break;
            }
            case 27: same("best " + pump + " " + d, () -> x.best(pump, d), () -> y.best(pump, d)); break;
            case 28: {
                boolean quiet = random.nextBoolean();
                if (random.nextInt(3) == 0) {
                    settle();
                    same("trim 0 " + quiet, () -> x.trim(0, quiet), () -> y.trim(0, quiet));
                }
                break;
            }
            case 29: {
                boolean quiet = random.nextInt(3) == 0;
                if (random.nextInt(3) == 0) {
                    same("trim " + d + " " + quiet, () -> x.trim(d, quiet), () -> y.trim(d, quiet));
                }
                break;
            }
            case 30: same("reach " + d, () -> x.reach(d), () -> y.reach(d)); break;
            case 31: {
                settle();
                same("reach 0", () -> x.reach(0), () -> y.reach(0));
                break;
            }
            default: {
                int load = loadOf(3);
                int n = random.nextBoolean() ? pick(1, 20) : near(1, 999);
                int late = near(0, 60);
                int rate = near(1, 99);
                int tank = loadOf(0);
                same("shot", () -> x.shot(load, n, late, rate, tank), () -> y.shot(load, n, late, rate, tank));
                break;
            }
        }
    }

    private void tellingStep(int what) {
        int d = depth();
        int telling = near(0, Math.max(0, y.tellings.size() - 1));
        int hour = near(0, 200);
        int which = near(0, 2);
        int within = random.nextBoolean() ? 99 : near(0, 99);
        switch (what) {
            case 33: case 34: {
                type(tellingText());
                same("telling " + y.text, () -> x.telling(), () -> y.telling());
                break;
            }
            case 35: {
                boolean can = telling >= 0 && telling < y.tellings.size() && hour >= 0 && hour <= 200 && d >= 0
                        && d <= 600 && which >= 0 && which <= 2;
                int number = can ? y.tells(telling, hour, d, which) + pick(-50, 50) : near(-999999, 999999);
                if (random.nextInt(2) == 0) {
                    same("gauge", () -> x.gauge(hour, d, which, number), () -> y.gauge(hour, d, which, number));
                }
                break;
            }
            case 36:
                same("tells", () -> x.tells(telling, hour, d, which), () -> y.tells(telling, hour, d, which));
                break;
            case 37: same("fits " + within, () -> x.fits(within), () -> y.fits(within)); break;
            case 38: same("look " + within, () -> x.look(within, d), () -> y.look(within, d)); break;
            case 39: {
                int v = random.nextBoolean() ? pick(0, 3000) : near(0, 99999);
                same("air", () -> x.air(v), () -> y.air(v));
                break;
            }
            case 40: {
                int tank = loadOf(0);
                if (random.nextInt(3) == 0) {
                    same("blow", () -> x.blow(tank, d), () -> y.blow(tank, d));
                }
                break;
            }
            default: {
                int bits = tankBits();
                same("rise " + bits, () -> x.rise(bits, d), () -> y.rise(bits, d));
                same("times " + bits, () -> x.times(bits, d), () -> y.times(bits, d));
                break;
            }
        }
    }

    private int tankBits() {
        int bits = 0;
        for (int i = 0; i < y.loads.size(); i++) {
            if (y.loads.get(i).kind == 0 && random.nextInt(4) > 0) {
                bits |= 1 << i;
            }
        }
        int how = random.nextInt(12);
        return how == 0 ? bits | 1 << random.nextInt(32) : how == 1 ? random.nextInt() : bits;
    }

    private void otherStep(int what) {
        int d = depth();
        int small = random.nextBoolean() ? pick(0, 30) : near(0, 400);
        switch (what) {
            case 42: case 43: {
                int store = loadOf(1);
                int a = random.nextBoolean() ? pick(0, 6) : near(0, 50);
                int percent = near(0, 100);
                int waste = random.nextInt(3) == 0 ? -1 : anyLoad();
                same("eats", () -> x.eats(store, a, percent, waste) ? 1 : 0,
                        () -> y.eats(store, a, percent, waste) ? 1 : 0);
                break;
            }
            case 44: same("days " + small, () -> x.days(small), () -> y.days(small)); break;
            case 45: same("lasts " + d, () -> x.lasts(d), () -> y.lasts(d)); break;
            case 46: {
                if (random.nextBoolean()) {
                    settle();
                }
                same("lasts 0", () -> x.lasts(0), () -> y.lasts(0));
                break;
            }
            case 47: {
                if (random.nextBoolean()) {
                    settle();
                }
                if (random.nextInt(3) == 0) {
                    same("shift 0", () -> x.shift(0), () -> y.shift(0));
                }
                break;
            }
            case 48: {
                int mud = near(0, 999);
                same("ground", () -> x.ground(d, mud), () -> y.ground(d, mud));
                break;
            }
            case 49: {
                int thick = near(1, 20);
                same("ice", () -> x.ice(d, thick), () -> y.ice(d, thick));
                break;
            }
            case 50: case 51: {
                int i = near(0, 2);
                same("keep", () -> x.keep(i) ? 1 : 0, () -> y.keep(i) ? 1 : 0);
                break;
            }
            case 52: {
                int i = near(0, 2);
                same("again", () -> x.again(i) ? 1 : 0, () -> y.again(i) ? 1 : 0);
                break;
            }
            case 53: {
                int v = random.nextInt();
                same("seed", () -> x.seed(v), () -> y.seed(v));
                break;
            }
            case 54: same("lie", () -> x.lie(), () -> y.lie()); break;
            default: menStep(what); break;
        }
    }

    private void menStep(int what) {
        int d = depth();
        int target = random.nextBoolean() ? Math.max(0, Math.min(600, d + pick(-5, 60))) : near(0, 600);
        int n = near(0, 600);
        int from = loadOf(2);
        int to = loadOf(2);
        if (what == 55) {
            int kind = pick(1, 2);
            int a = loadOf(kind);
            int b = loadOf(kind);
            int many = random.nextBoolean() ? pick(1, 20) : near(1, 999);
            same("carry", () -> x.carry(a, b, many) ? 1 : 0, () -> y.carry(a, b, many) ? 1 : 0);
        } else if (what == 56 || what == 57) {
            same("dive", () -> x.dive(d, target, n), () -> y.dive(d, target, n));
        } else {
            same("forward", () -> x.forward(from, to, d, target, n), () -> y.forward(from, to, d, target, n));
        }
    }
}
