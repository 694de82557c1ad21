/**
 * Refused calls answer NONE, or false, or throw, and change nothing; calls that change nothing do so. Each argument of
 * each call is asked at its edges (taken) and one behind them, and at the ends of the ints (refused).
 */
public final class RefusedTest {
    private static final int LEAST = Integer.MIN_VALUE;
    private static final int MOST = Integer.MAX_VALUE;
    private static final int NONE = -1;
    private static final int FALSE = 0;
    private static final long THROWN = Twin.THROWN;

    interface Many {
        long on(HundredMenAft x, int[] a);
    }

    /** What an argument may be, and what it may not. */
    static final class Arg {
        final int[] good;
        int[] wrong = {};

        Arg(int... good) {
            this.good = good;
        }

        Arg not(int... some) {
            wrong = some;
            return this;
        }
    }

    private static Arg in(int least, int most) {
        Arg arg = new Arg(least, most).not(least - 1, most + 1, LEAST, MOST);
        return arg;
    }

    private static Arg any() {
        return new Arg(LEAST, -1, 0, 1, MOST);
    }

    public static void main(String[] args) {
        theBoat();
        books();
        pumpsAndShots();
        dives();
        tellings();
        air();
        stores();
        groundAndKept();
        full();
        texts();
        nothingChanges();
        nothingChangesByDays();
        itCanNot();
        Check.finish("RefusedTest");
    }

    /** Eight loads of all kinds, and some of all that can be told; the text has four signs, the row two numbers. */
    static HundredMenAft rich() {
        HundredMenAft x = new HundredMenAft();
        x.load(0, 10, 1, 100, 40);
        x.load(0, -10, -1, 90, 30);
        x.load(1, 5, 2, 80, 30);
        x.load(1, -5, -2, 80, 20);
        x.load(2, -50, 0, 100, 60);
        x.load(2, 50, 0, 70, 10);
        x.load(3, 40, 0, 20, 20);
        x.load(0, 0, 0, 0, 0);
        x.base(700, 2000, 30);
        x.hull(950, 7);
        x.layer(10, 1010);
        x.layer(300, 1020);
        x.slack(0, 9);
        x.slack(1, 300);
        x.slack(2, 70);
        Check.book(x, "0=n1+3;1=h");
        x.pump(-1, 0, 3, true);
        x.pump(0, 1, 2, false);
        Check.telling(x, "l0,3;b1,-4");
        Check.telling(x, "v0-1,2");
        x.gauge(2, 10, 0, 5);
        x.gauge(3, 0, 1, 700);
        x.eats(2, 3, 50, 1);
        x.days(2);
        x.air(5000);
        x.seed(77);
        x.keep(1);
        x.fill(0, 45);
        x.air(4000);
        x.dive(5, 6, 3);
        Check.text(x, "2=n0");
        return x;
    }

    private static void check(String name, long refused, int[] good, Many call, Arg... args) {
        for (int k = 0; k < args.length; k++) {
            for (int v : args[k].good) {
                int[] a = good.clone();
                a[k] = v;
                long got = Twin.answer(x -> call.on(x, a), rich());
                Check.due(name + ": argument " + k + " is " + v + ", refused", got == refused, false);
            }
            for (int v : args[k].wrong) {
                int[] a = good.clone();
                a[k] = v;
                Twin.same(name + ": argument " + k + " is " + v, RefusedTest::rich, refused, x -> call.on(x, a));
            }
        }
    }

    private static int[] a(int... all) {
        return all;
    }

    private static void theBoat() {
        check("load", NONE, a(0, 0, 0, 10, 5), (x, a) -> x.load(a[0], a[1], a[2], a[3], a[4]),
                in(0, 3), in(-99, 99), in(-9, 9), in(5, 999), in(0, 10));
        check("load of nothing", NONE, a(0, 0, 0, 0, 0), (x, a) -> x.load(a[0], a[1], a[2], a[3], a[4]),
                in(0, 3), in(-99, 99), in(-9, 9), in(0, 999), in(0, 0));
        check("fill", NONE, a(0, 0), (x, a) -> x.fill(a[0], a[1]), in(0, 7), in(0, 100));
        check("fill of one that holds nothing", NONE, a(7, 0), (x, a) -> x.fill(a[0], a[1]), in(0, 7), in(0, 0));
        for (int kind = 0; kind <= 3; kind++) {
            check("sheet", NONE, a(kind, 3, 5, 1), (x, a) -> x.sheet(a[0], a[1], a[2], a[3]),
                    in(0, 3), new Arg(0, 15).not(16, 17, MOST), any(), any());
        }
        check("sheet, n below 0", NONE, a(0, -1, 5, 1), (x, a) -> x.sheet(a[0], a[1], a[2], a[3]), in(0, 3));
        check("base", FALSE, a(5, 5, 5), (x, a) -> x.base(a[0], a[1], a[2]) ? 1 : 0,
                in(0, 99999), in(-999999, 999999), in(-99999, 99999));
        check("hull", FALSE, a(5, 5), (x, a) -> x.hull(a[0], a[1]) ? 1 : 0, in(1, 99999), in(0, 99));
        check("layer", NONE, a(400, 1000), (x, a) -> x.layer(a[0], a[1]),
                new Arg(301, 600).not(300, 299, 10, 0, -1, 601, LEAST, MOST), in(900, 1100));
        check("slack of heavy", NONE, a(0, 5), (x, a) -> x.slack(a[0], a[1]), in(0, 2), in(0, 50));
        check("slack of moment", NONE, a(1, 5), (x, a) -> x.slack(a[0], a[1]), in(0, 2), in(0, 9999));
        check("slack of list", NONE, a(2, 5), (x, a) -> x.slack(a[0], a[1]), in(0, 2), in(0, 9999));
        check("of", THROWN, a(0, 4), (x, a) -> x.of(a[0], a[1]), in(0, 7), in(0, 4));
        check("heavy", THROWN, a(5), (x, a) -> x.heavy(a[0]), in(0, 600));
        check("moment", THROWN, a(0), (x, a) -> x.moment(a[0]), in(0, 1));
        check("balanced", NONE, a(5), (x, a) -> x.balanced(a[0]), in(0, 600));
        check("lies", NONE, a(5, 50), (x, a) -> x.lies(a[0], a[1]), in(0, 50), in(5, 600));
        check("hover", NONE, a(5, 50), (x, a) -> x.hover(a[0], a[1]), in(0, 50), in(5, 600));
    }

    private static void books() {
        check("end", FALSE, a(2), (x, a) -> x.end(a[0]) ? 1 : 0, in(0, 4));
        check("line", THROWN, a(0), (x, a) -> x.line(a[0]), in(0, 1));
        check("holds", NONE, a(5), (x, a) -> x.holds(a[0]), in(0, 600));
        check("liar", NONE, a(5, 1, 2, 3), (x, a) -> x.liar(a[0], a[1], a[2], a[3]), in(0, 600), any(), any(), any());
        check("two", NONE, a(5, 1, 2, 3), (x, a) -> x.two(a[0], a[1], a[2], a[3]), in(0, 600), any(), any(), any());
    }

    private static void pumpsAndShots() {
        check("pump", NONE, a(-1, 0, 5), (x, a) -> x.pump(a[0], a[1], a[2], true),
                new Arg(-1, 1, 7).not(0, 2, 3, 4, 5, 6, 8, 15, -2, LEAST, MOST),
                new Arg(0, 1, 7).not(-1, 2, 3, 4, 5, 6, 8, 15, -2, LEAST, MOST), in(1, 50));
        check("pump to the sea", NONE, a(0, -1, 5), (x, a) -> x.pump(a[0], a[1], a[2], false),
                new Arg(0, 1, 7).not(-1, 2, 8), new Arg(-1, 1, 7).not(0, 2, 8), in(1, 50));
        check("run", NONE, a(0, 1), (x, a) -> x.run(a[0], a[1]), in(0, 1),
                new Arg(-99, -1, 1, 99).not(0, -100, 100, LEAST, MOST));
        check("best", NONE, a(0, 5), (x, a) -> x.best(a[0], a[1]), in(0, 1), in(0, 600));
        check("trim", NONE, a(5), (x, a) -> x.trim(a[0], false), in(0, 600));
        check("trim of quiet ones", NONE, a(5), (x, a) -> x.trim(a[0], true), in(0, 600));
        check("reach", NONE, a(5), (x, a) -> x.reach(a[0]), in(0, 600));
        check("shot", NONE, a(6, 5, 3, 4, 0), (x, a) -> x.shot(a[0], a[1], a[2], a[3], a[4]),
                new Arg(6).not(0, 1, 2, 3, 4, 5, 7, 8, 15, -1, LEAST, MOST), in(1, 20), in(0, 60), in(1, 99),
                new Arg(0, 1, 7).not(2, 3, 4, 5, 6, 8, 15, -1, LEAST, MOST));
    }

    private static void dives() {
        check("dive", NONE, a(5, 6, 7), (x, a) -> x.dive(a[0], a[1], a[2]), in(0, 600), in(0, 600), in(0, 600));
        check("forward", NONE, a(4, 5, 5, 6, 7), (x, a) -> x.forward(a[0], a[1], a[2], a[3], a[4]),
                new Arg(4).not(0, 1, 2, 3, 5, 6, 7, 8, 15, -1, LEAST, MOST),
                new Arg(5).not(0, 1, 2, 3, 4, 6, 7, 8, 15, -1, LEAST, MOST), in(0, 600), in(0, 600), in(0, 600));
        check("carry of men", FALSE, a(4, 5, 5), (x, a) -> x.carry(a[0], a[1], a[2]) ? 1 : 0,
                new Arg(4).not(0, 1, 2, 3, 5, 6, 7, 8, 15, -1, LEAST, MOST),
                new Arg(5).not(0, 1, 2, 3, 4, 6, 7, 8, 15, -1, LEAST, MOST), in(1, 60));
        check("carry of a store", FALSE, a(2, 3, 5), (x, a) -> x.carry(a[0], a[1], a[2]) ? 1 : 0,
                new Arg(2).not(0, 1, 3, 4, 5, 6, 7, 8, 15, -1, LEAST, MOST),
                new Arg(3).not(0, 1, 2, 4, 5, 6, 7, 8, 15, -1, LEAST, MOST), in(1, 24));
        check("carry between tanks", FALSE, a(2, 3, 5), (x, a) -> x.carry(a[0], a[0] == 0 ? 1 : 0, a[2]) ? 1 : 0,
                new Arg().not(0, 1));
        Twin.same("carry of a shot", () -> {
            HundredMenAft x = rich();
            x.load(3, 0, 0, 20, 5);
            return x;
        }, FALSE, x -> x.carry(6, 8, 1) ? 1 : 0);
        Twin.same("carry with no room", RefusedTest::rich, FALSE, x -> {
            x.fill(5, 66);
            boolean taken = x.carry(4, 5, 5);
            x.fill(5, 10);
            return taken ? 1 : 0;
        });
    }

    private static void tellings() {
        check("gauge", NONE, a(5, 5, 1, 5), (x, a) -> x.gauge(a[0], a[1], a[2], a[3]),
                in(0, 200), in(0, 600), in(0, 2), in(-999999, 999999));
        check("tells", THROWN, a(0, 5, 5, 1), (x, a) -> x.tells(a[0], a[1], a[2], a[3]),
                in(0, 1), in(0, 200), in(0, 600), in(0, 2));
        check("fits", NONE, a(5), (x, a) -> x.fits(a[0]), in(0, 99));
        check("look", NONE, a(5, 5), (x, a) -> x.look(a[0], a[1]), in(0, 99), in(0, 600));
    }

    private static void air() {
        check("air", NONE, a(5), (x, a) -> x.air(a[0]), in(0, 99999));
        check("blow", NONE, a(0, 5), (x, a) -> x.blow(a[0], a[1]),
                new Arg(0, 1, 7).not(2, 3, 4, 5, 6, 8, 15, -1, LEAST, MOST), in(0, 600));
        check("rise", NONE, a(1, 5), (x, a) -> x.rise(a[0], a[1]),
                new Arg(1, 2, 3, 128, 131).not(0, 4, 8, 16, 32, 64, 256, 5, 257, 32768, -1, LEAST, LEAST + 1, MOST),
                in(0, 600));
        check("times", NONE, a(1, 5), (x, a) -> x.times(a[0], a[1]),
                new Arg(1, 2, 3, 129, 131).not(0, 128, 4, 8, 16, 32, 64, 256, 5, 257, 32768, -1, LEAST, LEAST + 1,
                        MOST), in(0, 600));
    }

    private static void stores() {
        check("eats", FALSE, a(2, 3, 50, 1), (x, a) -> x.eats(a[0], a[1], a[2], a[3]) ? 1 : 0,
                new Arg(2, 3).not(0, 1, 4, 5, 6, 7, 8, 15, -1, LEAST, MOST), in(0, 50), in(0, 100),
                new Arg(-1, 0, 1, 3, 7).not(2, 4, 5, 6, 8, 15, -2, LEAST, MOST));
        check("days", NONE, a(5), (x, a) -> x.days(a[0]), in(0, 400));
        check("lasts", NONE, a(5), (x, a) -> x.lasts(a[0]), in(0, 600));
        check("shift", NONE, a(5), (x, a) -> x.shift(a[0]), new Arg().not(-1, 601, LEAST, MOST));
    }

    private static void groundAndKept() {
        check("ground", NONE, a(5, 5), (x, a) -> x.ground(a[0], a[1]), in(0, 600), in(0, 999));
        check("ice", NONE, a(30, 5), (x, a) -> x.ice(a[0], a[1]),
                new Arg(6, 600).not(5, 4, 0, -1, 601, LEAST, MOST), in(1, 20));
        check("ice that is as thick as it is deep", NONE, a(12, 5), (x, a) -> x.ice(a[0], a[1]),
                new Arg(6), new Arg(1, 11).not(12, 13, 20));
        check("keep", FALSE, a(0), (x, a) -> x.keep(a[0]) ? 1 : 0, in(0, 2));
        check("again", FALSE, a(1), (x, a) -> x.again(a[0]) ? 1 : 0, new Arg(1).not(0, 2, 3, -1, LEAST, MOST));
        check("count", NONE, a(0), (x, a) -> x.count(a[0]), in(0, 9));
        check("row", THROWN, a(0), (x, a) -> x.row(a[0]), in(0, 1));
    }

    /** As many of all as there can be, with 80 signs of text. */
    private static HundredMenAft fullBoat() {
        HundredMenAft x = rich();
        for (int i = 8; i < 15; i++) {
            Check.due("load", x.load(i % 4, i, 0, 10, 5), i);
        }
        for (int i = 2; i < 6; i++) {
            Check.due("layer", x.layer(300 + i, 1000), i + 1);
            Check.due("pump", x.pump(0, 1, i, true), i);
            Check.due("telling", Check.telling(x, "l0,1"), i);
        }
        for (int i = 2; i < 12; i++) {
            Check.due("gauge", x.gauge(i, 0, 0, 0), i + 1);
        }
        x.end(0);
        for (int i = 0; i < 20; i++) {
            x.sign('0' << 24 | '=' << 16 | '1' << 8 | ';');
        }
        return x;
    }

    private static void full() {
        Twin.same("16 loads", RefusedTest::fullBoat, NONE, x -> x.load(0, 0, 0, 1, 1));
        Twin.same("7 layers", RefusedTest::fullBoat, NONE, x -> x.layer(600, 1000));
        Twin.same("7 pumps", RefusedTest::fullBoat, NONE, x -> x.pump(0, 1, 1, true));
        Twin.same("13 gauges", RefusedTest::fullBoat, NONE, x -> x.gauge(0, 0, 0, 0));
        Twin.same("84 signs", RefusedTest::fullBoat, NONE, x -> x.sign(0));
        Twin.sameButText("7 tellings", RefusedTest::fullBoat, -100, x -> x.telling());
        for (int n = 77; n <= 79; n++) {
            int signs = n;
            Twin.same(n + 4 + " signs", () -> {
                HundredMenAft x = fullBoat();
                x.end(signs);
                return x;
            }, NONE, x -> x.sign(0));
        }
        HundredMenAft x = fullBoat();
        x.end(76);
        Check.due("80 signs", x.sign(0), 80);
        Check.due("the 15 loads: load 14", x.of(14, 1), 14);
        Check.noSuch("the 15 loads: load 15", () -> x.of(15, 1));
    }

    private static void texts() {
        String[] wrong = {"x", "0", "0=", "0=x", "16=1", "0=1;", "0=(1", "0=12345", "0=n16", "0=(((((1)))))"};
        int[] at = {0, 1, 2, 2, 1, 4, 4, 6, 4, 6};
        for (int i = 0; i < wrong.length; i++) {
            String s = wrong[i];
            Twin.sameButText("book " + s, () -> typed(s), -1 - at[i], x -> x.book());
        }
        String[] wrongTellings = {"x", "l", "l8,1", "l0,1234", "v0-0,1", "b0,-", "l0,1;", "l0,5;b0,7;v0-1,9;x"};
        int[] tellingAt = {0, 1, 1, 6, 3, 4, 5, 17};
        for (int i = 0; i < wrongTellings.length; i++) {
            String s = wrongTellings[i];
            Twin.sameButText("telling " + s, () -> typed(s), -1 - tellingAt[i], x -> x.telling());
        }
    }

    private static HundredMenAft typed(String s) {
        HundredMenAft x = rich();
        Check.text(x, s);
        return x;
    }

    private static void nothingChanges() {
        Twin.same("of", RefusedTest::rich, 45, x -> x.of(0, 4));
        Twin.same("heavy", RefusedTest::rich, 3, x -> x.heavy(30) - x.heavy(26));
        Twin.same("moment", RefusedTest::rich, 0, x -> x.moment(0) - x.moment(0));
        Twin.same("balanced", RefusedTest::rich, 0, x -> x.balanced(600));
        Twin.same("lies", RefusedTest::rich, -2, x -> x.lies(599, 600));
        Twin.same("line", RefusedTest::rich, 35, x -> x.line(0));
        Twin.same("tells", RefusedTest::rich, 0, x -> x.tells(0, 2, 5, 0) - x.heavy(5) - 2);
        Twin.same("count", RefusedTest::rich, 8, x -> x.count(0));
        Twin.same("row", RefusedTest::rich, 0, x -> x.row(0) - x.row(0));
        Twin.sameButRow("hover", RefusedTest::rich, 0, x -> x.hover(600, 600));
        Twin.sameButRow("holds", RefusedTest::rich, 0, x -> x.holds(600));
        Twin.sameButRow("liar", RefusedTest::rich, 0, x -> x.liar(0, 999, 0, 0));
        Twin.sameButRow("two", RefusedTest::rich, 0, x -> x.two(0, 9999, 0, 0));
        Twin.sameButRow("best", RefusedTest::rich, 0, x -> x.best(1, 5));
        Twin.sameButRow("reach", RefusedTest::rich, 0, x -> x.reach(600));
        Twin.sameButRow("dive", RefusedTest::rich, 6000, x -> x.dive(500, 510, 600));
        Twin.sameButRow("forward", RefusedTest::rich, 0, x -> x.forward(4, 5, 500, 510, 600));
        Twin.sameButRow("forward, all do not", RefusedTest::rich, -2, x -> x.forward(4, 5, 500, 510, 0));
        Twin.sameButRow("fits", RefusedTest::rich, 0, x -> x.fits(0));
        Twin.sameButRow("times", RefusedTest::rich, 40, x -> x.times(1, 0));
        Twin.sameButRow("ice", RefusedTest::rich, 0, x -> x.ice(600, 20));
    }

    /** As the rich one, but in balance at first, so that calls that look ahead have a way to go. */
    private static HundredMenAft calm() {
        HundredMenAft x = rich();
        x.mix();
        x.base(700, 0, 0);
        x.base(700, -x.moment(0), -x.moment(1));
        x.hull(700 + 45 + 32 + 24 + 20 + 60 + 10 + 20, 0);
        Check.book(x, "0=45+d;1=n1");
        Check.text(x, "2=n0");
        x.dive(5, 6, 3);
        return x;
    }

    private static void nothingChangesByDays() {
        Check.due("in balance", calm().balanced(0), 1);
        Check.due("on DAY 2", calm().count(7), 2);
        Twin.sameButRow("holds for days", RefusedTest::calm, 24, x -> x.holds(0));
        Twin.sameButRow("holds for ever", () -> {
            HundredMenAft x = calm();
            x.eats(2, 1, 0, -1);
            Check.book(x, "0=45+24-n2;1=32");
            x.slack(1, 9999);
            x.slack(2, 9999);
            return x;
        }, -2, x -> x.holds(0));
        Twin.sameButRow("lasts for days", () -> {
            HundredMenAft x = calm();
            x.load(1, 0, 0, 300, 300);
            x.hull(911 + 300, 0);
            x.eats(8, 5, 0, -1);
            return x;
        }, 20, x -> x.lasts(0));
        Twin.sameButRow("shift of some days", () -> {
            HundredMenAft x = calm();
            x.hull(911 + 100, 0);
            x.eats(2, 3, 0, -1);
            x.eats(3, 4, 0, -1);
            return x;
        }, 8, x -> x.shift(0));
        Twin.sameButRow("shift to no end", RefusedTest::calm, -1, x -> x.shift(0));
        Twin.sameButRow("trim of two", () -> {
            HundredMenAft x = calm();
            x.slack(0, 0);
            x.hull(911 + 6, 0);
            return x;
        }, 2, x -> x.trim(0, false));
        Twin.sameButRow("best", RefusedTest::calm, 0, x -> x.best(0, 600));
        Twin.sameButRow("forward of some", RefusedTest::calm, 20, x -> x.forward(4, 5, 0, 1, 4));
        Twin.sameButRow("rise of one", RefusedTest::calm, 1, x -> x.rise(131, 0));
        Twin.sameButRow("ground", RefusedTest::calm, 51, x -> x.ground(0, 50));
        Twin.sameButRow("look", () -> {
            HundredMenAft x = new HundredMenAft();
            x.load(0, 1, 1, 50, 5);
            Check.telling(x, "l0,1");
            Check.telling(x, "b0,3");
            return x;
        }, 1, x -> x.look(1, 0));
        Twin.sameButRow("liar", RefusedTest::calm, 1, x -> x.liar(0, 1, 10, 1));
        Twin.sameButRow("two", RefusedTest::calm, 1, x -> x.two(0, 0, 20, 2));
        Twin.sameButRow("dive", RefusedTest::calm, 50, x -> x.dive(5, 6, 600));
        Twin.sameButRow("times", RefusedTest::calm, 21, x -> x.times(3, 0));
    }

    /** Calls that can't, and calls that look for something: they change nothing but the row. */
    private static void itCanNot() {
        for (int kind = 0; kind <= 2; kind++) {
            int k = kind;
            Twin.same("sheet, n below 0", RefusedTest::rich, -2, x -> x.sheet(k, -1, 5, 5));
            Twin.same("sheet, n far below 0", RefusedTest::rich, -2, x -> x.sheet(k, LEAST, 5, 5));
        }
        Twin.sameButRow("run: it has less", RefusedTest::rich, -2, x -> x.run(0, -16));
        Twin.sameButRow("run: less room", RefusedTest::rich, -2, x -> x.run(0, 19));
        Twin.sameButRow("shot: no room", RefusedTest::rich, -2, x -> x.shot(6, 1, 0, 1, 7));
        Twin.sameButRow("blow: less air", RefusedTest::rich, -2, x -> {
            x.air(44);
            int answer = x.blow(0, 0);
            x.air(4000);
            return answer;
        });
        Twin.sameButRow("look: fewer than two", RefusedTest::rich, -2, x -> x.look(0, 0));
        Twin.sameButRow("trim", RefusedTest::rich, -2, x -> x.trim(600, true));
        Twin.sameButRow("rise: none do", RefusedTest::rich, -2, x -> x.rise(1, 600));
        Twin.sameButRow("ground: all tanks do not", RefusedTest::rich, -2, x -> x.ground(600, 999));
        Twin.sameButRow("lasts", RefusedTest::rich, 0, x -> x.lasts(600));
        Twin.sameButRow("shift", RefusedTest::rich, 0, x -> x.shift(600));
        Twin.same("lie, with none that holds anything", () -> {
            HundredMenAft x = new HundredMenAft();
            x.load(0, 5, 5, 0, 0);
            x.seed(9);
            return x;
        }, -2, x -> x.lie());
        Twin.sameButRow("shift: no pair", () -> {
            HundredMenAft x = rich();
            x.fill(2, 0);
            x.fill(3, 0);
            return x;
        }, -2, x -> x.shift(0));
    }
}
