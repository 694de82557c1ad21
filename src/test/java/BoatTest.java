/** Promises 1 to 15: the boat. */
public final class BoatTest {
    public static void main(String[] args) {
        newObject();
        load();
        fill();
        sheet();
        sheetKinds();
        baseAndHull();
        layerAndMix();
        slack();
        of();
        heavy();
        heavyOfSqueezedHull();
        moment();
        balanced();
        lies();
        hover();
        Check.finish("BoatTest");
    }

    private static void newObject() {
        HundredMenAft x = new HundredMenAft();
        for (int what = 0; what <= 9; what++) {
            Check.due("new: count(" + what + ")", x.count(what), 0);
        }
        Check.due("new: heavy(0)", x.heavy(0), -1000);
        Check.due("new: heavy(600)", x.heavy(600), -1000);
        Check.due("new: moment(0)", x.moment(0), 0);
        Check.due("new: moment(1)", x.moment(1), 0);
        Check.due("new: seed", x.seed(7), 1);
        Check.due("new: slack 0", x.slack(0, 0), 5);
        Check.due("new: slack 1", x.slack(1, 0), 200);
        Check.due("new: slack 2", x.slack(2, 0), 50);
        Check.due("new: air", x.air(0), 0);
        Check.noSuch("new: of", () -> x.of(0, 0));
        Check.noSuch("new: line", () -> x.line(0));
        Check.noSuch("new: row", () -> x.row(0));
        Check.due("NONE", HundredMenAft.NONE, -1);
    }

    private static void load() {
        HundredMenAft x = new HundredMenAft();
        Check.due("least", x.load(0, -99, -9, 0, 0), 0);
        Check.due("most", x.load(3, 99, 9, 999, 999), 1);
        int[][] wrong = {{-1, 0, 0, 1, 1}, {4, 0, 0, 1, 1}, {0, -100, 0, 1, 1}, {0, 100, 0, 1, 1}, {0, 0, -10, 1, 1},
            {0, 0, 10, 1, 1}, {0, 0, 0, -1, -1}, {0, 0, 0, 1000, 0}, {0, 0, 0, 5, 6}, {0, 0, 0, 5, -1}};
        for (int[] w : wrong) {
            Check.due("wrong load", x.load(w[0], w[1], w[2], w[3], w[4]), -1);
        }
        Check.due("loads", x.count(0), 2);
        for (int i = 2; i < 15; i++) {
            Check.due("load " + i, x.load(i % 4, i, 0, 10, i % 10), i);
        }
        Check.due("load 15", x.load(0, 0, 0, 1, 1), -1);
        Check.due("loads", x.count(0), 15);
    }

    private static void fill() {
        HundredMenAft x = new HundredMenAft();
        x.load(2, 0, 0, 10, 4);
        Check.due("fill", x.fill(0, 10), 4);
        Check.due("fill", x.fill(0, 0), 10);
        Check.due("fill above", x.fill(0, 11), -1);
        Check.due("fill below", x.fill(0, -1), -1);
        Check.due("fill none", x.fill(1, 0), -1);
        Check.due("fill none", x.fill(-1, 0), -1);
        Check.due("has", x.of(0, 4), 0);
    }

    private static void sheet() {
        HundredMenAft x = new HundredMenAft();
        x.load(0, 0, 0, 100, 40);
        x.load(1, 0, 0, 200, 50);
        x.load(2, 0, 0, 10, 7);
        Check.due("n above 15", x.sheet(2, 16, 0, 0), -1);
        Check.due("n above 15 of a missing one", x.sheet(3, 16, 0, 0), -1);
        Check.due("another kind, n below 0", x.sheet(4, -1, 0, 0), -1);
        Check.due("another kind", x.sheet(-1, 1, 0, 0), -1);
        for (int kind = 0; kind <= 2; kind++) {
            Check.due("n below 0", x.sheet(kind, -1, 0, 0), -2);
        }
        Check.due("nothing changes", x.of(0, 4), 40);
        Check.due("n 0", x.sheet(2, 0, 99, 1), 0);
        Check.due("two told", x.sheet(2, 2, 60, 20), 2);
        Check.due("has 0", x.of(0, 4), 60);
        Check.due("has 1", x.of(1, 4), 80);
        Check.due("has 2", x.of(2, 4), 7);
        Check.due("those there are", x.sheet(2, 15, 5, -3), 3);
        Check.due("has 0", x.of(0, 4), 5);
        Check.due("has 1", x.of(1, 4), 2);
        Check.due("has 2", x.of(2, 4), 0);
        x.fill(0, 9);
        Check.due("missing, n below 0", x.sheet(3, -5, 0, 0), -3);
        Check.due("a tank", x.of(0, 4), 0);
        Check.due("a store", x.of(1, 4), 2);
    }

    private static void sheetKinds() {
        HundredMenAft x = new HundredMenAft();
        x.load(0, 0, 0, 999, 1);
        x.load(0, 0, 0, 999, 1);
        x.sheet(0, 2, 127, 1);
        Check.due("byte 127", x.of(0, 4), 127);
        Check.due("byte 128 is below 0", x.of(1, 4), 0);
        x.sheet(0, 2, 256 + 44, 1);
        Check.due("byte 300", x.of(0, 4), 44);
        x.sheet(1, 2, 65536 + 44, 65535);
        Check.due("short 65580", x.of(0, 4), 44);
        Check.due("short 131115", x.of(1, 4), 43);
        x.sheet(1, 2, 32768, 600);
        Check.due("short 32768 is below 0", x.of(0, 4), 0);
        x.sheet(2, 2, Integer.MAX_VALUE, 1);
        Check.due("int above most", x.of(0, 4), 999);
        Check.due("ints go round", x.of(1, 4), 0);
    }

    private static void baseAndHull() {
        HundredMenAft x = new HundredMenAft();
        Check.due("base", x.base(99999, -999999, 99999), true);
        Check.due("moment", x.moment(0), -999999);
        Check.due("list", x.moment(1), 99999);
        Check.due("heavy", x.heavy(0), 98999);
        int[][] wrong = {{-1, 0, 0}, {100000, 0, 0}, {0, 1000000, 0}, {0, -1000000, 0}, {0, 0, 100000},
            {0, 0, -100000}};
        for (int[] w : wrong) {
            Check.due("wrong base", x.base(w[0], w[1], w[2]), false);
        }
        Check.due("moment", x.moment(0), -999999);
        Check.due("hull", x.hull(99999, 0), true);
        Check.due("heavy", x.heavy(600), 0);
        Check.due("hull 0", x.hull(0, 0), false);
        Check.due("hull 100000", x.hull(100000, 0), false);
        Check.due("squeeze -1", x.hull(1, -1), false);
        Check.due("squeeze 100", x.hull(1, 100), false);
        Check.due("heavy", x.heavy(600), 0);
        Check.due("hull", x.hull(1, 99), true);
    }

    private static void layerAndMix() {
        HundredMenAft x = new HundredMenAft();
        Check.due("mix of none", x.mix(), 0);
        Check.due("depth -1", x.layer(-1, 1000), -1);
        Check.due("depth 601", x.layer(601, 1000), -1);
        Check.due("density 899", x.layer(0, 899), -1);
        Check.due("density 1101", x.layer(0, 1101), -1);
        Check.due("layer", x.layer(0, 900), 1);
        Check.due("as deep", x.layer(0, 1000), -1);
        for (int i = 1; i < 6; i++) {
            Check.due("layer", x.layer(i * 100, 1100), i + 1);
        }
        Check.due("layer 7", x.layer(600, 1000), -1);
        Check.due("above", x.heavy(99), -900);
        Check.due("below", x.heavy(100), -1100);
        Check.due("mix", x.mix(), 6);
        Check.due("heavy", x.heavy(100), -1000);
        Check.due("a layer at the deepest", x.layer(600, 1000), 1);
    }

    private static void slack() {
        HundredMenAft x = new HundredMenAft();
        Check.due("heavy 50", x.slack(0, 50), 5);
        Check.due("heavy 51", x.slack(0, 51), -1);
        Check.due("heavy -1", x.slack(0, -1), -1);
        Check.due("moment 9999", x.slack(1, 9999), 200);
        Check.due("moment 10000", x.slack(1, 10000), -1);
        Check.due("list 9999", x.slack(2, 9999), 50);
        Check.due("list 10000", x.slack(2, 10000), -1);
        Check.due("what 3", x.slack(3, 1), -1);
        Check.due("what -1", x.slack(-1, 1), -1);
        Check.due("heavy", x.slack(0, 0), 50);
        Check.due("moment", x.slack(1, 0), 9999);
        Check.due("list", x.slack(2, 0), 9999);
    }

    private static void of() {
        HundredMenAft x = new HundredMenAft();
        x.load(3, -7, 5, 20, 11);
        int[] want = {3, -7, 5, 20, 11};
        for (int what = 0; what < 5; what++) {
            Check.due("of(0, " + what + ")", x.of(0, what), want[what]);
        }
        Check.noSuch("of(0, 5)", () -> x.of(0, 5));
        Check.noSuch("of(0, -1)", () -> x.of(0, -1));
        Check.noSuch("of(1, 0)", () -> x.of(1, 0));
        Check.noSuch("of(-1, 0)", () -> x.of(-1, 0));
    }

    private static void heavy() {
        HundredMenAft x = new HundredMenAft();
        x.load(0, 1, 1, 100, 30);
        x.load(2, 1, 1, 100, 5);
        x.base(985, 0, 0);
        x.layer(10, 1025);
        Check.due("heavy(9)", x.heavy(9), 20);
        Check.due("heavy(10)", x.heavy(10), -5);
        Check.due("heavy(600)", x.heavy(600), -5);
        Check.noSuch("heavy(601)", () -> x.heavy(601));
        Check.noSuch("heavy(-1)", () -> x.heavy(-1));
    }

    private static void heavyOfSqueezedHull() {
        HundredMenAft x = new HundredMenAft();
        x.hull(1000, 7);
        Check.due("7 by 10 is cut to 0", x.heavy(1), -1000);
        Check.due("14 by 10 is cut to 1", x.heavy(2), -999);
        x.layer(2, 1001);
        Check.due("999.999 is cut", x.heavy(2), -999);
        x.hull(1, 99);
        x.mix();
        Check.due("a hull squeezed to less than nothing", x.heavy(600), 5939);
        x.layer(0, 1100);
        Check.due("cut towards 0", x.heavy(600), 6532);
    }

    private static void moment() {
        HundredMenAft x = new HundredMenAft();
        x.load(0, 10, -2, 100, 30);
        x.load(1, -5, 3, 100, 7);
        x.base(0, 4, 9);
        Check.due("moment", x.moment(0), 4 + 300 - 35);
        Check.due("list", x.moment(1), 9 - 60 + 21);
        Check.noSuch("moment(2)", () -> x.moment(2));
        Check.noSuch("moment(-1)", () -> x.moment(-1));
    }

    private static void balanced() {
        HundredMenAft x = new HundredMenAft();
        x.base(1005, 200, -50);
        Check.due("at the slack", x.balanced(0), 1);
        x.base(1006, 200, -50);
        Check.due("too heavy", x.balanced(0), 0);
        x.base(994, 200, -50);
        Check.due("too light", x.balanced(0), 0);
        x.base(995, -201, -50);
        Check.due("moment", x.balanced(0), 0);
        x.base(995, -200, 51);
        Check.due("list", x.balanced(0), 0);
        x.base(995, -200, 50);
        Check.due("at the other slack", x.balanced(600), 1);
        Check.due("601", x.balanced(601), -1);
        Check.due("-1", x.balanced(-1), -1);
    }

    private static void lies() {
        HundredMenAft x = new HundredMenAft();
        x.base(1010, 0, 0);
        Check.due("none", x.lies(0, 600), -2);
        x.layer(40, 1010);
        x.layer(50, 1000);
        x.layer(60, 1100);
        Check.due("on the layer", x.lies(0, 600), 40);
        Check.due("to the layer", x.lies(0, 40), 40);
        Check.due("above the layer", x.lies(0, 39), -2);
        Check.due("in it", x.lies(45, 600), 45);
        Check.due("the next one", x.lies(50, 600), 60);
        Check.due("one depth", x.lies(60, 60), 60);
        Check.due("to above from", x.lies(60, 59), -1);
        Check.due("-1", x.lies(-1, 59), -1);
        Check.due("601", x.lies(0, 601), -1);
    }

    private static void hover() {
        HundredMenAft x = new HundredMenAft();
        x.hull(1000, 10);
        x.base(990, 0, 0);
        Check.due("hover", x.hover(0, 600), 11);
        Check.row("hover", x, 5, 15);
        Check.due("hover from within", x.hover(12, 13), 2);
        Check.row("hover from within", x, 12, 13);
        Check.due("one depth", x.hover(15, 600), 1);
        Check.row("one depth", x, 15, 15);
        x.hover(12, 13);
        Check.due("refused", x.hover(13, 12), -1);
        Check.due("refused", x.hover(-1, 12), -1);
        Check.due("refused", x.hover(0, 601), -1);
        Check.row("refused: as it was", x, 12, 13);
        Check.due("none", x.hover(16, 600), 0);
        Check.row("none", x);
        x.layer(20, 1010);
        Check.due("with a gap", x.hover(0, 600), 11 + 5);
        Check.row("with a gap", x, 5, 24);
        x.base(990, 201, 0);
        Check.due("not level", x.hover(0, 600), 0);
    }
}
