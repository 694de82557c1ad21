/** Promises 48 to 53: kept. */
public final class KeptTest {
    public static void main(String[] args) {
        keepAndAgain();
        wrongKeeps();
        seed();
        lie();
        count();
        row();
        Check.finish("KeptTest");
    }

    private static void keepAndAgain() {
        HundredMenAft x = new HundredMenAft();
        x.load(0, 0, 0, 100, 10);
        x.load(1, 0, 0, 100, 20);
        x.air(500);
        x.days(3);
        x.seed(77);
        Check.due("keep 0", x.keep(0), true);
        x.load(0, 0, 0, 100, 5);
        x.fill(0, 90);
        x.fill(1, 80);
        x.air(1);
        x.days(9);
        x.seed(78);
        x.base(5, 5, 5);
        Check.due("keep 2", x.keep(2), true);
        x.fill(2, 6);
        Check.due("again 0", x.again(0), true);
        Check.due("has 0", x.of(0, 4), 10);
        Check.due("has 1", x.of(1, 4), 20);
        Check.due("told since", x.of(2, 4), 6);
        Check.due("air", x.count(6), 500);
        Check.due("day", x.count(7), 3);
        Check.due("r", x.seed(1), 77);
        Check.due("the base stays", x.moment(0), 5);
        Check.due("again 2", x.again(2), true);
        Check.due("has 0", x.of(0, 4), 90);
        Check.due("has 2", x.of(2, 4), 5);
        Check.due("day", x.count(7), 12);
        Check.due("r", x.seed(1), 78);
        x.fill(0, 1);
        Check.due("keep 0 anew", x.keep(0), true);
        x.fill(0, 2);
        Check.due("twice", x.again(0) && x.again(0), true);
        Check.due("has 0", x.of(0, 4), 1);
    }

    private static void wrongKeeps() {
        HundredMenAft x = new HundredMenAft();
        Check.due("nothing kept", x.again(0), false);
        Check.due("keep 3", x.keep(3), false);
        Check.due("keep -1", x.keep(-1), false);
        Check.due("again 3", x.again(3), false);
        Check.due("again -1", x.again(-1), false);
        Check.due("keep 1, with no loads", x.keep(1), true);
        x.load(0, 0, 0, 9, 4);
        Check.due("again 0", x.again(0), false);
        Check.due("again 2", x.again(2), false);
        Check.due("again 1", x.again(1), true);
        Check.due("told since", x.of(0, 4), 4);
    }

    private static void seed() {
        HundredMenAft x = new HundredMenAft();
        Check.due("at first", x.seed(Integer.MIN_VALUE), 1);
        Check.due("any", x.seed(Integer.MAX_VALUE), Integer.MIN_VALUE);
        Check.due("any", x.seed(0), Integer.MAX_VALUE);
    }

    private static void lie() {
        HundredMenAft x = new HundredMenAft();
        Check.due("no loads", x.lie(), -2);
        x.load(0, 0, 0, 0, 0);
        Check.due("none holds anything", x.lie(), -2);
        Check.due("no draws", x.seed(1), 1);
        x.load(0, 0, 0, 100, 1);
        x.load(2, 0, 0, 0, 0);
        x.load(3, 0, 0, 100, 1);
        int r = 1;
        for (int i = 0; i < 20; i++) {
            r = r * 1103515245 + 12345;
            int load = (int) ((r & 0xffffffffL) / 65536 % 2) == 0 ? 1 : 3;
            r = r * 1103515245 + 12345;
            int has = (int) ((r & 0xffffffffL) / 65536 % 101);
            Check.due("lie", x.lie(), load);
            Check.due("it has", x.of(load, 4), has);
        }
        Check.due("two draws each", x.seed(0), r);
    }

    private static void count() {
        HundredMenAft x = new HundredMenAft();
        x.load(0, 0, 0, 9, 4);
        x.load(0, 0, 0, 9, 4);
        x.layer(5, 1000);
        Check.book(x, "0=1;1=2;0=3");
        x.pump(0, 1, 1, true);
        x.pump(0, -1, 1, true);
        Check.telling(x, "");
        x.gauge(0, 0, 0, 0);
        x.gauge(1, 0, 0, 0);
        x.air(55);
        x.days(8);
        x.best(0, 0);
        x.sign(0);
        int[] want = {2, 1, 3, 2, 1, 2, 55, 8, 3, 4};
        for (int what = 0; what <= 9; what++) {
            Check.due("count(" + what + ")", x.count(what), want[what]);
        }
        Check.due("count(10)", x.count(10), -1);
        Check.due("count(-1)", x.count(-1), -1);
    }

    private static void row() {
        HundredMenAft x = new HundredMenAft();
        Check.noSuch("none told", () -> x.row(0));
        x.dive(3, 2, 0);
        Check.due("row(0)", x.row(0), 0);
        Check.due("row(1)", x.row(1), 0);
        Check.noSuch("row(2)", () -> x.row(2));
        Check.noSuch("row(-1)", () -> x.row(-1));
        Check.noSuch("row of the least", () -> x.row(Integer.MIN_VALUE));
        x.balanced(0);
        Check.due("told last", x.count(8), 2);
    }
}
