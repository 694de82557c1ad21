/** Promises 24 to 28: pumps. */
public final class PumpTest {
    public static void main(String[] args) {
        pump();
        run();
        best();
        trimByOne();
        trimByTwo();
        trimAsTheyCan();
        trimAsLongAsTheyMay();
        trimOfBothWays();
        reach();
        reachEdges();
        Check.finish("PumpTest");
    }

    private static void pump() {
        HundredMenAft x = new HundredMenAft();
        x.load(0, 0, 0, 10, 5);
        x.load(0, 0, 0, 10, 5);
        x.load(1, 0, 0, 10, 5);
        int[][] wrong = {{0, 0, 1}, {-1, -1, 1}, {0, 2, 1}, {2, 0, 1}, {0, 3, 1}, {-2, 0, 1}, {0, -2, 1}, {0, 1, 0},
            {0, 1, 51}};
        for (int[] w : wrong) {
            Check.due("wrong pump", x.pump(w[0], w[1], w[2], true), -1);
        }
        Check.due("from the sea", x.pump(-1, 0, 1, true), 0);
        Check.due("to the sea", x.pump(1, -1, 50, false), 1);
        for (int i = 2; i < 6; i++) {
            Check.due("pump", x.pump(0, 1, 1, true), i);
        }
        Check.due("pump 6", x.pump(0, 1, 1, true), -1);
        Check.due("pumps", x.count(3), 6);
    }

    private static void run() {
        HundredMenAft x = new HundredMenAft();
        x.load(0, 0, 0, 400, 100);
        x.load(0, 0, 0, 100, 50);
        x.pump(0, 1, 3, true);
        x.pump(-1, 0, 2, true);
        Check.due("run", x.run(0, 16), 48);
        Check.due("no room", x.run(0, 1), -2);
        Check.due("tank 0", x.of(0, 4), 52);
        Check.due("tank 1", x.of(1, 4), 98);
        Check.due("the other way", x.run(0, -32), 96);
        Check.due("it has less", x.run(0, -1), -2);
        Check.due("tank 0", x.of(0, 4), 148);
        Check.due("from the sea", x.run(1, 99), 198);
        Check.due("tank 0", x.of(0, 4), 346);
        Check.due("to the sea", x.run(1, -99), 198);
        Check.due("tank 0", x.of(0, 4), 148);
        Check.due("n 0", x.run(1, 0), -1);
        Check.due("n 100", x.run(1, 100), -1);
        Check.due("n -100", x.run(1, -100), -1);
        Check.due("n least", x.run(1, Integer.MIN_VALUE), -1);
        Check.due("no pump", x.run(2, 1), -1);
        Check.due("no pump", x.run(-1, 1), -1);
    }

    private static void best() {
        HundredMenAft x = new HundredMenAft();
        x.load(0, 10, 0, 100, 40);
        x.load(0, -10, 0, 100, 40);
        x.hull(95, 0);
        x.pump(-1, 0, 10, true);
        x.pump(0, 1, 1, true);
        x.pump(-1, 1, 1, true);
        Check.due("two heavies alike in size: moment", x.best(0, 0), 0);
        Check.row("two heavies alike in size: moment", x, 1, -5, 100);
        x.base(0, -1000, 0);
        x.best(0, 0);
        Check.row("now the other", x, 2, 5, -800);
        x.best(1, 0);
        Check.row("moment alone, as it can", x, -50 + 10, -15, -200);
        x.base(0, -101 + 1, 0);
        x.best(1, 0);
        Check.row("moment 0", x, -5, -15, 0);
        x.base(0, -10, 0);
        x.best(1, 0);
        Check.row("alike in size: the fewest minutes", x, 0, -15, -10);
        x.base(0, 0, 0);
        x.hull(80, 0);
        x.best(2, 0);
        Check.row("not at all", x, 0, 0, 0);
        Check.due("tank 0", x.of(0, 4), 40);
        Check.due("no pump", x.best(3, 0), -1);
        Check.due("no pump", x.best(-1, 0), -1);
        Check.due("601", x.best(0, 601), -1);
        Check.row("as it was", x, 0, 0, 0);
        HundredMenAft y = new HundredMenAft();
        y.load(0, 0, 0, 900, 450);
        y.load(0, 0, 0, 900, 450);
        y.pump(0, 1, 3, true);
        y.base(0, 50, 0);
        y.best(0, 0);
        Check.row("all alike: not at all", y, 0, -100, 50);
        HundredMenAft z = new HundredMenAft();
        z.load(0, 1, 0, 100, 50);
        z.pump(-1, 0, 4, true);
        z.hull(52, 0);
        z.base(0, -50, 0);
        z.best(0, 0);
        Check.row("0 and 1 alike but for moment: 0 then 4", z, 0, -2, 0);
        z.base(0, -52, 0);
        z.best(0, 0);
        Check.row("moments alike, too: the fewest", z, 0, -2, -2);
    }

    private static void trimByOne() {
        HundredMenAft x = new HundredMenAft();
        x.load(0, 0, 0, 100, 40);
        x.hull(40, 0);
        x.slack(0, 0);
        Check.due("balanced", x.trim(0, false), 0);
        Check.row("balanced", x);
        x.hull(52, 0);
        Check.due("no pumps", x.trim(0, false), -2);
        x.pump(-1, 0, 5, true);
        Check.due("not just", x.trim(0, false), -2);
        x.pump(0, -1, 2, false);
        Check.due("the other way", x.trim(0, false), 3);
        Check.row("the other way", x, 0, 2, 1, -1);
    }

    private static void trimByTwo() {
        HundredMenAft x = new HundredMenAft();
        x.load(0, 10, 0, 100, 40);
        x.load(0, -10, 0, 100, 40);
        x.hull(90, 0);
        x.slack(0, 0);
        x.slack(1, 20);
        x.pump(-1, 0, 5, true);
        x.pump(0, 1, 2, false);
        x.pump(-1, 1, 1, true);
        Check.due("two", x.trim(0, false), 4);
        Check.row("the least row", x, 0, 2, 1, 2);
        Check.due("quiet", x.trim(0, true), 6);
        Check.row("quiet", x, 0, 1, 2, 5);
        Check.due("nothing changes", x.of(0, 4), 40);
        Check.due("601", x.trim(601, true), -1);
        Check.due("-1", x.trim(-1, true), -1);
        x.hull(91, 0);
        x.slack(1, 0);
        x.base(1, 0, 0);
        Check.row("as it was", x, 0, 1, 2, 5);
        Check.due("just", x.trim(0, false), 6);
        Check.row("just", x, 0, 1, 2, 5);
    }

    private static void trimAsTheyCan() {
        HundredMenAft x = new HundredMenAft();
        x.load(0, 0, 0, 10, 10);
        x.load(0, 0, 0, 100, 0);
        x.slack(0, 0);
        x.hull(14, 0);
        x.pump(-1, 0, 4, true);
        x.pump(0, 1, 4, true);
        Check.due("room has to be made first", x.trim(0, false), 2);
        Check.row("room has to be made first", x, 1, 1, 0, 1);
        x.hull(6, 0);
        Check.due("one is enough", x.trim(0, false), 1);
        Check.row("one is enough", x, 0, -1);
        HundredMenAft y = new HundredMenAft();
        y.load(0, 0, 0, 10, 5);
        y.load(0, 0, 0, 10, 5);
        y.slack(0, 0);
        y.hull(11, 0);
        y.pump(-1, 1, 1, true);
        y.pump(1, -1, 1, true);
        y.pump(-1, 0, 1, false);
        Check.due("the first pump of equal ones", y.trim(0, false), 1);
        Check.row("the first pump of equal ones", y, 0, 1);
        y.hull(9, 0);
        Check.due("down", y.trim(0, false), 1);
        Check.row("down", y, 0, -1);
        y.hull(999, 0);
        Check.due("-2", y.trim(0, false), -2);
        Check.row("a row is told only with an answer", y, 0, -1);
    }

    private static void trimAsLongAsTheyMay() {
        HundredMenAft x = new HundredMenAft();
        x.load(0, 0, 0, 999, 0);
        x.load(0, 0, 0, 999, 0);
        x.slack(0, 0);
        x.hull(198, 0);
        x.pump(-1, 0, 1, true);
        Check.due("one can't so long", x.trim(0, false), -2);
        x.pump(1, -1, 1, true);
        Check.due("99 and 99", x.trim(0, false), 198);
        Check.row("99 and 99", x, 0, 99, 1, -99);
        x.hull(199, 0);
        Check.due("one more", x.trim(0, false), -2);
        x.hull(99, 0);
        Check.due("one alone", x.trim(0, false), 99);
        Check.row("the least row: 1 and 98", x, 0, 1, 1, -98);
    }

    private static void trimOfBothWays() {
        HundredMenAft y = new HundredMenAft();
        y.load(0, 10, 3, 100, 50);
        y.load(0, -10, -3, 100, 50);
        y.hull(100, 0);
        y.slack(2, 0);
        y.base(0, 0, 24);
        y.pump(0, 1, 2, true);
        Check.due("by list alone", y.trim(0, true), 2);
        Check.row("by list alone", y, 0, 2);
        y.base(0, 0, -24);
        Check.due("the other way", y.trim(0, true), 2);
        Check.row("the other way", y, 0, -2);
        y.pump(1, 0, 2, true);
        Check.due("the least row", y.trim(0, true), 2);
        Check.row("the least row: one minute each", y, 0, -2);
    }

    private static void reach() {
        HundredMenAft x = new HundredMenAft();
        x.load(0, 10, 0, 100, 0);
        x.load(0, -10, 0, 100, 0);
        x.load(2, 0, 0, 100, 20);
        x.hull(120, 0);
        x.slack(1, 0);
        Check.due("reach", x.reach(0), 1);
        Check.row("reach", x, 95, 105);
        x.base(0, -980, 0);
        Check.due("98 more forward than aft", x.reach(0), 1);
        Check.row("98 more forward than aft", x, 98, 102);
        x.base(0, 1000, 0);
        x.hull(117, 0);
        Check.due("just one end", x.reach(0), 1);
        Check.row("just one end", x, 100, 100);
        x.base(0, 1000, 99999);
        Check.due("list is left out", x.reach(0), 1);
        x.base(0, 1001, 0);
        Check.due("too far", x.reach(0), 0);
        Check.row("none", x);
        x.base(0, -1001, 0);
        Check.due("too far", x.reach(0), 0);
        x.slack(1, 1);
        Check.due("with slack", x.reach(0), 1);
        Check.due("nothing changes", x.of(0, 4), 0);
        Check.due("601", x.reach(601), -1);
        Check.due("-1", x.reach(-1), -1);
    }

    private static void reachEdges() {
        HundredMenAft x = new HundredMenAft();
        x.base(1000, 200, 0);
        Check.due("no tanks", x.reach(0), 1);
        Check.row("no tanks", x, 0, 0);
        x.base(1000, -200, 0);
        Check.due("no tanks", x.reach(0), 1);
        x.base(1000, 201, 0);
        Check.due("no tanks", x.reach(0), 0);
        x.base(994, 0, 0);
        Check.due("no tanks, too light", x.reach(0), 0);
        x.load(0, 3, 0, 7, 7);
        Check.due("all that it holds", x.reach(0), 1);
        Check.row("all that it holds", x, 1, 7);
        x.base(994, -210, 0);
        Check.due("from 4 on", x.reach(0), 1);
        Check.row("from 4 on", x, 4, 7);
        x.base(994, 190, 0);
        Check.due("up to 3", x.reach(0), 1);
        Check.row("up to 3", x, 1, 3);
    }
}
