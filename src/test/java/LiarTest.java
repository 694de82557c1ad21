/** Promises 22 and 23: whose count is a lie. */
public final class LiarTest {
    public static void main(String[] args) {
        liar();
        two();
        twoByManyNumbers();
        Check.finish("LiarTest");
    }

    private static HundredMenAft boat() {
        HundredMenAft x = new HundredMenAft();
        x.load(0, 10, 1, 100, 40);
        x.load(1, 10, 1, 50, 50);
        x.load(2, -20, 0, 100, 10);
        x.hull(100, 0);
        return x;
    }

    private static void liar() {
        HundredMenAft x = boat();
        Check.due("nothing is wrong", x.liar(0, 0, 700, 90), 7);
        Check.row("nothing is wrong", x, 40, 50, 10);
        Check.due("one less", x.liar(0, -1, 690, 89), 3);
        Check.row("one less", x, 39, 49, -1);
        Check.due("one more: no room", x.liar(0, 1, 710, 91), 1);
        Check.row("one more: no room", x, 41, -1, -1);
        Check.due("the men", x.liar(0, -10, 900, 90), 4);
        Check.row("the men", x, -1, -1, 0);
        Check.due("below 0", x.liar(0, -11, 920, 90), 0);
        Check.row("below 0", x, -1, -1, -1);
        Check.due("to the most", x.liar(0, 60, 1300, 150), 1);
        Check.due("above the most", x.liar(0, 61, 1310, 151), 0);
        Check.due("another list", x.liar(0, -1, 690, 90), 0);
        Check.due("another moment", x.liar(0, -1, 691, 89), 0);
        Check.due("far off", x.liar(0, Integer.MIN_VALUE, Integer.MAX_VALUE, 0), 0);
        Check.due("far off", x.liar(0, Integer.MAX_VALUE, Integer.MIN_VALUE, 0), 0);
        x.layer(10, 1100);
        Check.due("at a depth", x.liar(10, -11, 690, 89), 3);
        Check.due("601", x.liar(601, 0, 0, 0), -1);
        Check.due("-1", x.liar(-1, 0, 0, 0), -1);
        Check.due("none there", new HundredMenAft().liar(0, 0, 0, 0), 0);
    }

    private static void two() {
        HundredMenAft x = boat();
        Check.due("40 to 37, 10 to 13", x.two(0, 0, 700 - 30 - 60, 87), 2);
        Check.row("the first pair", x, 0, 2, 37, 13);
        x.fill(1, 2);
        x.hull(52, 0);
        Check.due("the second has too few", x.two(0, 0, 220 - 30 - 60, 39), 1);
        Check.row("the second has too few", x, 0, 2, 37, 13);
        Check.due("as it is, but both alike by other numbers", x.two(0, 0, 220, 42), 1);
        Check.row("the least of a", x, 0, 1, 0, 42);
        Check.due("none", x.two(0, 0, 221, 42), 0);
        Check.row("none", x);
        Check.due("far off", x.two(0, Integer.MIN_VALUE, Integer.MIN_VALUE, Integer.MAX_VALUE), 0);
        Check.due("601", x.two(601, 0, 0, 0), -1);
        Check.due("-1", x.two(-1, 0, 0, 0), -1);
    }

    private static void twoByManyNumbers() {
        HundredMenAft x = new HundredMenAft();
        x.load(0, 5, 2, 10, 0);
        x.load(0, 5, 2, 10, 9);
        Check.due("one more, both unlike", x.two(0, 1 + 9 - 1000, 50, 20), 1);
        Check.row("0 and 10, then 1 and 9 are as now", x, 0, 1, 2, 8);
        Check.due("as it is", x.two(0, 9 - 1000, 45, 18), 1);
        Check.row("as it is", x, 0, 1, 1, 8);
        Check.due("all that both hold", x.two(0, 20 - 1000, 100, 40), 1);
        Check.row("all that both hold", x, 0, 1, 10, 10);
        Check.due("more", x.two(0, 21 - 1000, 105, 42), 0);
        Check.due("nothing: a has 0 now", x.two(0, 0 - 1000, 0, 0), 0);
    }
}
