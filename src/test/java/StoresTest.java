/** Promises 42 to 45: stores. */
public final class StoresTest {
    public static void main(String[] args) {
        eats();
        days();
        waste();
        lasts();
        shift();
        shiftOfEqualOnes();
        shiftAsLongAsEver();
        Check.finish("StoresTest");
    }

    private static void eats() {
        HundredMenAft x = new HundredMenAft();
        x.load(1, 0, 0, 100, 100);
        x.load(0, 0, 0, 100, 0);
        x.load(1, 0, 0, 100, 0);
        x.load(2, 0, 0, 100, 0);
        x.load(3, 0, 0, 100, 0);
        Check.due("to a tank", x.eats(0, 0, 0, 1), true);
        Check.due("to a store", x.eats(0, 50, 100, 2), true);
        Check.due("out", x.eats(0, 50, 100, -1), true);
        int[][] wrong = {{1, 1, 1, -1}, {3, 1, 1, -1}, {5, 1, 1, -1}, {-1, 1, 1, -1}, {0, -1, 1, -1}, {0, 51, 1, -1},
            {0, 1, -1, -1}, {0, 1, 101, -1}, {0, 1, 1, 0}, {0, 1, 1, 3}, {0, 1, 1, 4}, {0, 1, 1, 5}, {0, 1, 1, -2}};
        for (int[] w : wrong) {
            Check.due("wrong eats", x.eats(w[0], w[1], w[2], w[3]), false);
        }
        x.days(1);
        Check.due("the last one told goes", x.of(0, 4), 50);
        x.eats(0, 1, 0, -1);
        x.days(1);
        Check.due("told anew", x.of(0, 4), 49);
    }

    private static void days() {
        HundredMenAft x = new HundredMenAft();
        x.load(1, 0, 0, 100, 10);
        x.load(1, 0, 0, 100, 100);
        x.load(1, 0, 0, 100, 0);
        x.load(2, 0, 0, 100, 0);
        Check.due("no day: one is empty", x.days(0), 1);
        Check.due("no eating", x.days(400), 1);
        Check.due("the day", x.count(7), 400);
        x.eats(0, 3, 0, -1);
        x.eats(1, 2, 0, -1);
        Check.due("three days", x.days(3), 1);
        Check.due("10 less 9", x.of(0, 4), 1);
        Check.due("all that is left", x.days(1), 2);
        Check.due("none left", x.of(0, 4), 0);
        Check.due("100 less 8", x.of(1, 4), 92);
        Check.due("the day", x.count(7), 404);
        Check.due("401", x.days(401), -1);
        Check.due("-1", x.days(-1), -1);
        Check.due("the day", x.count(7), 404);
    }

    private static void waste() {
        HundredMenAft x = new HundredMenAft();
        x.load(1, 0, 0, 100, 50);
        x.load(0, 0, 0, 20, 0);
        x.load(1, 0, 0, 100, 2);
        x.eats(0, 7, 50, 1);
        x.days(1);
        Check.due("3.5 is cut", x.of(1, 4), 3);
        x.days(6);
        Check.due("above the room it is lost", x.of(1, 4), 20);
        Check.due("eaten", x.of(0, 4), 1);
        x.days(1);
        Check.due("of the last one 0", x.of(0, 4), 0);
        x.fill(0, 50);
        x.eats(0, 10, 100, 2);
        x.eats(2, 12, 100, 0);
        x.days(1);
        Check.due("in order: 2 and 10, then 12 go back", x.of(0, 4), 52);
        Check.due("in order", x.of(2, 4), 0);
        x.eats(2, 0, 0, -1);
        x.days(1);
        Check.due("one way", x.of(2, 4), 10);
        x.fill(2, 95);
        x.days(1);
        Check.due("a full store", x.of(2, 4), 100);
    }

    private static void lasts() {
        HundredMenAft x = new HundredMenAft();
        x.load(0, 0, 0, 100, 0);
        x.load(1, 0, 0, 500, 300);
        x.base(700, 0, 0);
        x.eats(1, 10, 0, -1);
        x.slack(1, 0);
        x.hover(0, 0);
        int numbers = x.count(8);
        Check.due("105 may go", x.lasts(0), 11);
        Check.due("the row is not told", x.count(8), numbers);
        Check.due("nothing changes", x.of(1, 4), 300);
        Check.due("nothing changes", x.count(7), 0);
        x.days(4);
        Check.due("from now", x.lasts(0), 7);
        x.base(600, 0, 0);
        Check.due("at once", x.lasts(0), 0);
        x.base(700, 0, 0);
        x.eats(1, 0, 0, -1);
        Check.due("none", x.lasts(0), -2);
        Check.due("601", x.lasts(601), -1);
        Check.due("-1", x.lasts(-1), -1);
        HundredMenAft y = new HundredMenAft();
        y.load(0, 0, 0, 500, 0);
        y.load(1, 0, 0, 500, 410);
        y.eats(1, 1, 0, -1);
        y.base(590 + 395, 0, 0);
        y.load(0, 0, 0, 0, 0);
        y.fill(1, 410);
        Check.due("too heavy at first", y.lasts(0), 0);
        y.base(590, 0, 0);
        y.fill(0, 0);
        Check.due("500 stand for all that is eaten", y.lasts(0), -2);
        HundredMenAft z = new HundredMenAft();
        z.load(0, 0, 0, 395, 0);
        z.load(1, 0, 0, 500, 500);
        z.base(500, 0, 0);
        z.eats(1, 1, 0, -1);
        Check.due("on day 401 it would", z.lasts(0), -2);
        z.fill(1, 499);
        Check.due("on day 400", z.lasts(0), 400);
    }

    private static void shift() {
        HundredMenAft x = new HundredMenAft();
        x.load(0, 0, 0, 999, 0);
        x.load(1, 10, 0, 100, 100);
        x.load(1, 0, 0, 250, 100);
        x.load(1, -10, 0, 100, 50);
        x.base(750, -600, 0);
        x.slack(1, 400);
        x.eats(1, 5, 0, -1);
        Check.due("as it is", x.moment(0), -100);
        Check.due("as it is", x.lasts(0), 7);
        Check.due("the one aft to the middle: ten days more", x.shift(0), 17);
        Check.row("the one aft to the middle", x, 3, 2);
        Check.due("nothing changes", x.of(1, 4), 100);
        Check.due("nothing changes", x.of(2, 4), 100);
        Check.due("nothing changes", x.of(3, 4), 50);
        Check.due("nothing changes", x.count(7), 0);
        Check.due("601", x.shift(601), -1);
        Check.due("-1", x.shift(-1), -1);
        Check.row("as it was", x, 3, 2);
    }

    private static void shiftOfEqualOnes() {
        HundredMenAft x = new HundredMenAft();
        x.load(1, 10, 0, 100, 10);
        Check.due("one store", x.shift(0), -2);
        x.load(1, 10, 0, 9, 0);
        Check.due("no room, nothing in the other", x.shift(0), -2);
        x.load(2, 10, 0, 100, 10);
        Check.due("men are no store", x.shift(0), -2);
        x.load(1, 10, 0, 100, 10);
        Check.due("all at once", x.shift(0), 0);
        Check.row("the first pair", x, 0, 3);
        x.fill(0, 9);
        Check.due("just the room", x.shift(0), 0);
        Check.row("just the room", x, 0, 1);
    }

    private static void shiftAsLongAsEver() {
        HundredMenAft x = new HundredMenAft();
        x.load(0, 0, 0, 999, 0);
        x.load(1, 30, 0, 100, 10);
        x.load(1, 0, 0, 100, 0);
        x.load(1, 1, 0, 100, 0);
        x.base(900, -300, 0);
        x.eats(1, 1, 0, -1);
        Check.due("as it is", x.lasts(0), 7);
        Check.due("too far aft at once", x.shift(0), 0);
        x.base(900, -200, 0);
        Check.due("none to an end", x.shift(0), -1);
        Check.row("none to an end: the first pair", x, 1, 2);
        HundredMenAft y = new HundredMenAft();
        y.load(0, 0, 0, 395, 0);
        y.load(1, 0, 0, 999, 999);
        y.load(1, 0, 0, 10, 10);
        y.load(1, 0, 0, 5, 0);
        y.load(1, 0, 0, 10, 0);
        y.hull(1010, 0);
        y.eats(1, 1, 0, -1);
        Check.due("as it is", y.lasts(0), 400);
        Check.due("day 400", y.shift(0), 400);
        Check.row("day 400", y, 2, 4);
        y.hull(1009, 0);
        Check.due("day 401", y.shift(0), -1);
    }
}
