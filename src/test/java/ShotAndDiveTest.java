/** Promises 29 to 32: shots, dives. */
public final class ShotAndDiveTest {
    public static void main(String[] args) {
        shot();
        wrongShots();
        dive();
        diveEdges();
        diveByMoment();
        forward();
        wrongForwards();
        carry();
        Check.finish("ShotAndDiveTest");
    }

    private static void shot() {
        HundredMenAft x = new HundredMenAft();
        x.load(3, 50, 0, 20, 20);
        x.load(0, 40, 0, 100, 0);
        Check.due("shot", x.shot(0, 10, 2, 4, 1), 5);
        Check.row("shot", x, 10 + 10 + 10 + 6 + 2, -500 * 3 - 340 - 180);
        Check.due("shots left", x.of(0, 4), 10);
        Check.due("the tank", x.of(1, 4), 10);
        Check.due("all in at once", x.shot(0, 2, 0, 2, 1), 1);
        Check.row("all in at once", x, 2, -100);
        Check.due("one a second", x.shot(0, 3, 0, 1, 1), 3);
        Check.row("one a second", x, 3 + 2 + 1, -150 - 110 - 70);
        Check.due("late", x.shot(0, 1, 60, 99, 1), 61);
        Check.row("late", x, 61, -50 * 61);
        x.base(5, 100, 0);
        Check.due("the last ones", x.shot(0, 4, 1, 3, 1), 3);
        Check.row("the last ones", x, 4 + 4 + 1, -200 - 200 - 80);
        Check.due("none left", x.shot(0, 1, 0, 1, 1), -1);
        HundredMenAft y = new HundredMenAft();
        y.load(3, 99, 0, 999, 999);
        y.load(0, -99, 0, 999, 0);
        Check.due("the longest", y.shot(0, 999, 60, 1, 1), 1059);
        Check.row("the longest", y, 60 * 999 + 999 * 1000 / 2, 60 * -99 * 999 - 99 * (999 * 999 + 998 * 999 / 2));
    }

    private static void wrongShots() {
        HundredMenAft x = new HundredMenAft();
        x.load(3, 50, 0, 20, 10);
        x.load(0, 40, 0, 12, 5);
        x.load(1, 40, 0, 100, 0);
        x.reach(0);
        int[][] wrong = {{0, 0, 0, 1, 1}, {0, 11, 0, 1, 1}, {0, -1, 0, 1, 1}, {0, 1, -1, 1, 1}, {0, 1, 61, 1, 1},
            {0, 1, 0, 0, 1}, {0, 1, 0, 100, 1}, {0, 1, 0, 1, 0}, {0, 1, 0, 1, 2}, {1, 1, 0, 1, 1}, {3, 1, 0, 1, 1},
            {-1, 1, 0, 1, 1}, {0, 1, 0, 1, 3}, {0, 1, 0, 1, -1}};
        for (int[] w : wrong) {
            Check.due("wrong shot", x.shot(w[0], w[1], w[2], w[3], w[4]), -1);
        }
        Check.due("no room", x.shot(0, 8, 0, 1, 1), -2);
        Check.due("nothing changes", x.of(0, 4), 10);
        Check.due("nothing changes", x.of(1, 4), 5);
        Check.due("just room", x.shot(0, 7, 0, 99, 1), 1);
        Check.due("the tank is full", x.of(1, 4), 12);
    }

    private static void dive() {
        HundredMenAft x = new HundredMenAft();
        x.base(1059, 0, 0);
        Check.due("no second", x.dive(5, 5, 0), 50);
        Check.row("no second", x, 0, 0);
        Check.due("59 by 20 is cut to 2", x.dive(5, 6, 1), 52);
        Check.row("59 by 20 is cut to 2", x, 2, -1);
        Check.due("2 + 4 + 6", x.dive(5, 6, 3), 62);
        Check.row("2 + 4 + 6", x, 6, 3);
        Check.due("put to 30", x.dive(0, 600, 20), 2 * 15 * 16 / 2 + 5 * 30);
        Check.row("put to 30", x, 30, -1);
        Check.due("put to the deepest", x.dive(590, 600, 30), 6000);
        Check.row("put to the deepest", x, 0, 10);
        Check.due("it goes on behind the target", x.dive(0, 1, 10), 110);
        Check.row("it goes on behind the target", x, 20, 3);
        Check.due("nothing changes", x.heavy(0), 59);
        Check.due("n 601", x.dive(0, 0, 601), -1);
        Check.due("n -1", x.dive(0, 0, -1), -1);
        Check.due("depth 601", x.dive(601, 0, 1), -1);
        Check.due("depth -1", x.dive(-1, 0, 1), -1);
        Check.due("target 601", x.dive(0, 601, 1), -1);
        Check.due("target -1", x.dive(0, -1, 1), -1);
        Check.row("as it was", x, 20, 3);
    }

    private static void diveEdges() {
        HundredMenAft x = new HundredMenAft();
        x.base(981, 0, 0);
        Check.due("-19 by 20 is cut to 0", x.dive(5, 5, 600), 50);
        x.base(980, 0, 0);
        Check.due("up", x.dive(1, 2, 3), 4);
        Check.row("up", x, -3, -1);
        Check.due("just at 0 it still has its speed", x.dive(1, 2, 4), 0);
        Check.row("just at 0 it still has its speed", x, -4, -1);
        Check.due("put to 0", x.dive(1, 2, 5), 0);
        Check.row("put to 0", x, 0, -1);
        Check.due("1 + 2 + 3 is above 5 tenths", x.dive(0, 0, 600), 0);
        Check.row("at the target at first", x, 0, 0);
        HundredMenAft y = new HundredMenAft();
        y.base(1000, 0, 0);
        y.layer(1, 960);
        Check.due("above the layer, at rest", y.dive(0, 5, 9), 0);
        Check.due("from the layer on", y.dive(1, 5, 2), 16);
        y.base(1020, 0, 0);
        Check.due("whole metres, cut: 9 tenths are above it", y.dive(0, 600, 4), 10);
        Check.due("11 tenths are in it", y.dive(0, 600, 5), 10 + 4 + 3);
        Check.row("11 tenths are in it", y, 7, -1);
    }

    private static void diveByMoment() {
        HundredMenAft x = new HundredMenAft();
        x.base(1000, 1999, 0);
        Check.due("1999 by 2000 is cut", x.dive(10, 11, 5), 100);
        x.base(1000, 4001, 0);
        Check.due("2 a second", x.dive(10, 11, 3), 112);
        Check.row("2 a second", x, 6, 3);
        x.base(1000, -4001, 0);
        Check.due("up", x.dive(10, 11, 3), 88);
        x.base(1039, -2000, 0);
        Check.due("each is cut by itself", x.dive(10, 11, 3), 100);
        x.base(99999, 999999, 0);
        Check.due("far", x.dive(0, 3, 1), 30);
        Check.row("far", x, 30, 1);
    }

    private static void forward() {
        HundredMenAft x = new HundredMenAft();
        x.load(2, -50, 0, 100, 100);
        x.load(2, 50, 0, 60, 10);
        x.base(890, 4500, 0);
        Check.due("nobody gets it down", x.dive(0, 10, 20), 0);
        Check.due("20 to push by 1, 40 by 2", x.forward(0, 1, 0, 10, 20), 20);
        Check.row("the second", x, 14);
        Check.due("faster", x.forward(0, 1, 0, 10, 13), 40);
        Check.row("the second", x, 10);
        Check.due("no room for more", x.forward(0, 1, 0, 10, 9), -2);
        Check.due("the other way none helps", x.forward(1, 0, 0, 10, 20), -2);
        Check.row("as it was", x, 10);
        Check.due("there at first", x.forward(1, 0, 10, 10, 0), 0);
        Check.row("there at first", x, 0);
        Check.due("nothing changes", x.of(0, 4), 100);
        Check.due("nothing changes", x.of(1, 4), 10);
        x.base(890, 6500, 0);
        Check.due("no one has to run", x.forward(0, 1, 0, 10, 20), 0);
        Check.row("no one has to run", x, 14);
    }

    private static void wrongForwards() {
        HundredMenAft x = new HundredMenAft();
        x.load(2, -50, 0, 100, 100);
        x.load(2, 50, 0, 100, 10);
        x.load(1, 50, 0, 100, 10);
        int[][] wrong = {{0, 0, 0, 0, 1}, {0, 2, 0, 0, 1}, {2, 0, 0, 0, 1}, {0, 3, 0, 0, 1}, {-1, 0, 0, 0, 1},
            {0, -1, 0, 0, 1}, {0, 1, 601, 0, 1}, {0, 1, -1, 0, 1}, {0, 1, 0, 601, 1}, {0, 1, 0, -1, 1},
            {0, 1, 0, 0, 601}, {0, 1, 0, 0, -1}};
        for (int[] w : wrong) {
            Check.due("wrong forward", x.forward(w[0], w[1], w[2], w[3], w[4]), -1);
        }
    }

    private static void carry() {
        HundredMenAft x = new HundredMenAft();
        x.load(2, 0, 0, 100, 60);
        x.load(2, 0, 0, 50, 20);
        x.load(1, 0, 0, 50, 20);
        x.load(1, 0, 0, 50, 20);
        x.load(0, 0, 0, 50, 20);
        x.load(0, 0, 0, 50, 20);
        x.load(3, 0, 0, 50, 20);
        x.load(3, 0, 0, 50, 20);
        Check.due("men", x.carry(0, 1, 30), true);
        Check.due("from", x.of(0, 4), 30);
        Check.due("to", x.of(1, 4), 50);
        Check.due("no room", x.carry(0, 1, 1), false);
        Check.due("stores", x.carry(2, 3, 20), true);
        Check.due("none left", x.carry(2, 3, 1), false);
        Check.due("tanks", x.carry(4, 5, 1), false);
        Check.due("shots", x.carry(6, 7, 1), false);
        Check.due("men to a store", x.carry(0, 2, 1), false);
        Check.due("a store to men", x.carry(3, 0, 1), false);
        Check.due("the same", x.carry(3, 3, 1), false);
        Check.due("0", x.carry(3, 2, 0), false);
        Check.due("below 0", x.carry(3, 2, -1), false);
        Check.due("more than it has", x.carry(3, 2, 41), false);
        Check.due("no such load", x.carry(0, 8, 1), false);
        Check.due("no such load", x.carry(-1, 0, 1), false);
        Check.due("all", x.carry(3, 2, 40), true);
        Check.due("one", x.carry(2, 3, 1), true);
    }
}
