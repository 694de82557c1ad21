/** Promises 46 and 47: the ground, ice. */
public final class GroundTest {
    public static void main(String[] args) {
        ground();
        groundEdges();
        ice();
        iceEdges();
        Check.finish("GroundTest");
    }

    private static void ground() {
        HundredMenAft x = new HundredMenAft();
        x.load(0, 0, 0, 100, 30);
        x.load(1, 0, 0, 100, 90);
        x.load(0, 5, 0, 100, 50);
        x.load(0, -5, 0, 100, 50);
        x.base(800, 0, 0);
        Check.due("heavy", x.heavy(0), 20);
        Check.due("21", x.ground(0, 0), 21);
        Check.row("of the first of the fullest", x, 30, 29, 50);
        Check.due("with mud", x.ground(0, 49), 70);
        Check.row("with mud", x, 30, 0, 30);
        Check.due("all three", x.ground(0, 89), 110);
        Check.row("all three", x, 20, 0, 0);
        Check.due("all of it", x.ground(0, 109), 130);
        Check.row("all of it", x, 0, 0, 0);
        Check.due("all tanks do not", x.ground(0, 110), -2);
        Check.row("as it was", x, 0, 0, 0);
        Check.due("nothing changes", x.of(2, 4), 50);
        x.layer(10, 1050);
        Check.due("at a depth it is below 0", x.ground(10, 0), 0);
        Check.row("nothing has to", x, 30, 50, 50);
        Check.due("below 0 but not below 0 less mud", x.ground(10, 30), 1);
        Check.due("just not", x.ground(10, 29), 0);
    }

    private static void groundEdges() {
        HundredMenAft x = new HundredMenAft();
        Check.due("light, no tanks", x.ground(0, 999), 0);
        Check.row("light, no tanks", x);
        x.base(1, 0, 0);
        Check.due("just held", x.ground(0, 999), -2);
        Check.due("mud 1000", x.ground(0, 1000), -1);
        Check.due("mud -1", x.ground(0, -1), -1);
        Check.due("601", x.ground(601, 0), -1);
        Check.due("-1", x.ground(-1, 0), -1);
    }

    private static void ice() {
        HundredMenAft x = new HundredMenAft();
        x.base(900, 0, 0);
        Check.due("5 a second more: 5 10 15 20, from 100 to 50", x.ice(10, 5), 0);
        Check.row("20 times 900 by 100 is 180, 250 are due", x, 4, 180);
        Check.due("thinner: 5 10 15 20 25 to 25, 30 to 0", x.ice(10, 3), 1);
        Check.row("thinner", x, 5, 225);
        Check.due("from far", x.ice(100, 5), 1);
        Check.row("from far", x, 35, 270);
        Check.due("nothing changes", x.heavy(0), -100);
        HundredMenAft y = new HundredMenAft();
        y.base(980, 0, 0);
        Check.due("just thick metres deep", y.ice(2, 1), 0);
        Check.row("just thick metres deep", y, 4, 39);
        y.hull(1285, 0);
        y.base(1250, 0, 0);
        Check.due("just enough", y.ice(2, 1), 1);
        Check.row("just enough", y, 4, 50);
    }

    private static void iceEdges() {
        HundredMenAft x = new HundredMenAft();
        x.base(1000, 0, 0);
        Check.due("it stays", x.ice(10, 5), 0);
        Check.row("it stays", x, -1, 0);
        x.base(1100, 0, 0);
        Check.due("it sinks", x.ice(10, 5), 0);
        Check.row("it sinks", x, -1, 0);
        Check.due("not below the ice", x.ice(5, 5), -1);
        Check.due("above it", x.ice(4, 5), -1);
        Check.due("thick 0", x.ice(10, 0), -1);
        Check.due("thick 21", x.ice(30, 21), -1);
        Check.due("601", x.ice(601, 5), -1);
        Check.due("-1", x.ice(-1, 5), -1);
        x.base(1000, -2000, 0);
        Check.due("aft heavy comes up", x.ice(21, 20), 0);
        Check.row("aft heavy comes up", x, 4, 40);
        x.base(980, 2000, 0);
        Check.due("held down by men forward", x.ice(21, 20), 0);
        Check.row("held down by men forward", x, -1, 0);
        HundredMenAft y = new HundredMenAft();
        y.base(900, 0, 0);
        Check.due("put to 0 behind the last second: no speed", y.ice(9, 1), 0);
        Check.row("90 85 75 60 40 15, 0", y, 6, 0);
        Check.due("not put to 0", y.ice(8, 1), 1);
        HundredMenAft z = new HundredMenAft();
        z.base(1000, 0, 0);
        z.layer(595, 1020);
        Check.due("ten seconds in the layer, then 10 a second", z.ice(600, 5), 0);
        Check.row("second 600", z, 600, 100);
        Check.due("second 601", z.ice(600, 4), 0);
        Check.row("second 601", z, -1, 0);
        Check.row("80 75 65 50 30 5", y, 5, 25 * 9);
    }
}
