/** Promises 38 to 41: air. */
public final class AirTest {
    public static void main(String[] args) {
        air();
        blow();
        rise();
        riseAmongEqualOnes();
        wrongRises();
        times();
        Check.finish("AirTest");
    }

    private static void air() {
        HundredMenAft x = new HundredMenAft();
        Check.due("air", x.air(99999), 0);
        Check.due("air", x.air(0), 99999);
        Check.due("air", x.air(7), 0);
        Check.due("above", x.air(100000), -1);
        Check.due("below", x.air(-1), -1);
        Check.due("count", x.count(6), 7);
    }

    private static void blow() {
        HundredMenAft x = new HundredMenAft();
        x.load(0, 0, 0, 100, 30);
        x.load(1, 0, 0, 100, 30);
        x.load(0, 0, 0, 100, 7);
        Check.due("no air", x.blow(0, 0), -2);
        x.air(29);
        Check.due("one less", x.blow(0, 0), -2);
        Check.due("nothing changes", x.of(0, 4), 30);
        Check.due("nothing changes", x.count(6), 29);
        x.air(100);
        Check.due("at the surface", x.blow(0, 0), 70);
        Check.due("it is empty", x.of(0, 4), 0);
        Check.due("an empty one", x.blow(0, 600), 70);
        Check.due("7 times 15 by 10, cut up", x.blow(2, 5), 70 - 11);
        x.fill(2, 10);
        Check.due("10 times 25 by 10", x.blow(2, 15), 59 - 25);
        x.fill(2, 1);
        x.air(61);
        Check.due("just enough", x.blow(2, 600), 0);
        Check.due("a store", x.blow(1, 0), -1);
        Check.due("no load", x.blow(3, 0), -1);
        Check.due("no load", x.blow(-1, 0), -1);
        Check.due("601", x.blow(0, 601), -1);
        Check.due("-1", x.blow(0, -1), -1);
    }

    private static HundredMenAft boat(int weight, int... tanks) {
        HundredMenAft x = new HundredMenAft();
        for (int has : tanks) {
            x.load(0, 0, 0, 999, has);
        }
        x.base(weight, 0, 0);
        x.air(99999);
        return x;
    }

    private static void rise() {
        HundredMenAft x = boat(900, 50, 30, 60, 10);
        Check.due("heavy", x.heavy(0), 50);
        Check.due("60 alone, 30 and 10 are too few", x.rise(15, 0), 1);
        Check.row("60 alone", x, 4, 99999 - 60);
        Check.due("without it 50 and 10", x.rise(11, 0), 2);
        Check.row("without it 50 and 10", x, 9, 99999 - 60);
        Check.due("one that is too small", x.rise(8, 0), -2);
        Check.due("just 0 is not below 0", x.rise(1, 0), -2);
        Check.due("nothing changes", x.of(2, 4), 60);
        Check.due("nothing changes", x.count(6), 99999);
        x.air(59);
        Check.due("air is less for each", x.rise(15, 0), -2);
        Check.row("as it was", x, 9, 99999 - 60);
        x.air(60);
        Check.due("air just is enough", x.rise(15, 0), 1);
        Check.row("air just is enough", x, 4, 0);
        x.base(849, 0, 0);
        x.air(3);
        Check.due("below 0 as it is", x.rise(15, 0), 0);
        Check.row("below 0 as it is", x, 0, 3);
    }

    private static void riseAmongEqualOnes() {
        HundredMenAft x = boat(939, 30, 10, 20, 20, 20);
        Check.due("heavy", x.heavy(0), 39);
        Check.due("of 40 two tanks, the least bits", x.rise(31, 0), 2);
        Check.row("of 40 two tanks, the least bits", x, 3, 99999 - 40);
        Check.due("20 and 20", x.rise(30, 0), 2);
        Check.row("20 and 20", x, 12, 99999 - 40);
        HundredMenAft y = boat(972, 11, 11, 11, 22);
        Check.due("heavy", y.heavy(0), 27);
        y.hull(1005, 0);
        Check.due("each one's air is cut up: 12 and 12 against 23", y.rise(15, 1 - 1), 2);
        Check.row("33 by the fewest", y, 9, 99999 - 33);
        HundredMenAft z = boat(979, 11, 11, 22, 1);
        Check.due("heavy", z.heavy(0), 24);
        z.hull(1003, 0);
        Check.due("22 at 1 metre costs 25, 11 and 11 cost 26", z.rise(7, 1), 1);
        Check.row("22 at 1 metre costs 25, 11 and 11 cost 26", z, 4, 99999 - 25);
    }

    private static void wrongRises() {
        HundredMenAft x = boat(0, 5, 5, 5, 5, 5, 5, 5, 5, 5);
        x.load(2, 0, 0, 5, 5);
        Check.due("8 of them", x.rise(255, 0), 0);
        Check.due("9 of them", x.rise(511, 0), -1);
        Check.due("none told", x.rise(0, 0), -1);
        Check.due("men", x.rise(512, 0), -1);
        Check.due("not there", x.rise(1024 + 1, 0), -1);
        Check.due("the highest bit", x.rise(Integer.MIN_VALUE | 1, 0), -1);
        Check.due("all bits", x.rise(-1, 0), -1);
        Check.due("601", x.rise(1, 601), -1);
        Check.due("-1", x.rise(1, -1), -1);
    }

    private static void times() {
        HundredMenAft x = new HundredMenAft();
        x.load(0, 0, 0, 11, 0);
        x.load(0, 0, 0, 11, 3);
        x.load(0, 0, 0, 0, 0);
        x.load(1, 0, 0, 9, 0);
        x.air(100);
        Check.due("11 each time", x.times(1, 0), 9);
        Check.row("11 each time", x, 1);
        Check.due("12.1 is cut up to 13 for each", x.times(3, 1), 3);
        Check.row("12.1 is cut up to 13 for each", x, 100 - 78);
        Check.due("with one that holds nothing", x.times(7, 0), 4);
        Check.row("with one that holds nothing", x, 12);
        Check.due("all hold nothing", x.times(4, 0), -1);
        Check.due("none told", x.times(0, 0), -1);
        Check.due("a store", x.times(9, 0), -1);
        Check.due("not there", x.times(17, 0), -1);
        Check.due("below 0", x.times(-1, 0), -1);
        Check.due("601", x.times(1, 601), -1);
        Check.due("-1", x.times(1, -1), -1);
        Check.row("as it was", x, 12);
        x.air(10);
        Check.due("not once", x.times(1, 0), 0);
        Check.row("not once", x, 10);
        x = new HundredMenAft();
        x.load(1, 0, 0, 5, 5);
        x.load(0, 0, 0, 1, 1);
        x.air(10);
        Check.due("1 each time", x.times(2, 0), 10);
        Check.due("the first is a store", x.times(3, 0), -1);
        Check.due("the first is a store", x.rise(3, 0), -1);
        HundredMenAft y = boat(0, 1, 1, 1, 1, 1, 1, 1, 1, 1, 1, 1, 1, 1, 1, 1);
        Check.due("15 of them", y.times(32767, 0), 99999 / (15 * 999));
        Check.due("nothing changes", y.count(6), 99999);
    }
}
