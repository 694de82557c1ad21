/** The document's sentences that name an edge, one by one: promises 24 to 32. */
public final class EdgePumpTest {
    public static void main(String[] args) {
        atMostSixPumps();
        runAllOfItOrNot();
        runTheSeaHasAll();
        bestAsItCan();
        bestOfEqualOnes();
        trimIfItIsBalanced();
        trimByListAndMoment();
        trimFromTanksToTheSea();
        trimAsTheSecondCan();
        trimTheLeastRow();
        trimOfSixPumps();
        trimOnlyQuietOnes();
        trimAtMostNinetyNine();
        trimAtADepth();
        reachFarthestFirst();
        reachOfNoTanks();
        reachLeastAndGreatest();
        shotTillItIsAllIn();
        shotRoomAndNone();
        diveIsPut();
        diveAtTheTarget();
        diveIsCut();
        forwardTheFewest();
        forwardAtItsEdges();
        carryAtItsEdges();
        Check.finish("EdgePumpTest");
    }

    private static HundredMenAft tanks(int... mostAndHas) {
        HundredMenAft x = new HundredMenAft();
        for (int i = 0; i < mostAndHas.length; i += 2) {
            x.load(0, 0, 0, mostAndHas[i], mostAndHas[i + 1]);
        }
        x.slack(0, 0);
        return x;
    }

    /** A hull with which the boat is just so heavy. */
    private static void weigh(HundredMenAft x, int heavy) {
        int weight = 300;
        for (int i = 0; i < x.count(0); i++) {
            weight += x.of(i, 4);
        }
        x.base(300, 0, 0);
        x.hull(weight - heavy, 0);
        Check.due("it is just so heavy", x.heavy(0), heavy);
    }

    private static void atMostSixPumps() {
        HundredMenAft x = tanks(9, 5, 9, 5);
        x.load(1, 0, 0, 9, 5);
        x.load(2, 0, 0, 9, 5);
        x.load(3, 0, 0, 9, 5);
        Check.due("TANKS there are: a STORE", x.pump(-1, 2, 1, true), -1);
        Check.due("TANKS there are: MEN", x.pump(3, 0, 1, true), -1);
        Check.due("TANKS there are: a SHOT", x.pump(0, 4, 1, true), -1);
        Check.due("TANKS there are: not there", x.pump(0, 5, 1, true), -1);
        Check.due("unlike ends: a TANK", x.pump(1, 1, 1, true), -1);
        Check.due("unlike ends: the sea", x.pump(-1, -1, 1, true), -1);
        Check.due("RATE 0", x.pump(0, 1, 0, true), -1);
        Check.due("RATE 51", x.pump(0, 1, 51, true), -1);
        int[][] right = {{-1, 0, 1}, {0, -1, 50}, {0, 1, 1}, {1, 0, 50}, {0, 1, 1}, {-1, 1, 25}};
        for (int i = 0; i < 6; i++) {
            Check.due("its number", x.pump(right[i][0], right[i][1], right[i][2], i % 2 == 0), i);
        }
        Check.due("refused: 6", x.pump(0, 1, 1, true), -1);
        Check.due("PUMPS", x.count(3), 6);
        Check.due("the last one runs", x.run(5, -1), -2);
        Check.due("none such", x.run(6, 1), -1);
    }

    private static void runAllOfItOrNot() {
        HundredMenAft x = tanks(30, 20, 30, 12);
        x.pump(0, 1, 3, true);
        Check.due("18 into a room of 18", x.run(0, 6), 18);
        Check.due("it is full", x.of(1, 4), 30);
        Check.due("2 are left", x.of(0, 4), 2);
        Check.due("the other way: 27 into a room of 28", x.run(0, -9), 27);
        Check.due("the other way: 30 are more than 3", x.run(0, -10), -2);
        Check.due("and 3 more than the room of 1", x.run(0, -1), -2);
        Check.due("nothing was moved", x.of(0, 4), 29);
        Check.due("nothing was moved", x.of(1, 4), 3);
        x.fill(0, 3);
        x.fill(1, 27);
        Check.due("all it HAS into all the room", x.run(0, 1), 3);
        Check.due("it is empty", x.of(0, 4), 0);
        Check.due("it is full", x.of(1, 4), 30);
        x.fill(0, 2);
        x.fill(1, 0);
        Check.due("it HAS one less", x.run(0, 1), -2);
        x.fill(0, 30);
        x.fill(1, 28);
        Check.due("the room is one less", x.run(0, 1), -2);
    }

    private static void runTheSeaHasAll() {
        HundredMenAft x = tanks(999, 0);
        x.pump(-1, 0, 10, true);
        x.pump(0, -1, 50, false);
        Check.due("99 minutes", x.run(0, 99), 990);
        Check.due("the room is 9", x.run(0, 1), -2);
        Check.due("the other way 99 minutes", x.run(0, -99), 990);
        Check.due("it HAS none", x.run(0, -1), -2);
        Check.due("to the sea: it HAS none", x.run(1, 1), -2);
        Check.due("to the sea the other way", x.run(1, -19), 950);
        Check.due("the room is 49", x.run(1, -1), -2);
        Check.due("to the sea", x.run(1, 19), 950);
        Check.due("0 minutes", x.run(0, 0), -1);
        Check.due("100 minutes", x.run(0, 100), -1);
        Check.due("100 the other way", x.run(0, -100), -1);
    }

    private static void bestAsItCan() {
        HundredMenAft x = tanks(999, 0);
        x.pump(-1, 0, 1, true);
        x.best(0, 0);
        Check.row("99 minutes", x, 99, -901, 0);
        x.fill(0, 999);
        x.base(999, 0, 0);
        x.best(0, 0);
        Check.row("99 minutes the other way", x, -99, 899, 0);
        x.fill(0, 3);
        x.best(0, 0);
        Check.row("all it HAS", x, -2, 0, 0);
        x.base(1005, 0, 0);
        x.best(0, 0);
        Check.row("all it HAS is too little", x, -3, 5, 0);
        x.fill(0, 998);
        x.base(0, 0, 0);
        x.best(0, 0);
        Check.row("all the room is too little", x, 1, -1, 0);
        x.fill(0, 999);
        x.hull(2000, 0);
        x.best(0, 0);
        Check.row("no room: not at all", x, 0, -1001, 0);
        x.fill(0, 0);
        x.hull(1, 0);
        x.base(5, 0, 0);
        x.best(0, 0);
        Check.row("nothing in it: not at all", x, 0, 4, 0);
        x.layer(9, 1100);
        x.hull(100, 0);
        x.best(0, 9);
        Check.row("at a DEPTH", x, 99, -6, 0);
        Check.due("nothing changes", x.of(0, 4), 0);
    }

    private static void bestOfEqualOnes() {
        HundredMenAft x = new HundredMenAft();
        x.load(0, 2, 0, 100, 50);
        x.pump(-1, 0, 2, true);
        x.hull(51, 0);
        x.base(0, -102, 0);
        x.best(0, 0);
        Check.row("HEAVY -1 and 1, MOMENT -2 and 2: the fewest minutes", x, 0, -1, -2);
        x.base(0, -103, 0);
        x.best(0, 0);
        Check.row("HEAVY alike, MOMENT -3 and 1", x, 1, 1, 1);
        x.base(0, -101, 0);
        x.best(0, 0);
        Check.row("HEAVY alike, MOMENT -1 and 3", x, 0, -1, -1);
        HundredMenAft y = new HundredMenAft();
        y.load(0, 0, 0, 100, 50);
        y.load(0, 2, 0, 100, 50);
        y.pump(0, 1, 1, true);
        y.base(0, -105, 0);
        y.best(0, 0);
        Check.row("MOMENT -5: -1 and 1 by 2 and 3 minutes", y, 2, -900, -1);
        y.base(0, -95, 0);
        y.best(0, 0);
        Check.row("MOMENT 5: 1 and -1 by 2 and 3 the other way", y, -2, -900, 1);
        y.base(0, -100, 0);
        y.best(0, 0);
        Check.row("MOMENT 0", y, 0, -900, 0);
    }

    private static void trimIfItIsBalanced() {
        HundredMenAft x = tanks(100, 40);
        x.pump(-1, 0, 1, false);
        weigh(x, -3);
        Check.due("3 minutes", x.trim(0, false), 3);
        Check.row("3 minutes", x, 0, 3);
        x.slack(0, 3);
        Check.due("BALANCED: 0", x.trim(0, false), 0);
        Check.row("none", x);
        Check.due("BALANCED: 0, with no QUIET one", x.trim(0, true), 0);
        x.slack(0, 2);
        Check.due("to its SLACK", x.trim(0, false), 1);
        Check.row("to its SLACK", x, 0, 1);
        weigh(x, 3);
        Check.due("to its SLACK the other way", x.trim(0, false), 1);
        Check.row("to its SLACK the other way", x, 0, -1);
        Check.due("-2: no QUIET one", x.trim(0, true), -2);
        Check.due("nothing changes", x.of(0, 4), 40);
        Check.due("no PUMPS", tanks(9, 5).trim(0, false), -2);
    }

    private static void trimByListAndMoment() {
        HundredMenAft x = new HundredMenAft();
        x.load(0, 0, 3, 100, 50);
        x.load(0, 0, -3, 100, 50);
        x.slack(0, 0);
        x.slack(2, 0);
        x.pump(-1, 0, 1, true);
        x.pump(-1, 1, 1, true);
        x.hull(103, 0);
        x.base(0, 0, -3);
        Check.due("3 in all, by LIST two and one", x.trim(0, false), 3);
        Check.row("3 in all, by LIST two and one", x, 0, 2, 1, 1);
        x.base(0, 0, 3);
        x.trim(0, false);
        Check.row("3 in all, by LIST one and two", x, 0, 1, 1, 2);
        x.base(0, 0, -4);
        Check.due("LIST one off", x.trim(0, false), -2);
        x.slack(2, 1);
        Check.due("LIST one off is its SLACK", x.trim(0, false), 3);
        HundredMenAft y = new HundredMenAft();
        y.load(0, 3, 0, 100, 50);
        y.load(0, -3, 0, 100, 50);
        y.slack(0, 0);
        y.slack(1, 0);
        y.pump(-1, 0, 1, true);
        y.pump(-1, 1, 1, true);
        y.hull(103, 0);
        y.base(0, -3, 0);
        Check.due("3 in all, by MOMENT two and one", y.trim(0, false), 3);
        Check.row("3 in all, by MOMENT two and one", y, 0, 2, 1, 1);
        y.base(0, -4, 0);
        Check.due("MOMENT one off", y.trim(0, false), -2);
    }

    private static void trimFromTanksToTheSea() {
        HundredMenAft x = new HundredMenAft();
        x.load(0, 2, 3, 100, 50);
        x.load(0, -2, -3, 100, 50);
        x.slack(0, 0);
        x.slack(1, 0);
        x.slack(2, 0);
        x.pump(0, -1, 1, true);
        x.pump(1, -1, 1, true);
        x.hull(97, 0);
        x.base(0, 2, 3);
        Check.due("3 out, two of the first", x.trim(0, false), 3);
        Check.row("3 out, two of the first", x, 0, 2, 1, 1);
        x.base(0, 2, 4);
        Check.due("LIST one off", x.trim(0, false), -2);
        x.base(0, 3, 3);
        Check.due("MOMENT one off", x.trim(0, false), -2);
        HundredMenAft y = new HundredMenAft();
        y.load(0, 2, 3, 100, 50);
        y.load(0, -2, -3, 100, 50);
        y.slack(0, 0);
        y.slack(1, 0);
        y.slack(2, 0);
        y.pump(-1, 0, 5, true);
        y.pump(0, 1, 1, true);
        y.hull(105, 0);
        y.base(0, 2, 3);
        Check.due("5 in, then 3 from the one to the other", y.trim(0, false), 4);
        Check.row("5 in, then 3 from the one to the other", y, 0, 1, 1, 3);
        y.base(0, 2, 2);
        Check.due("LIST one off", y.trim(0, false), -2);
        y.base(0, 1, 3);
        Check.due("MOMENT one off", y.trim(0, false), -2);
    }

    private static void trimAsTheSecondCan() {
        HundredMenAft x = tanks(10, 5, 10, 5);
        x.pump(-1, 0, 1, true);
        x.pump(-1, 1, 1, true);
        weigh(x, -6);
        Check.due("the second has just the room", x.trim(0, false), 6);
        Check.row("the second has just the room", x, 0, 1, 1, 5);
        x.fill(1, 6);
        weigh(x, -6);
        Check.due("the second has one less", x.trim(0, false), 6);
        Check.row("the second has one less", x, 0, 2, 1, 4);
        HundredMenAft y = tanks(10, 5, 10, 1);
        y.pump(0, -1, 1, true);
        y.pump(1, -1, 1, true);
        weigh(y, 6);
        Check.due("both are emptied", y.trim(0, false), 6);
        Check.row("both are emptied", y, 0, 5, 1, 1);
        y.fill(1, 0);
        weigh(y, 6);
        Check.due("the second HAS none", y.trim(0, false), -2);
        HundredMenAft z = tanks(10, 5, 10, 9);
        z.pump(1, -1, 1, true);
        z.pump(0, -1, 1, true);
        weigh(z, -6);
        Check.due("the other way both are filled", z.trim(0, false), 6);
        Check.row("the other way both are filled", z, 0, -1, 1, -5);
        z.fill(1, 10);
        weigh(z, -6);
        Check.due("the other way the first has no room", z.trim(0, false), -2);
    }

    private static void trimTheLeastRow() {
        HundredMenAft x = tanks(100, 50, 100, 50);
        x.pump(-1, 0, 2, true);
        x.pump(-1, 1, 6, true);
        weigh(x, -4);
        Check.due("[0, 2] and [0, -1, 1, 1] are as few", x.trim(0, false), 2);
        Check.row("-1 is less than 2", x, 0, -1, 1, 1);
        weigh(x, -6);
        Check.due("one minute is fewer", x.trim(0, false), 1);
        Check.row("one minute is fewer", x, 1, 1);
        HundredMenAft y = tanks(100, 50, 100, 50);
        y.slack(0, 2);
        y.pump(-1, 0, 2, true);
        y.pump(-1, 1, 1, true);
        weigh(y, -5);
        Check.due("[0, 2] and [0, 1, 1, 1] are as few", y.trim(0, false), 2);
        Check.row("1 is less than 2, and one minute of the second is enough", y, 0, 1, 1, 1);
        weigh(y, 5);
        Check.due("the other way", y.trim(0, false), 2);
        Check.row("-2 is less than -1", y, 0, -2);
        HundredMenAft w = tanks(100, 50, 100, 50);
        w.slack(0, 2);
        w.pump(0, -1, 2, true);
        w.pump(-1, 1, 1, true);
        weigh(w, 5);
        Check.due("[0, 2] and [0, 1, 1, -1] are as few", w.trim(0, false), 2);
        Check.row("one minute the other way is enough, of five it could", w, 0, 1, 1, -1);
        HundredMenAft z = tanks(100, 50, 100, 50);
        z.pump(-1, 0, 3, true);
        z.pump(-1, 1, 1, true);
        z.pump(-1, 1, 1, true);
        weigh(z, -4);
        Check.due("of alike PUMPS the first", z.trim(0, false), 2);
        Check.row("of alike PUMPS the first", z, 0, 1, 1, 1);
        Check.due("asked again", z.trim(0, false), 2);
        Check.row("the ROW is told anew", z, 0, 1, 1, 1);
    }

    private static void trimOfSixPumps() {
        HundredMenAft x = tanks(999, 500, 999, 500);
        for (int i = 0; i < 4; i++) {
            x.pump(-1, 0, 50, true);
        }
        x.pump(-1, 0, 7, true);
        x.pump(1, -1, 5, true);
        weigh(x, -2);
        Check.due("7 in and 5 out", x.trim(0, false), 2);
        Check.row("7 in and 5 out", x, 4, 1, 5, 1);
        weigh(x, 5);
        Check.due("5 out", x.trim(0, false), 1);
        Check.row("the last one alone", x, 5, 1);
        x.fill(0, 999);
        weigh(x, 2);
        Check.due("7 out and 5 in", x.trim(0, false), 2);
        Check.row("7 out and 5 in", x, 4, -1, 5, -1);
        x.fill(0, 0);
        x.fill(1, 999);
        weigh(x, 3);
        Check.due("5 out twice, then 7 in", x.trim(0, false), 3);
        Check.row("5 out twice, 7 in", x, 4, 1, 5, 2);
    }

    private static void trimOnlyQuietOnes() {
        HundredMenAft x = tanks(100, 50, 100, 50);
        x.pump(-1, 0, 4, false);
        x.pump(-1, 1, 1, true);
        weigh(x, -5);
        Check.due("with loud ones", x.trim(0, false), 2);
        Check.row("with loud ones", x, 0, 1, 1, 1);
        Check.due("only QUIET ones: neither first nor second a loud one", x.trim(0, true), 5);
        Check.row("only QUIET ones", x, 1, 5);
        HundredMenAft y = tanks(100, 50, 100, 50);
        y.pump(-1, 0, 3, true);
        y.pump(-1, 1, 1, false);
        weigh(y, -4);
        Check.due("with loud ones", y.trim(0, false), 2);
        Check.due("only QUIET ones: the second is loud", y.trim(0, true), -2);
    }

    private static void trimAtMostNinetyNine() {
        HundredMenAft x = tanks(999, 400);
        x.pump(-1, 0, 1, true);
        weigh(x, -99);
        Check.due("99 minutes", x.trim(0, false), 99);
        Check.row("99 minutes", x, 0, 99);
        weigh(x, -100);
        Check.due("100 minutes", x.trim(0, false), -2);
        weigh(x, 99);
        Check.due("99 the other way", x.trim(0, false), 99);
        Check.row("99 the other way", x, 0, -99);
        weigh(x, 100);
        Check.due("100 the other way", x.trim(0, false), -2);
        x.pump(0, -1, 1, true);
        Check.due("99 and 1", x.trim(0, false), 100);
        Check.row("99 and 1", x, 0, -99, 1, 1);
        weigh(x, 198);
        Check.due("99 and 99", x.trim(0, false), 198);
        Check.row("99 and 99", x, 0, -99, 1, 99);
        weigh(x, 199);
        Check.due("99 and 100", x.trim(0, false), -2);
    }

    private static void trimAtADepth() {
        HundredMenAft x = tanks(100, 50, 100, 50);
        x.pump(-1, 0, 7, true);
        x.pump(-1, 1, 1, true);
        x.base(900, 0, 0);
        x.layer(600, 1010);
        Check.due("in balance at 599", x.trim(599, false), 0);
        Check.row("in balance at 599", x);
        Check.due("10 in at 600", x.trim(600, false), 4);
        Check.row("10 in at 600", x, 0, 1, 1, 3);
        x.base(910, 0, 0);
        Check.due("in balance at 600", x.trim(600, false), 0);
        Check.row("in balance at 600", x);
        Check.due("10 out at 599", x.trim(599, false), 4);
        Check.row("10 out at 599", x, 0, -1, 1, -3);
        x.base(903, 0, 0);
        Check.due("7 in at 600", x.trim(600, false), 1);
        Check.row("7 in at 600", x, 0, 1);
        Check.due("3 out at 599", x.trim(599, false), 3);
        Check.row("3 out at 599", x, 1, -3);
    }

    private static HundredMenAft threeTanks(int first, int second, int third) {
        HundredMenAft x = new HundredMenAft();
        x.load(0, first, 0, 10, 10);
        x.load(0, second, 0, 10, 0);
        x.load(0, third, 0, 10, 3);
        x.slack(0, 0);
        x.slack(1, 0);
        return x;
    }

    private static void reachFarthestFirst() {
        int[][] orders = {{30, 0, -30}, {-30, 0, 30}, {0, 30, -30}, {0, -30, 30}, {30, -30, 0}, {-30, 30, 0}};
        int[] sums = {1, 10, 15, 20, 25, 30};
        int[] farthest = {30, 300, 300, 300, 150, 0};
        for (int[] o : orders) {
            HundredMenAft x = threeTanks(o[0], o[1], o[2]);
            for (int i = 0; i < sums.length; i++) {
                x.hull(sums[i], 0);
                for (int way = -1; way <= 1; way += 2) {
                    x.base(0, way * farthest[i], 0);
                    Check.due("S " + sums[i] + ": just as far as it goes", x.reach(0), 1);
                    Check.row("S " + sums[i], x, sums[i], sums[i]);
                    x.base(0, way * (farthest[i] + 1), 0);
                    Check.due("S " + sums[i] + ": one farther", x.reach(0), 0);
                    Check.row("S " + sums[i] + ": none without", x);
                }
            }
        }
        HundredMenAft y = new HundredMenAft();
        for (int i = 0; i < 15; i++) {
            y.load(0, (i * 4 + 3) % 15 - 7, 0, 1, 0);
        }
        y.slack(0, 0);
        y.slack(1, 0);
        y.hull(7, 0);
        y.base(0, 28, 0);
        Check.due("7 of 15, the farthest aft: -7 .. -1", y.reach(0), 1);
        y.base(0, 29, 0);
        Check.due("one farther", y.reach(0), 0);
        y.base(0, -28, 0);
        Check.due("7 of 15, the farthest forward: 1 .. 7", y.reach(0), 1);
        y.base(0, -29, 0);
        Check.due("one farther", y.reach(0), 0);
        y.hull(15, 0);
        y.base(0, 0, 0);
        Check.due("all of them", y.reach(0), 1);
        y.hull(16, 0);
        Check.due("more than all of them", y.reach(0), 0);
    }

    private static void reachOfNoTanks() {
        HundredMenAft x = new HundredMenAft();
        x.load(1, 10, 0, 100, 5);
        x.load(2, 10, 0, 100, 5);
        x.load(3, 10, 0, 100, 5);
        x.base(990, 50, 0);
        Check.due("HEAVY and MOMENT at their SLACK", x.reach(0), 1);
        Check.row("S is 0", x, 0, 0);
        x.base(991, 50, 0);
        Check.due("HEAVY above it", x.reach(0), 0);
        Check.row("none without", x);
        x.base(979, 50, 0);
        Check.due("HEAVY below it: no other LOAD helps", x.reach(0), 0);
        x.base(980, 51, 0);
        Check.due("MOMENT above it", x.reach(0), 0);
        x.base(980, -350, 99999);
        Check.due("LIST left out", x.reach(0), 1);
        x.base(980, -351, 0);
        Check.due("MOMENT below it", x.reach(0), 0);
    }

    private static void reachLeastAndGreatest() {
        HundredMenAft x = new HundredMenAft();
        x.load(0, 0, 0, 20, 20);
        x.base(1000, 0, 0);
        Check.due("HEAVY 0 without: 0 .. 5", x.reach(0), 1);
        Check.row("S is not below 0", x, 0, 5);
        x.base(985, 0, 0);
        x.reach(0);
        Check.row("10 .. 20", x, 10, 20);
        x.base(978, 0, 0);
        x.reach(0);
        Check.row("S is not above all MOST", x, 17, 20);
        x.base(975, 0, 0);
        x.reach(0);
        Check.row("20 .. 20", x, 20, 20);
        x.base(974, 0, 0);
        Check.due("one less", x.reach(0), 0);
        x.base(1005, 0, 0);
        x.reach(0);
        Check.row("0 .. 0", x, 0, 0);
        x.base(1006, 0, 0);
        Check.due("one more", x.reach(0), 0);
        x.layer(600, 1001);
        Check.due("at another DEPTH", x.reach(600), 1);
        Check.due("what it HAS is nothing here", x.of(0, 4), 20);
        HundredMenAft y = new HundredMenAft();
        y.load(0, 99, 0, 20, 0);
        y.base(990, -599, 0);
        Check.due("MOMENT by S: -599 and 99 times S", y.reach(0), 1);
        Check.row("from 5 on, -104; to 8, 193", y, 5, 8);
        y.base(990, -200 - 99 * 15, 0);
        y.reach(0);
        Check.row("15 alone", y, 15, 15);
        y.base(990, -200 - 99 * 15 - 1, 0);
        Check.due("16 would be too heavy", y.reach(0), 0);
    }

    private static void shotTillItIsAllIn() {
        HundredMenAft x = new HundredMenAft();
        x.load(3, 10, 0, 999, 999);
        x.load(0, -10, 0, 999, 0);
        Check.due("n 1, late 0, rate 1", x.shot(0, 1, 0, 1, 1), 1);
        Check.row("n 1, late 0, rate 1", x, 1, -10);
        Check.due("rate 99 and n 99: one second", x.shot(0, 99, 0, 99, 1), 1);
        Check.row("rate 99 and n 99: one second", x, 99, -990);
        Check.due("n 100: the last second what is left", x.shot(0, 100, 0, 99, 1), 2);
        Check.row("n 100: the last second what is left", x, 101, -1000 - 1990);
        Check.due("late 1", x.shot(0, 2, 1, 2, 1), 2);
        Check.row("late 1: missing behind seconds 0 and 1", x, 4, -40);
        Check.due("late 60", x.shot(0, 2, 60, 1, 1), 62);
        Check.row("late 60", x, 61 * 2 + 1, 61 * -20 - 30);
        Check.due("SHOTS are gone", x.of(0, 4), 999 - 204);
        Check.due("water is there", x.of(1, 4), 204);
        Check.due("all of HAS", x.shot(0, 795, 0, 99, 1), 9);
        Check.due("none left", x.of(0, 4), 0);
        Check.due("full", x.of(1, 4), 999);
        Check.due("n 1 of none", x.shot(0, 1, 0, 1, 1), -1);
    }

    private static void shotRoomAndNone() {
        HundredMenAft x = new HundredMenAft();
        x.load(3, 10, 0, 50, 20);
        x.load(0, -10, 0, 30, 20);
        Check.due("-2: one more than the room", x.shot(0, 11, 0, 1, 1), -2);
        Check.due("nothing changes: SHOTS", x.of(0, 4), 20);
        Check.due("nothing changes: the TANK", x.of(1, 4), 20);
        Check.due("NONE: more than HAS, with no room for it", x.shot(0, 21, 0, 1, 1), -1);
        Check.due("NONE: n 0", x.shot(0, 0, 0, 1, 1), -1);
        Check.due("NONE: late 61, with no room", x.shot(0, 11, 61, 1, 1), -1);
        Check.due("NONE: rate 100, with no room", x.shot(0, 11, 0, 100, 1), -1);
        Check.due("NONE: rate 0", x.shot(0, 1, 0, 0, 1), -1);
        Check.due("just the room", x.shot(0, 10, 0, 10, 1), 1);
        Check.due("no room at all", x.shot(0, 1, 0, 1, 1), -2);
    }

    private static HundredMenAft afloat(int heavy, int moment) {
        HundredMenAft x = new HundredMenAft();
        x.base(1000 + heavy, moment, 0);
        return x;
    }

    private static void diveIsPut() {
        HundredMenAft up = afloat(-20, 0);
        Check.due("a tenth above 0 is put to 0", up.dive(0, 600, 1), 0);
        Check.row("SPEED is 0 where it was put", up, 0, -1);
        HundredMenAft down = afloat(20, 0);
        Check.due("a tenth below 600 metres is put to them", down.dive(600, 600, 1), 6000);
        Check.row("SPEED is 0 where it was put", down, 0, 0);
        Check.due("just at 600 metres it was not put", down.dive(599, 600, 4), 6000);
        Check.row("just at 600 metres", down, 4, 4);
        Check.due("a second more", down.dive(599, 600, 5), 6000);
        Check.row("a second more", down, 0, 4);
        Check.due("just at 0 it was not put", up.dive(1, 600, 4), 0);
        Check.row("just at 0", up, -4, -1);
        Check.due("a second more", up.dive(1, 600, 5), 0);
        Check.row("a second more", up, 0, -1);
        int[] heavy = {600, 620, 98999, -600, -620, -1000};
        int[] speed = {30, 30, 30, -30, -30, -30};
        for (int i = 0; i < heavy.length; i++) {
            HundredMenAft x = afloat(heavy[i], 0);
            Check.due("SPEED is put to -30 .. 30", x.dive(300, 600, 1), 3000 + speed[i]);
            Check.row("SPEED is put to -30 .. 30", x, speed[i], -1);
            x.dive(300, 600, 2);
            Check.due("and stays there", x.row(0), speed[i]);
        }
        HundredMenAft both = afloat(620, -4000);
        both.dive(300, 600, 1);
        Check.due("it is put when both have grown it: 31 less 2", both.row(0), 29);
    }

    private static void diveAtTheTarget() {
        HundredMenAft x = afloat(20, 0);
        Check.due("no second goes by", x.dive(7, 8, 0), 70);
        Check.row("not there", x, 0, -1);
        Check.due("there at first", x.dive(8, 8, 0), 80);
        Check.row("there at first", x, 0, 0);
        Check.due("below at first", x.dive(9, 8, 0), 90);
        Check.row("below at first", x, 0, 0);
        Check.due("1 3 6 10", x.dive(0, 1, 3), 6);
        Check.row("not yet", x, 3, -1);
        Check.due("1 3 6 10", x.dive(0, 1, 4), 10);
        Check.row("just at the target", x, 4, 4);
        Check.due("1 3 6 10 15 21", x.dive(0, 2, 6), 21);
        Check.row("below the target", x, 6, 6);
        Check.due("to the deepest", x.dive(0, 600, 600), 6000);
        Check.row("1 .. 30 make 465, then 30 a second: 185 more", x, 0, 215);
        HundredMenAft up = afloat(-20, 0);
        Check.due("it goes up from there", up.dive(10, 10, 5), 85);
        Check.row("it was there at first", up, -5, 0);
        Check.due("target 0", up.dive(0, 0, 5), 0);
        Check.row("target 0", up, 0, 0);
        HundredMenAft none = afloat(0, 0);
        Check.due("at rest for 600 seconds", none.dive(600, 600, 600), 6000);
        Check.row("at rest for 600 seconds", none, 0, 0);
    }

    private static void diveIsCut() {
        int[] heavy = {19, 20, 39, 40, -19, -20, -39, -40};
        int[] grows = {0, 1, 1, 2, 0, -1, -1, -2};
        for (int i = 0; i < heavy.length; i++) {
            HundredMenAft x = afloat(heavy[i], 0);
            Check.due("HEAVY " + heavy[i] + " by 20 is cut", x.dive(300, 600, 1), 3000 + grows[i]);
        }
        int[] moment = {1999, 2000, 3999, 4000, -1999, -2000, -3999, -4000};
        for (int i = 0; i < moment.length; i++) {
            HundredMenAft x = afloat(0, moment[i]);
            Check.due("MOMENT " + moment[i] + " by 2000 is cut", x.dive(300, 600, 1), 3000 + grows[i]);
        }
        HundredMenAft x = afloat(19, 1999);
        Check.due("each is cut by itself", x.dive(300, 600, 1), 3000);
        HundredMenAft y = afloat(20, 0);
        y.layer(2, 1020);
        Check.due("1 3 6 10 15: whole metres, cut: above the layer", y.dive(0, 600, 6), 21);
        Check.due("behind 21 tenths in it", y.dive(0, 600, 7), 27);
        Check.row("SPEED grows no more", y, 6, -1);
    }

    private static HundredMenAft men(int has, int hasForward, int mostForward) {
        HundredMenAft x = new HundredMenAft();
        x.load(2, -50, 0, 100, has);
        x.load(2, 50, 0, mostForward, hasForward);
        x.base(1000 - has - hasForward, 50 * has - 50 * hasForward, 0);
        return x;
    }

    private static void forwardTheFewest() {
        HundredMenAft x = men(100, 0, 100);
        Check.due("20 men make MOMENT 2000: 1 3 6 10", x.forward(0, 1, 0, 1, 4), 20);
        Check.row("the second, just at the target", x, 4);
        Check.due("seconds behind that are no use", x.forward(0, 1, 0, 1, 600), 20);
        Check.row("the second it is at the target, not the last", x, 4);
        Check.due("by second 3: 40 men, 2 6 12", x.forward(0, 1, 0, 1, 3), 40);
        Check.row("by second 3", x, 3);
        Check.due("by second 2: 80 men, 4 12", x.forward(0, 1, 0, 1, 2), 80);
        Check.row("by second 2", x, 2);
        Check.due("by second 1 all do not", x.forward(0, 1, 0, 1, 1), -2);
        Check.due("by second 1 for 5 tenths: from 0 to 0", x.forward(0, 1, 0, 0, 1), 0);
        x.base(900, 4999, 0);
        Check.due("one less: 21", x.forward(0, 1, 0, 1, 4), 21);
        x.base(900, 5001, 0);
        Check.due("one more: 20, 19 are 1901", x.forward(0, 1, 0, 1, 4), 20);
        x.base(900, 5100, 0);
        Check.due("100 more: 19", x.forward(0, 1, 0, 1, 4), 19);
    }

    private static void forwardAtItsEdges() {
        HundredMenAft x = men(20, 5, 25);
        Check.due("all it HAS, just the room", x.forward(0, 1, 0, 1, 4), 20);
        x = men(20, 6, 25);
        Check.due("the room is one less", x.forward(0, 1, 0, 1, 4), -2);
        x = men(19, 5, 25);
        Check.due("it HAS one less", x.forward(0, 1, 0, 1, 4), -2);
        x = men(0, 5, 25);
        Check.due("none there, none needed", x.forward(0, 1, 8, 8, 0), 0);
        Check.row("at first", x, 0);
        Check.due("none there, but needed", x.forward(0, 1, 7, 8, 600), -2);
        Check.row("the ROW as it was", x, 0);
        x = men(20, 25, 25);
        Check.due("no room, none needed", x.forward(0, 1, 600, 600, 0), 0);
        Check.due("no room, but needed", x.forward(0, 1, 599, 600, 600), -2);
        x = men(20, 20, 25);
        x.base(980, 0, 0);
        Check.due("none needed: it sinks", x.forward(0, 1, 0, 1, 4), 0);
        Check.row("none needed: 1 3 6 10", x, 4);
        Check.due("by second 3 they are too few", x.forward(0, 1, 0, 1, 3), -2);
    }

    private static void carryAtItsEdges() {
        HundredMenAft x = new HundredMenAft();
        x.load(2, 0, 0, 10, 10);
        x.load(2, 0, 0, 9, 0);
        x.load(1, 0, 0, 10, 1);
        x.load(1, 0, 0, 10, 9);
        Check.due("n 0", x.carry(0, 1, 0), false);
        Check.due("more than HAS", x.carry(0, 1, 11), false);
        Check.due("no room for the last", x.carry(0, 1, 10), false);
        Check.due("just the room", x.carry(0, 1, 9), true);
        Check.due("no room", x.carry(0, 1, 1), false);
        Check.due("all it HAS, just the room", x.carry(2, 3, 1), true);
        Check.due("none left", x.carry(2, 3, 1), false);
        Check.due("back", x.carry(3, 2, 10), true);
        Check.due("to itself", x.carry(2, 2, 1), false);
        Check.due("another KIND", x.carry(2, 1, 1), false);
        Check.due("from", x.of(0, 4), 1);
        Check.due("to", x.of(1, 4), 9);
        Check.due("a STORE full", x.of(2, 4), 10);
        Check.due("a STORE empty", x.of(3, 4), 0);
    }
}
