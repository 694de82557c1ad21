/** The document's sentences that name an edge, one by one: promises 42 to 53. */
public final class EdgeStoresTest {
    private static final int LEAST = Integer.MIN_VALUE;
    private static final int MOST = Integer.MAX_VALUE;

    public static void main(String[] args) {
        eatsAtItsEdges();
        daysAtTheirEdges();
        wasteIsCut();
        wasteAboveTheRoomIsLost();
        storesInOrder();
        daysOfFifteen();
        lastsFromNow();
        lastsFourHundred();
        shiftWhole();
        shiftOfEqualOnes();
        shiftNoneToAnEnd();
        groundBelowMud();
        groundTheFullestFirst();
        groundOfNoTanks();
        iceBreaks();
        iceAtMostThick();
        iceSixHundredSeconds();
        keepUnderThree();
        againAsTheyWere();
        seedOfAnyInt();
        lieByDraws();
        lieAtItsEdges();
        countAndRow();
        Check.finish("EdgeStoresTest");
    }

    private static void eatsAtItsEdges() {
        HundredMenAft x = new HundredMenAft();
        x.load(1, 0, 0, 999, 500);
        x.load(0, 0, 0, 999, 0);
        Check.due("0 a day, 0 in a hundred", x.eats(0, 0, 0, 1), true);
        x.days(9);
        Check.due("0 a day", x.of(0, 4), 500);
        Check.due("50 a day, 100 in a hundred", x.eats(0, 50, 100, 1), true);
        x.days(2);
        Check.due("50 a day", x.of(0, 4), 400);
        Check.due("all comes as waste", x.of(1, 4), 100);
        Check.due("51 a day", x.eats(0, 51, 0, 1), false);
        Check.due("-1 a day", x.eats(0, -1, 0, 1), false);
        Check.due("101 in a hundred", x.eats(0, 1, 101, 1), false);
        Check.due("-1 in a hundred", x.eats(0, 1, -1, 1), false);
        Check.due("waste to itself", x.eats(0, 1, 1, 0), false);
        Check.due("waste to none there", x.eats(0, 1, 1, 2), false);
        x.days(1);
        Check.due("refused: as told ahead", x.of(0, 4), 350);
        Check.due("NONE: out", x.eats(0, 50, 100, -1), true);
        x.days(1);
        Check.due("out: eaten", x.of(0, 4), 300);
        Check.due("out: to no LOAD", x.of(1, 4), 150);
    }

    private static void daysAtTheirEdges() {
        HundredMenAft x = new HundredMenAft();
        Check.due("no STORES: none empty", x.days(1), 0);
        x.load(1, 0, 0, 100, 10);
        x.load(1, 0, 0, 0, 0);
        x.load(0, 0, 0, 100, 0);
        x.load(2, 0, 0, 100, 0);
        x.load(3, 0, 0, 100, 0);
        x.eats(0, 5, 0, -1);
        Check.due("0 DAYS: STORES alone count as empty", x.days(0), 1);
        Check.due("0 DAYS: the DAY", x.count(7), 1);
        Check.due("one DAY", x.days(1), 1);
        Check.due("one DAY: 5 left", x.of(0, 4), 5);
        Check.due("just all that is left", x.days(1), 2);
        Check.due("400 DAYS", x.days(400), 2);
        Check.due("400 DAYS: the DAY", x.count(7), 403);
        Check.due("it HAS 0, not less", x.of(0, 4), 0);
        Check.due("401", x.days(401), -1);
        Check.due("-1", x.days(-1), -1);
        Check.due("refused: the DAY", x.count(7), 403);
        x.fill(0, 4);
        Check.due("all that is left, if it is less", x.days(1), 2);
        Check.due("none left", x.of(0, 4), 0);
    }

    private static void wasteIsCut() {
        int[][] eatenPercentWaste = {{1, 99, 0}, {1, 100, 1}, {50, 99, 49}, {50, 1, 0}, {50, 2, 1}, {50, 3, 1},
            {50, 100, 50}, {3, 33, 0}, {3, 34, 1}, {7, 50, 3}, {50, 0, 0}, {0, 100, 0}};
        for (int[] w : eatenPercentWaste) {
            HundredMenAft x = new HundredMenAft();
            x.load(1, 0, 0, 100, 100);
            x.load(0, 0, 0, 100, 0);
            x.eats(0, w[0], w[1], 1);
            x.days(1);
            Check.due("eaten", x.of(0, 4), 100 - w[0]);
            Check.due(w[0] + " eaten, " + w[1] + " in a hundred", x.of(1, 4), w[2]);
        }
        HundredMenAft y = new HundredMenAft();
        y.load(1, 0, 0, 100, 3);
        y.load(0, 0, 0, 100, 0);
        y.eats(0, 50, 100, 1);
        y.days(2);
        Check.due("waste of what was left, no more", y.of(1, 4), 3);
    }

    private static void wasteAboveTheRoomIsLost() {
        HundredMenAft x = new HundredMenAft();
        x.load(1, 0, 0, 100, 100);
        x.load(0, 0, 0, 25, 0);
        x.eats(0, 10, 100, 1);
        x.days(2);
        Check.due("20 of 25", x.of(1, 4), 20);
        x.days(1);
        Check.due("5 of 10 are lost", x.of(1, 4), 25);
        x.days(1);
        Check.due("all is lost", x.of(1, 4), 25);
        Check.due("but eaten", x.of(0, 4), 60);
        x.fill(1, 15);
        x.days(1);
        Check.due("just the room", x.of(1, 4), 25);
    }

    private static void storesInOrder() {
        HundredMenAft x = new HundredMenAft();
        x.load(1, 0, 0, 100, 10);
        x.load(1, 0, 0, 100, 0);
        x.load(1, 0, 0, 100, 0);
        x.eats(0, 10, 100, 1);
        x.eats(1, 10, 100, 2);
        Check.due("what comes to the next one is eaten there on the same day", x.days(1), 2);
        Check.due("what comes to the next one", x.of(2, 4), 10);
        HundredMenAft y = new HundredMenAft();
        y.load(1, 0, 0, 100, 0);
        y.load(1, 0, 0, 100, 10);
        y.eats(0, 10, 100, 1);
        y.eats(1, 10, 100, 0);
        Check.due("what comes to the one ahead is eaten on the next day", y.days(1), 1);
        Check.due("what comes to the one ahead", y.of(0, 4), 10);
        Check.due("on the next day it goes on, and back", y.days(1), 1);
        Check.due("on the next day it goes on, and back", y.of(0, 4), 10);
    }

    private static void daysOfFifteen() {
        HundredMenAft x = new HundredMenAft();
        for (int i = 0; i < 15; i++) {
            x.load(1, 0, 0, 100, 10);
            x.eats(i, i, 0, -1);
        }
        Check.due("15 STORES: 10 .. 14 a day are all of it", x.days(1), 5);
        for (int i = 0; i < 15; i++) {
            Check.due("of each its own", x.of(i, 4), Math.max(0, 10 - i));
        }
        Check.due("a pair of 15", x.shift(0), 0);
        Check.row("a pair of 15", x, 0, 1);
        Check.due("15 STORES last", x.lasts(0), 0);
        HundredMenAft y = new HundredMenAft();
        for (int i = 0; i < 15; i++) {
            y.load(i < 7 ? 1 : 0, 0, 0, 100, 50);
        }
        y.eats(0, 10, 100, 14);
        y.hull(750, 0);
        Check.book(y, "14=n14-1");
        Check.due("holds with the last LOAD", y.holds(0), 5);
        Check.due("the last LOAD is as it was", y.of(14, 4), 50);
        Check.due("lasts with waste to the last LOAD", y.lasts(0), -2);
        Check.due("the last LOAD is as it was", y.of(14, 4), 50);
        Check.due("ground with the last LOAD", y.ground(0, 399), 400);
        Check.due("the last LOAD is as it was", y.of(14, 4), 50);
        Check.due("shift ahead of the last LOAD", y.shift(0), -1);
        Check.due("the last LOAD is as it was", y.of(14, 4), 50);
    }

    /** A tank that can take the place of what is eaten, of a store that is eaten one a day. */
    private static HundredMenAft larder(int most, int has) {
        HundredMenAft x = new HundredMenAft();
        x.load(0, 0, 0, most, 0);
        x.load(1, 0, 0, 999, has);
        x.hull(1000 + has, 0);
        x.base(1000, 0, 0);
        x.slack(0, 0);
        x.eats(1, 1, 0, -1);
        return x;
    }

    private static void lastsFromNow() {
        HundredMenAft x = larder(3, 50);
        Check.due("3 are eaten, then the fourth", x.lasts(0), 4);
        x.slack(0, 2);
        Check.due("with SLACK", x.lasts(0), 6);
        x.days(5);
        Check.due("from now", x.lasts(0), 1);
        x.days(1);
        Check.due("on this DAY", x.lasts(0), 0);
        Check.due("the DAY as it was", x.count(7), 6);
        Check.due("the STORE as it was", x.of(1, 4), 44);
        x.layer(600, 994);
        Check.due("at another DEPTH: HEAVY 1 now", x.heavy(600), 1);
        Check.due("at another DEPTH: down to -5", x.lasts(600), 7);
        HundredMenAft y = larder(3, 3);
        Check.due("all is eaten ahead of that", y.lasts(0), -2);
        HundredMenAft z = larder(3, 4);
        Check.due("the last one is too much", z.lasts(0), 4);
    }

    private static void lastsFourHundred() {
        Check.due("on DAY 400", larder(399, 999).lasts(0), 400);
        Check.due("on DAY 401", larder(400, 999).lasts(0), -2);
        Check.due("on DAY 399", larder(398, 999).lasts(0), 399);
        HundredMenAft x = larder(400, 999);
        x.days(1);
        Check.due("a DAY on", x.lasts(0), 400);
        HundredMenAft y = larder(0, 999);
        y.eats(1, 0, 0, -1);
        Check.due("nothing is eaten", y.lasts(0), -2);
        y.hull(5000, 0);
        Check.due("nothing is eaten, but it is 0 now", y.lasts(0), 0);
    }

    private static void shiftWhole() {
        HundredMenAft x = new HundredMenAft();
        x.load(1, 10, 0, 10, 10);
        x.load(1, 0, 0, 8, 1);
        x.load(0, 0, 0, 999, 0);
        x.hull(500, 0);
        x.eats(0, 1, 0, -1);
        x.base(0, 150, 0);
        Check.due("MOMENT 250: at once", x.lasts(0), 0);
        Check.due("the first has no room for the second, nor the second", x.shift(0), -2);
        x.fill(0, 9);
        Check.due("HAS 1 goes whole to the first, just the room", x.shift(0), 0);
        Check.row("from the second to the first", x, 1, 0);
        x.fill(1, 0);
        x.fill(0, 9);
        Check.due("one more than the room of the second", x.shift(0), -2);
        x.fill(0, 8);
        Check.due("just the room of the second: MOMENT 150", x.shift(0), -1);
        Check.row("from the first to the second", x, 0, 1);
        x.fill(0, 0);
        Check.due("none HAS above 0", x.shift(0), -2);
        x.fill(1, 1);
        x.load(2, 0, 0, 99, 1);
        Check.due("to another STORE", x.shift(0), -1);
        Check.row("to another STORE", x, 1, 0);
    }

    private static void shiftOfEqualOnes() {
        HundredMenAft x = new HundredMenAft();
        for (int i = 0; i < 4; i++) {
            x.load(1, 5, 0, 100, 10);
        }
        Check.due("too light at once, whatever is carried", x.shift(0), 0);
        Check.row("the first pair of numbers", x, 0, 1);
        x.fill(1, 95);
        Check.due("the second has no room", x.shift(0), 0);
        Check.row("the second has no room", x, 0, 2);
        x.fill(0, 0);
        Check.due("the first HAS none", x.shift(0), 0);
        Check.row("the second goes to the first", x, 1, 0);
        x.fill(0, 100);
        x.fill(1, 100);
        x.fill(2, 100);
        x.fill(3, 0);
        Check.due("room in the last alone", x.shift(0), 0);
        Check.row("room in the last alone", x, 0, 3);
        HundredMenAft one = new HundredMenAft();
        one.load(1, 0, 0, 100, 10);
        Check.due("-2: no pair", one.shift(0), -2);
        Check.due("-2: no STORES", new HundredMenAft().shift(0), -2);
    }

    private static void shiftNoneToAnEnd() {
        HundredMenAft x = new HundredMenAft();
        x.load(0, 0, 0, 4, 0);
        x.load(1, 0, 0, 100, 10);
        x.load(1, 0, 0, 100, 20);
        x.load(1, 0, 0, 100, 10);
        x.hull(1040, 0);
        x.base(1000, 0, 0);
        x.slack(0, 0);
        x.eats(1, 2, 0, -1);
        x.eats(2, 1, 0, -1);
        Check.due("3 a day", x.lasts(0), 2);
        Check.due("the first goes to the next, or the last: 1 a day", x.shift(0), 5);
        Check.row("the first of both", x, 1, 2);
        x.fill(2, 91);
        x.hull(1111, 0);
        Check.due("the next has no room", x.shift(0), 5);
        Check.row("the next has no room", x, 1, 3);
        x.fill(2, 20);
        x.hull(1040, 0);
        x.eats(2, 0, 0, -1);
        Check.due("none to an end is more than any", x.shift(0), -1);
        Check.row("none to an end: the first pair that does", x, 1, 2);
        x.fill(1, 4);
        x.hull(1034, 0);
        Check.due("4 are eaten, the TANK has 4: as long as ever", x.lasts(0), -2);
        Check.due("as long as ever, too", x.shift(0), -1);
        Check.row("as long as ever, too", x, 1, 2);
    }

    private static HundredMenAft onGround(int heavy, int... has) {
        HundredMenAft x = new HundredMenAft();
        int sum = 0;
        for (int i = 0; i < has.length; i++) {
            x.load(0, i, 0, 999, has[i]);
            sum += has[i];
        }
        x.base(1000, 0, 0);
        x.hull(1000 + sum - heavy, 0);
        return x;
    }

    private static void groundBelowMud() {
        HundredMenAft x = onGround(0, 50);
        Check.due("HEAVY 0 is not below 0: 1", x.ground(0, 0), 1);
        Check.row("HEAVY 0 is not below 0: 1", x, 49);
        x = onGround(-1, 50);
        Check.due("HEAVY -1 is: 0", x.ground(0, 0), 0);
        Check.row("nothing has to", x, 50);
        Check.due("mud 1: HEAVY -1 is not below -1", x.ground(0, 1), 1);
        x = onGround(-1000, 50);
        Check.due("mud 999: HEAVY -1000 is below -999", x.ground(600, 999), 0);
        x = onGround(-999, 50);
        Check.due("mud 999: HEAVY -999 is not", x.ground(600, 999), 1);
        Check.due("mud 1000", x.ground(0, 1000), -1);
        Check.due("mud -1", x.ground(0, -1), -1);
        x = onGround(49, 50);
        Check.due("all that it HAS", x.ground(0, 0), 50);
        Check.row("all that it HAS", x, 0);
        x = onGround(50, 50);
        Check.due("-2: all TANKS do not", x.ground(0, 0), -2);
        Check.due("-2: mud is too much", onGround(0, 50).ground(0, 50), -2);
        Check.due("just not too much", onGround(0, 50).ground(0, 49), 50);
        Check.due("nothing changes", x.of(0, 4), 50);
    }

    private static void groundTheFullestFirst() {
        HundredMenAft x = onGround(0, 10, 30, 30, 20);
        int[] mud = {0, 28, 29, 30, 58, 59, 60, 79, 80, 88, 89};
        int[][] left = {{10, 29, 30, 20}, {10, 1, 30, 20}, {10, 0, 30, 20}, {10, 0, 29, 20}, {10, 0, 1, 20},
            {10, 0, 0, 20}, {10, 0, 0, 19}, {10, 0, 0, 0}, {9, 0, 0, 0}, {1, 0, 0, 0}, {0, 0, 0, 0}};
        for (int i = 0; i < mud.length; i++) {
            Check.due("mud " + mud[i], x.ground(0, mud[i]), mud[i] + 1);
            Check.row("mud " + mud[i], x, left[i]);
        }
        Check.due("mud 90", x.ground(0, 90), -2);
        HundredMenAft y = new HundredMenAft();
        y.load(1, 0, 0, 99, 99);
        y.load(0, 9, 0, 30, 30);
        y.load(2, 0, 0, 99, 99);
        y.load(0, -9, 0, 40, 30);
        y.load(3, 0, 0, 99, 99);
        y.load(0, 0, 0, 30, 30);
        y.hull(387, 0);
        Check.due("of equal ones the first, not the one aft, nor one that could hold more", y.ground(0, 4), 5);
        Check.row("TANKS by numbers, no other LOADS", y, 25, 30, 30);
        Check.due("and the next", y.ground(0, 34), 35);
        Check.row("and the next", y, 0, 25, 30);
    }

    private static void groundOfNoTanks() {
        HundredMenAft x = new HundredMenAft();
        x.load(1, 0, 0, 999, 999);
        Check.due("no TANKS, HEAVY -1: 0", x.ground(0, 0), 0);
        Check.row("no TANKS, no ROW", x);
        x.base(1, 0, 0);
        Check.due("no TANKS, HEAVY 0: -2", x.ground(0, 0), -2);
        HundredMenAft y = new HundredMenAft();
        for (int i = 0; i < 15; i++) {
            y.load(0, 0, 0, 9, 1);
        }
        y.hull(15, 0);
        Check.due("15 TANKS", y.ground(0, 13), 14);
        Check.row("15 TANKS", y, 0, 0, 0, 0, 0, 0, 0, 0, 0, 0, 0, 0, 0, 0, 1);
        Check.due("all 15", y.ground(0, 14), 15);
        Check.row("all 15", y, 0, 0, 0, 0, 0, 0, 0, 0, 0, 0, 0, 0, 0, 0, 0);
    }

    /** A boat of a weight that is 40 too light: 2 4 6 8 tenths a second. */
    private static HundredMenAft light(int weight) {
        HundredMenAft x = new HundredMenAft();
        x.base(weight, 0, 0);
        x.hull(weight + 40, 0);
        return x;
    }

    private static void iceBreaks() {
        HundredMenAft x = light(625);
        Check.due("8 times 625 by 100 is 50", x.ice(3, 1), 1);
        Check.row("8 times 625 by 100 is 50", x, 4, 50);
        x = light(624);
        Check.due("8 times 624 by 100 is cut to 49", x.ice(3, 1), 0);
        Check.row("8 times 624 by 100 is cut to 49", x, 4, 49);
        x = light(1250);
        Check.due("twice as thick: 100", x.ice(4, 2), 1);
        Check.row("twice as thick: 100", x, 4, 100);
        x = light(1249);
        Check.due("twice as thick: 99", x.ice(4, 2), 0);
        Check.row("twice as thick: 99", x, 4, 99);
        x = light(12500);
        Check.due("20 metres", x.ice(22, 20), 1);
        Check.row("20 metres", x, 4, 1000);
        x = light(12499);
        Check.due("20 metres: 999", x.ice(22, 20), 0);
        HundredMenAft y = new HundredMenAft();
        y.load(2, 0, 0, 999, 300);
        y.load(0, 0, 0, 999, 300);
        y.base(25, 0, 0);
        y.hull(665, 0);
        Check.due("all weight: THE BASE and LOADS", y.ice(3, 1), 1);
        Check.row("all weight", y, 4, 50);
    }

    private static void iceAtMostThick() {
        HundredMenAft x = light(625);
        Check.due("just below the ice", x.ice(2, 1), 0);
        Check.row("2 6 12: at 8 tenths", x, 3, 37);
        Check.due("just thick metres deep: 2 6 12 20", x.ice(3, 1), 1);
        Check.row("just thick metres deep", x, 4, 50);
        Check.due("the DEPTH is the ice's", x.ice(1, 1), -1);
        Check.due("the DEPTH is above it", x.ice(0, 1), -1);
        Check.due("20 of 20", x.ice(20, 20), -1);
        Check.due("21 of 20", x.ice(21, 20), 0);
        Check.due("from the deepest, put to 30: 187", x.ice(600, 3), 1);
        Check.due("from the deepest: the number", x.row(1), 187);
        Check.due("thick 0", x.ice(5, 0), -1);
        Check.due("thick 21", x.ice(500, 21), -1);
        HundredMenAft y = new HundredMenAft();
        y.base(1020, 0, 0);
        Check.due("it goes down", y.ice(2, 1), 0);
        Check.row("not by then", y, -1, 0);
        HundredMenAft z = new HundredMenAft();
        z.base(400, 0, 0);
        Check.due("60 30 0: just at 0, not put there", z.ice(6, 1), 1);
        Check.row("60 30 0: just at 0, not put there", z, 2, 120);
        Check.due("40 10: at 10 tenths", z.ice(4, 1), 1);
        Check.row("40 10: at 10 tenths", z, 1, 120);
        Check.due("50 20, then put to 0", z.ice(5, 1), 0);
        Check.row("50 20, then put to 0", z, 2, 0);
    }

    private static void iceSixHundredSeconds() {
        HundredMenAft x = new HundredMenAft();
        x.base(5000, 0, 0);
        x.hull(5000, 0);
        x.layer(300, 1004);
        Check.due("one tenth a second in the layer, at rest above it", x.ice(300, 20), 0);
        Check.due("it goes on with its SPEED", x.row(0) != 0, true);
        HundredMenAft y = new HundredMenAft();
        y.base(1000, 0, 0);
        y.layer(600, 1020);
        Check.due("a tenth a second from the second on", y.ice(600, 1), 0);
        Check.row("600 metres are too far", y, -1, 0);
        HundredMenAft z = new HundredMenAft();
        z.base(1000, 0, 0);
        z.layer(61, 1020);
        Check.due("61 metres: one tenth, then one a second: 600 seconds to 10 tenths", z.ice(61, 1), 0);
        Check.row("second 600", z, 600, 10);
        z.mix();
        z.layer(62, 1020);
        Check.due("62 metres: 610 seconds", z.ice(62, 1), 0);
        Check.row("not by then", z, -1, 0);
        Check.due("62 metres, thicker ice: 600 seconds", z.ice(62, 2), 0);
        Check.row("62 metres, thicker ice: 600 seconds", z, 600, 10);
    }

    private static void keepUnderThree() {
        HundredMenAft x = new HundredMenAft();
        x.load(0, 0, 0, 99, 1);
        for (int i = 0; i <= 2; i++) {
            x.fill(0, 10 + i);
            x.air(20 + i);
            x.days(1);
            x.seed(30 + i);
            Check.due("nothing kept", x.again(i), false);
            Check.due("keep", x.keep(i), true);
        }
        Check.due("keep 3", x.keep(3), false);
        Check.due("keep -1", x.keep(-1), false);
        for (int i = 2; i >= 0; i--) {
            Check.due("again", x.again(i), true);
            Check.due("what it HAS", x.of(0, 4), 10 + i);
            Check.due("AIR", x.count(6), 20 + i);
            Check.due("the DAY", x.count(7), 1 + i);
            Check.due("R", x.seed(0), 30 + i);
        }
        x.fill(0, 50);
        x.keep(1);
        x.fill(0, 60);
        Check.due("kept anew", x.again(1), true);
        Check.due("kept anew", x.of(0, 4), 50);
        Check.due("the others stay", x.again(2), true);
        Check.due("the others stay", x.of(0, 4), 12);
        Check.due("again 3", x.again(3), false);
        Check.due("again -1", x.again(-1), false);
    }

    private static void againAsTheyWere() {
        HundredMenAft x = new HundredMenAft();
        x.keep(0);
        for (int i = 0; i < 15; i++) {
            x.load(i % 4, 0, 0, 99, i);
        }
        x.keep(1);
        x.sheet(2, 15, 40, 1);
        x.base(7, 8, 9);
        x.slack(0, 3);
        x.layer(5, 1001);
        Check.due("none were there", x.again(0), true);
        for (int i = 0; i < 15; i++) {
            Check.due("LOADS told since stay as they are", x.of(i, 4), 40 + i);
        }
        Check.due("all 15 were there", x.again(1), true);
        for (int i = 0; i < 15; i++) {
            Check.due("as they were kept", x.of(i, 4), i);
        }
        Check.due("THE BASE is not kept", x.moment(0), 8);
        Check.due("SLACK is not kept", x.slack(0, 3), 3);
        Check.due("LAYERS are not kept", x.count(1), 1);
        Check.due("LOADS are not gone", x.count(0), 15);
    }

    private static void seedOfAnyInt() {
        HundredMenAft x = new HundredMenAft();
        int[] all = {0, -1, LEAST, MOST, 12345};
        int was = 1;
        for (int v : all) {
            Check.due("what it was", x.seed(v), was);
            was = v;
        }
        Check.due("what it was", x.seed(1), was);
    }

    private static long draw(int r, int n) {
        return (r & 0xffffffffL) / 65536 % n;
    }

    private static void lieByDraws() {
        int[] seeds = {1, 0, -1, LEAST, MOST, 77, -77, 1 << 16, 123456789};
        for (int seed : seeds) {
            HundredMenAft x = new HundredMenAft();
            x.load(2, 0, 0, 1, 0);
            x.load(0, 0, 0, 0, 0);
            x.load(0, 0, 0, 999, 0);
            x.load(1, 0, 0, 6, 0);
            x.load(3, 0, 0, 0, 0);
            int[] holds = {0, 2, 3};
            x.seed(seed);
            int r = seed;
            for (int i = 0; i < 12; i++) {
                r = r * 1103515245 + 12345;
                int load = holds[(int) draw(r, 3)];
                r = r * 1103515245 + 12345;
                Check.due("seed " + seed + ": the LOAD", x.lie(), load);
                Check.due("seed " + seed + ": it HAS", x.of(load, 4), draw(r, x.of(load, 3) + 1));
            }
            Check.due("seed " + seed + ": R goes round as ints", x.seed(0), r);
        }
    }

    private static void lieAtItsEdges() {
        HundredMenAft x = new HundredMenAft();
        Check.due("-2: no LOADS", x.lie(), -2);
        x.load(0, 0, 0, 0, 0);
        Check.due("-2: none with MOST above 0", x.lie(), -2);
        Check.due("no DRAW", x.seed(1), 1);
        x.load(0, 0, 0, 1, 0);
        boolean[] seen = new boolean[2];
        for (int i = 0; i < 30; i++) {
            Check.due("one alone", x.lie(), 1);
            seen[x.of(1, 4)] = true;
        }
        Check.due("0 comes", seen[0], true);
        Check.due("MOST comes", seen[1], true);
        Check.due("nobody books it: no ROW", x.count(8), 0);
        HundredMenAft y = new HundredMenAft();
        for (int i = 0; i < 15; i++) {
            y.load(i % 4, 0, 0, 999, 0);
        }
        boolean[] drawn = new boolean[15];
        for (int i = 0; i < 200; i++) {
            drawn[y.lie()] = true;
        }
        for (int i = 0; i < 15; i++) {
            Check.due("each of 15 comes", drawn[i], true);
        }
    }

    private static void countAndRow() {
        HundredMenAft x = new HundredMenAft();
        for (int what : new int[] {-1, 10, LEAST, MOST}) {
            Check.due("another what", x.count(what), -1);
        }
        Check.noSuch("no ROW yet", () -> x.row(0));
        x.load(0, 0, 0, 9, 5);
        x.best(0, 0);
        Check.due("a refused call tells no ROW", x.count(8), 0);
        x.pump(-1, 0, 1, true);
        x.best(0, 0);
        Check.due("three numbers", x.count(8), 3);
        Check.due("number 0", x.row(0), 4);
        Check.due("number 2", x.row(2), 0);
        Check.noSuch("number 3", () -> x.row(3));
        Check.noSuch("number -1", () -> x.row(-1));
        Check.noSuch("the least", () -> x.row(LEAST));
        Check.noSuch("the greatest", () -> x.row(MOST));
        x.best(5, 0);
        x.heavy(0);
        x.balanced(0);
        x.lies(0, 600);
        x.run(0, 1);
        x.days(1);
        x.lasts(0);
        x.lie();
        x.keep(0);
        x.air(5);
        x.blow(0, 600);
        Check.due("calls that tell no ROW leave it", x.count(8), 3);
        Check.due("calls that tell no ROW leave it", x.row(0), 4);
        x.reach(0);
        Check.due("none without: an empty ROW", x.count(8), 0);
        Check.noSuch("an empty ROW", () -> x.row(0));
    }
}
