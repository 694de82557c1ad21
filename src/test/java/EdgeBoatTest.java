/** The document's sentences that name an edge, one by one: terms and promises 1 to 15. */
public final class EdgeBoatTest {
    private static final int LEAST = Integer.MIN_VALUE;
    private static final int MOST = Integer.MAX_VALUE;

    public static void main(String[] args) {
        aNewObject();
        atMostFifteenLoads();
        fillToItsEdges();
        sheetOfThoseThereAre();
        sheetOfBytes();
        sheetOfShorts();
        sheetOfInts();
        sheetIsMissing();
        sheetTheseFirst();
        baseAtItsEdges();
        hullAtItsEdges();
        liftIsCut();
        layersGoUp();
        mixOfNoneAndOfSix();
        slackAtItsEdges();
        ofAll();
        heavyOfFifteen();
        balancedAtItsSlack();
        liesAtNought();
        hoverNoneOneAll();
        Check.finish("EdgeBoatTest");
    }

    /** Promise 1: no LOADS, DAY 0, and all that the terms say is so at first. */
    private static void aNewObject() {
        HundredMenAft x = new HundredMenAft();
        Check.due("no LOADS", x.count(0), 0);
        Check.due("DAY 0", x.count(7), 0);
        Check.due("THE BASE at first 0: its moment", x.moment(0), 0);
        Check.due("THE BASE at first 0: its list", x.moment(1), 0);
        Check.due("VOLUME at first 1000, SQUEEZE at first 0", x.heavy(600), -1000);
        Check.due("SLACK of HEAVY at first 5", x.slack(0, 5), 5);
        Check.due("SLACK of MOMENT at first 200", x.slack(1, 200), 200);
        Check.due("SLACK of LIST at first 50", x.slack(2, 50), 50);
        Check.due("R at first 1", x.seed(1), 1);
        Check.due("THE BOOK at first empty", x.count(2), 0);
        Check.due("AIR at first 0", x.air(0), 0);
        Check.due("no LAYERS", x.mix(), 0);
        Check.due("no PUMPS", x.run(0, 1), -1);
        Check.noSuch("no TELLINGS", () -> x.tells(0, 0, 0, 0));
        Check.due("nothing kept", x.again(0) || x.again(1) || x.again(2), false);
        Check.due("no ROW", x.count(8), 0);
        Check.due("THE TEXT is empty", x.count(9), 0);
        Check.due("it is empty: it ends at 0 alone", x.end(1), false);
        Check.due("it is empty: it ends at 0", x.end(0), true);
        HundredMenAft y = new HundredMenAft();
        y.load(0, 1, 1, 5, 5);
        Check.due("another object is another boat", x.count(0), 0);
    }

    private static void atMostFifteenLoads() {
        HundredMenAft x = new HundredMenAft();
        for (int i = 0; i < 15; i++) {
            Check.due("its number", x.load(i % 4, 99 - i, i - 7, 999, i), i);
            Check.due("LOADS", x.count(0), i + 1);
        }
        Check.due("refused: 15", x.load(0, 0, 0, 1, 1), -1);
        Check.due("refused again", x.load(0, 0, 0, 0, 0), -1);
        Check.due("LOADS", x.count(0), 15);
        Check.due("the last one's HAS", x.of(14, 4), 14);
        HundredMenAft y = new HundredMenAft();
        Check.due("HAS is MOST", y.load(2, -99, 9, 999, 999), 0);
        Check.due("HAS one above MOST", y.load(2, -99, 9, 998, 999), -1);
        Check.due("MOST 0, HAS 0", y.load(3, 99, -9, 0, 0), 1);
        Check.due("MOST 0, HAS 1", y.load(3, 99, -9, 0, 1), -1);
        Check.due("MOST 0, HAS -1", y.load(3, 99, -9, 0, -1), -1);
        Check.due("MOST -1, HAS -1", y.load(3, 99, -9, -1, -1), -1);
        Check.due("a refused one takes no number", y.load(1, 0, 0, 1, 0), 2);
    }

    private static void fillToItsEdges() {
        HundredMenAft x = new HundredMenAft();
        x.load(0, 0, 0, 999, 7);
        x.load(1, 0, 0, 0, 0);
        x.load(3, 0, 0, 1, 1);
        Check.due("what it had", x.fill(0, 999), 7);
        Check.due("full: what it had", x.fill(0, 0), 999);
        Check.due("empty: what it had", x.fill(0, 0), 0);
        Check.due("one that holds nothing", x.fill(1, 0), 0);
        Check.due("one that holds nothing: 1", x.fill(1, 1), -1);
        Check.due("a SHOT", x.fill(2, 0), 1);
        Check.due("a LOAD not there", x.fill(3, 0), -1);
    }

    private static HundredMenAft threeOf(int most) {
        HundredMenAft x = new HundredMenAft();
        x.load(1, 0, 0, most, 5);
        x.load(0, 0, 0, most, 6);
        x.load(2, 0, 0, most, 7);
        return x;
    }

    private static void have(String what, HundredMenAft x, int... want) {
        for (int i = 0; i < want.length; i++) {
            Check.due(what + ": LOAD " + i + " HAS", x.of(i, 4), want[i]);
        }
    }

    private static void sheetOfThoseThereAre() {
        HundredMenAft x = threeOf(100);
        Check.due("n 0: none told", x.sheet(2, 0, 50, 1), 0);
        have("n 0", x, 5, 6, 7);
        Check.due("n 1", x.sheet(2, 1, 50, 1), 1);
        have("n 1", x, 50, 6, 7);
        Check.due("n 3 of 3", x.sheet(2, 3, 60, 1), 3);
        have("n 3 of 3", x, 60, 61, 62);
        Check.due("n 4 of 3", x.sheet(2, 4, 70, 1), 3);
        Check.due("n 15 of 3", x.sheet(2, 15, 80, -2), 3);
        have("n 15 of 3", x, 80, 78, 76);
        Check.due("n 15 of none", new HundredMenAft().sheet(2, 15, 5, 5), 0);
        HundredMenAft y = new HundredMenAft();
        for (int i = 0; i < 15; i++) {
            y.load(i % 4, 0, 0, 999, 0);
        }
        Check.due("n 15 of 15", y.sheet(2, 15, 1, 1), 15);
        Check.due("n 15 of 15: the last one HAS", y.of(14, 4), 15);
        Check.due("n 16", y.sheet(2, 16, 1, 1), -1);
    }

    private static void sheetOfBytes() {
        HundredMenAft x = threeOf(999);
        x.sheet(0, 3, 126, 1);
        have("bytes 126, 127, 128: its sign", x, 126, 127, 0);
        x.sheet(0, 3, 255, 1);
        have("bytes 255, 256, 257: the lowest bits", x, 0, 0, 1);
        x.sheet(0, 3, -1, -128);
        have("bytes -1, -129, -257", x, 0, 127, 0);
        x.sheet(0, 3, MOST, 1);
        have("the greatest int and behind it", x, 0, 0, 1);
        x.sheet(0, 3, 1000, 1000);
        have("1000, 2000, 3000: lowest bits -24, -48, -72", x, 0, 0, 0);
        x.sheet(0, 3, 300, 1000);
        have("300, 1300, 2300: lowest bits 44, 20, -4", x, 44, 20, 0);
        HundredMenAft y = threeOf(100);
        y.sheet(0, 3, 100, 1);
        have("bytes 100, 101, 102 put to MOST", y, 100, 100, 100);
    }

    private static void sheetOfShorts() {
        HundredMenAft x = threeOf(999);
        x.sheet(1, 3, 998, 1);
        have("shorts 998, 999, 1000 put to MOST", x, 998, 999, 999);
        x.sheet(1, 3, 32766, 1);
        have("shorts 32766, 32767, 32768: its sign", x, 999, 999, 0);
        x.sheet(1, 3, 65535, 1);
        have("shorts 65535, 65536, 65537: the lowest bits", x, 0, 0, 1);
        x.sheet(1, 3, -65536 + 7, -65536);
        have("below 0 by 65536", x, 7, 7, 7);
        x.sheet(1, 3, 200, 1);
        have("what a byte could not tell", x, 200, 201, 202);
        x.sheet(1, 3, LEAST, 5);
        have("the least int", x, 0, 5, 10);
    }

    private static void sheetOfInts() {
        HundredMenAft x = threeOf(999);
        x.sheet(2, 3, MOST, 1);
        have("the greatest int goes round", x, 999, 0, 0);
        x.sheet(2, 3, LEAST, -1);
        have("the least int goes round", x, 0, 999, 999);
        x.sheet(2, 3, -1, 1);
        have("-1, 0, 1", x, 0, 0, 1);
        x.sheet(2, 3, 65536, 1);
        have("not the lowest bits alone", x, 999, 999, 999);
        x.sheet(2, 3, 5, MOST);
        have("step goes round: 5, below 0, 3", x, 5, 0, 3);
        x.sheet(2, 3, 9, 0);
        have("step 0", x, 9, 9, 9);
    }

    private static void sheetIsMissing() {
        HundredMenAft x = threeOf(100);
        x.load(3, 0, 0, 9, 9);
        x.load(0, 5, 0, 9, 9);
        x.load(0, -5, 0, 9, 9);
        Check.due("-3: missing", x.sheet(3, 2, 50, 1), -3);
        have("all TANKS HAVE 0, and TANKS alone", x, 5, 0, 7, 9, 0, 0);
        Check.due("-3 with no LOADS", new HundredMenAft().sheet(3, 0, 0, 0), -3);
        HundredMenAft y = new HundredMenAft();
        for (int i = 0; i < 15; i++) {
            y.load(0, 14 - i, 0, 9, 9);
        }
        Check.due("-3 with 15 TANKS", y.sheet(3, 15, 0, 0), -3);
        for (int i = 0; i < 15; i++) {
            Check.due("all TANKS HAVE 0", y.of(i, 4), 0);
        }
    }

    private static void sheetTheseFirst() {
        HundredMenAft x = threeOf(100);
        Check.due("another kind, n below 0: NONE", x.sheet(4, -1, 1, 1), -1);
        Check.due("another kind, n above 15: NONE", x.sheet(-1, 16, 1, 1), -1);
        Check.due("missing, n above 15: NONE", x.sheet(3, 16, 1, 1), -1);
        have("NONE changes nothing", x, 5, 6, 7);
        for (int kind = 0; kind <= 2; kind++) {
            Check.due("-2: n below 0", x.sheet(kind, -1, 1, 1), -2);
            Check.due("-2: n far below 0", x.sheet(kind, LEAST, 1, 1), -2);
            Check.due("NONE: n above 15", x.sheet(kind, 16, 1, 1), -1);
        }
        have("-2: nothing changes", x, 5, 6, 7);
        Check.due("n below 0 of a missing one: -3", x.sheet(3, -1, 1, 1), -3);
        have("n below 0 of a missing one", x, 5, 0, 7);
    }

    private static void baseAtItsEdges() {
        HundredMenAft x = new HundredMenAft();
        Check.due("least", x.base(0, -999999, -99999), true);
        Check.due("least: HEAVY", x.heavy(0), -1000);
        Check.due("least: MOMENT", x.moment(0), -999999);
        Check.due("least: LIST", x.moment(1), -99999);
        Check.due("most", x.base(99999, 999999, 99999), true);
        Check.due("most: HEAVY", x.heavy(0), 98999);
        Check.due("most: MOMENT", x.moment(0), 999999);
        Check.due("most: LIST", x.moment(1), 99999);
        Check.due("weight 100000", x.base(100000, 0, 0), false);
        Check.due("weight -1", x.base(-1, 0, 0), false);
        Check.due("moment 1000000", x.base(0, 1000000, 0), false);
        Check.due("moment -1000000", x.base(0, -1000000, 0), false);
        Check.due("list 100000", x.base(0, 0, 100000), false);
        Check.due("list -100000", x.base(0, 0, -100000), false);
        Check.due("refused: HEAVY as it was", x.heavy(0), 98999);
        Check.due("refused: MOMENT as it was", x.moment(0), 999999);
        Check.due("refused: LIST as it was", x.moment(1), 99999);
    }

    private static void hullAtItsEdges() {
        HundredMenAft x = new HundredMenAft();
        Check.due("VOLUME 1", x.hull(1, 0), true);
        Check.due("VOLUME 1: HEAVY", x.heavy(600), -1);
        Check.due("VOLUME 0", x.hull(0, 0), false);
        Check.due("VOLUME 99999, SQUEEZE 99", x.hull(99999, 99), true);
        Check.due("at DEPTH 0 nothing is squeezed", x.heavy(0), -99999);
        Check.due("at DEPTH 600", x.heavy(600), -(99999 - 5940));
        Check.due("VOLUME 100000", x.hull(100000, 99), false);
        Check.due("SQUEEZE 100", x.hull(99999, 100), false);
        Check.due("SQUEEZE -1", x.hull(99999, -1), false);
        Check.due("refused: as it was", x.heavy(600), -(99999 - 5940));
        Check.due("squeezed to nothing", x.hull(60, 1), true);
        Check.due("squeezed to nothing: HEAVY", x.heavy(600), 0);
        Check.due("one metre above", x.heavy(599), -1);
    }

    private static void liftIsCut() {
        HundredMenAft x = new HundredMenAft();
        x.hull(1001, 3);
        x.layer(7, 999);
        Check.due("3 times 6 by 10 is cut to 1, no layer yet", x.heavy(6), -1000);
        Check.due("3 times 7 by 10 is cut to 2, 999 times 999 by 1000 to 998", x.heavy(7), -998);
        Check.due("3 times 10 by 10 is 3, 998 times 999 by 1000 is cut to 997", x.heavy(10), -997);
        x.mix();
        x.layer(0, 1100);
        x.hull(9, 0);
        Check.due("9 times 1100 by 1000 is cut to 9", x.heavy(0), -9);
        x.hull(10, 0);
        Check.due("10 times 1100 by 1000 is 11", x.heavy(0), -11);
        x.mix();
        x.layer(0, 900);
        Check.due("10 times 900 by 1000 is 9", x.heavy(0), -9);
        x.hull(11, 0);
        Check.due("11 times 900 by 1000 is cut to 9", x.heavy(0), -9);
        x.hull(99999, 0);
        x.mix();
        x.layer(0, 1100);
        Check.due("the greatest LIFT", x.heavy(0), -109998);
    }

    private static void layersGoUp() {
        HundredMenAft x = new HundredMenAft();
        Check.due("one", x.layer(100, 1010), 1);
        Check.due("as deep as the one ahead", x.layer(100, 1020), -1);
        Check.due("above the one ahead", x.layer(99, 1020), -1);
        Check.due("far above it", x.layer(0, 1020), -1);
        Check.due("one metre below", x.layer(101, 1020), 2);
        Check.due("above the second, below the first", x.layer(100, 1030), -1);
        Check.due("above the first one 1000", x.heavy(99), -1000);
        Check.due("from its DEPTH on", x.heavy(100), -1010);
        Check.due("from the second one's DEPTH on", x.heavy(101), -1020);
        Check.due("to the deepest", x.heavy(600), -1020);
        Check.due("the third at 600", x.layer(600, 900), 3);
        Check.due("none is below 600", x.layer(600, 900), -1);
        Check.due("none is below 600", x.layer(601, 900), -1);
        Check.due("at 599 still the second", x.heavy(599), -1020);
        Check.due("at 600 the third", x.heavy(600), -900);
        HundredMenAft y = new HundredMenAft();
        for (int i = 1; i <= 6; i++) {
            Check.due("how many", y.layer(i, 1000 + i), i);
        }
        Check.due("refused: 6", y.layer(7, 1000), -1);
        for (int i = 1; i <= 6; i++) {
            Check.due("each is there", y.heavy(i), -1000 - i);
        }
        Check.due("LAYERS", y.count(1), 6);
    }

    private static void mixOfNoneAndOfSix() {
        HundredMenAft x = new HundredMenAft();
        Check.due("none: 0", x.mix(), 0);
        for (int i = 0; i < 6; i++) {
            x.layer(i * 100 + 100, 1100);
        }
        Check.due("all six go", x.mix(), 6);
        Check.due("none are left", x.count(1), 0);
        Check.due("none are left: HEAVY", x.heavy(600), -1000);
        Check.due("again: 0", x.mix(), 0);
        Check.due("then one from the top on can come", x.layer(0, 900), 1);
        Check.due("of it HEAVY", x.heavy(600), -900);
        Check.due("one of one", x.mix(), 1);
    }

    private static void slackAtItsEdges() {
        HundredMenAft x = new HundredMenAft();
        int[] most = {50, 9999, 9999};
        int[] first = {5, 200, 50};
        for (int what = 0; what <= 2; what++) {
            Check.due("what it was at first", x.slack(what, most[what]), first[what]);
            Check.due("one above the most", x.slack(what, most[what] + 1), -1);
            Check.due("below 0", x.slack(what, -1), -1);
            Check.due("what it was", x.slack(what, 0), most[what]);
            Check.due("what it was: 0", x.slack(what, 7 + what), 0);
        }
        Check.due("another what", x.slack(3, 0), -1);
        Check.due("another what", x.slack(-1, 0), -1);
        for (int what = 0; what <= 2; what++) {
            Check.due("each has its own", x.slack(what, 0), 7 + what);
        }
    }

    private static void ofAll() {
        HundredMenAft x = new HundredMenAft();
        for (int i = 0; i < 15; i++) {
            x.load(i % 4, i * 14 - 99, i % 19 - 9, 100 + i, i);
        }
        for (int i = 0; i < 15; i++) {
            int[] want = {i % 4, i * 14 - 99, i % 19 - 9, 100 + i, i};
            for (int what = 0; what <= 4; what++) {
                Check.due("of(" + i + ", " + what + ")", x.of(i, what), want[what]);
            }
        }
        Check.noSuch("none such", () -> x.of(15, 0));
        Check.noSuch("another what", () -> x.of(14, 5));
    }

    private static void heavyOfFifteen() {
        HundredMenAft x = new HundredMenAft();
        int weight = 0;
        int moment = 0;
        int list = 0;
        for (int i = 0; i < 15; i++) {
            x.load(i % 4, i * 7 - 50, i % 5 - 2, 999, 10 + i);
            weight += 10 + i;
            moment += (i * 7 - 50) * (10 + i);
            list += (i % 5 - 2) * (10 + i);
        }
        Check.due("the weight of all 15", x.heavy(0), weight - 1000);
        Check.due("the moment of all 15", x.moment(0), moment);
        Check.due("the list of all 15", x.moment(1), list);
        HundredMenAft y = new HundredMenAft();
        for (int i = 0; i < 15; i++) {
            y.load(0, 99, -9, 999, 999);
        }
        y.base(99999, 999999, -99999);
        y.hull(1, 99);
        y.layer(0, 1100);
        Check.due("the heaviest", y.heavy(600), 99999 + 15 * 999 + 6532);
        Check.due("the greatest moment", y.moment(0), 999999 + 15 * 999 * 99);
        Check.due("the least list", y.moment(1), -99999 - 15 * 999 * 9);
    }

    private static void balancedAtItsSlack() {
        int[][] slacks = {{5, 200, 50}, {0, 0, 0}, {50, 9999, 9999}};
        for (int[] s : slacks) {
            for (int way = -1; way <= 1; way += 2) {
                balancedOnce("all at their SLACK", s, way * s[0], way * s[1], -way * s[2], 1);
                balancedOnce("HEAVY one more", s, way * (s[0] + 1), 0, 0, 0);
                balancedOnce("MOMENT one more", s, 0, way * (s[1] + 1), 0, 0);
                balancedOnce("LIST one more", s, 0, 0, way * (s[2] + 1), 0);
            }
        }
    }

    private static void balancedOnce(String what, int[] slack, int heavy, int moment, int list, int want) {
        HundredMenAft x = new HundredMenAft();
        for (int i = 0; i <= 2; i++) {
            x.slack(i, slack[i]);
        }
        x.base(1000 + heavy, moment, list);
        Check.due(what, x.balanced(0), want);
        Check.due(what + ", as deep as can be", x.balanced(600), want);
        x.layer(600, 900);
        x.base(900 + heavy, moment, list);
        Check.due(what + ", in other water", x.balanced(600), want);
    }

    private static void liesAtNought() {
        HundredMenAft x = new HundredMenAft();
        x.base(1000, 0, 0);
        Check.due("HEAVY 0: it lies", x.lies(0, 600), 0);
        Check.due("from the deepest", x.lies(600, 600), 600);
        Check.due("one metre", x.lies(0, 0), 0);
        x.base(999, 0, 0);
        Check.due("HEAVY below 0: it lies", x.lies(7, 600), 7);
        x.base(1001, 0, 0);
        Check.due("HEAVY 1: it does not", x.lies(0, 600), -2);
        x.layer(599, 1001);
        Check.due("the first DEPTH, up to the deepest", x.lies(0, 600), 599);
        Check.due("up to the one above", x.lies(0, 598), -2);
        Check.due("the last one", x.lies(600, 600), 600);
        Check.due("to above from by one", x.lies(600, 599), -1);
        x.slack(0, 50);
        Check.due("SLACK is nothing here", x.lies(0, 598), -2);
        x.base(1001, 99999, 9999);
        Check.due("nor is MOMENT", x.lies(0, 600), 599);
    }

    private static void hoverNoneOneAll() {
        HundredMenAft x = new HundredMenAft();
        x.base(1000, 0, 0);
        Check.due("all", x.hover(0, 600), 601);
        Check.row("all", x, 0, 600);
        Check.due("one of all", x.hover(600, 600), 1);
        Check.row("one of all", x, 600, 600);
        Check.due("the first", x.hover(0, 0), 1);
        Check.row("the first", x, 0, 0);
        Check.due("to above from", x.hover(1, 0), -1);
        Check.row("refused: the ROW as it was", x, 0, 0);
        x.base(1006, 0, 0);
        Check.due("none", x.hover(0, 600), 0);
        Check.row("none without", x);
        x.layer(300, 1001);
        x.layer(301, 1000);
        Check.due("at one DEPTH", x.hover(0, 600), 1);
        Check.row("at one DEPTH", x, 300, 300);
        x.base(1006, 0, 51);
        Check.due("LIST above its SLACK", x.hover(0, 600), 0);
        Check.row("LIST above its SLACK", x);
        x.base(1006, -201, 0);
        Check.due("MOMENT above its SLACK", x.hover(0, 600), 0);
        x.base(1006, -200, 50);
        Check.due("both at their SLACK", x.hover(0, 600), 1);
        x.mix();
        x.base(995, 0, 0);
        Check.due("too light by just the SLACK", x.hover(0, 600), 601);
        x.base(994, 0, 0);
        Check.due("one less", x.hover(0, 600), 0);
    }
}
