/** The document's sentences that name an edge, one by one: promises 33 to 41. */
public final class EdgeTellingTest {
    private static final String DIGITS = "0123456789";

    public static void main(String[] args) {
        allSigns();
        loadsThereNow();
        endsTooEarly();
        moreThanThirty();
        loadsAtTheCut();
        theSameLoadTwice();
        refusedTellings();
        atMostSixTellings();
        atMostTwelveGauges();
        tellsAtItsEdges();
        tellsBelowNothingAndAboveMost();
        fitsWithin();
        fitsOfAllGauges();
        fitsFarOff();
        lookAtWhatIsLeft();
        lookOfEqualOnes();
        lookAtTheLastHour();
        airAtItsEdges();
        blowIsCutUp();
        riseBelowNought();
        riseOfEqualOnes();
        riseOfOneToEight();
        timesAtItsEdges();
        Check.finish("EdgeTellingTest");
    }

    private static HundredMenAft boat(int loads) {
        HundredMenAft x = new HundredMenAft();
        for (int i = 0; i < loads; i++) {
            x.load(i % 4, i, 1, 100, 10);
        }
        return x;
    }

    private static int tell(int loads, String s) {
        return Check.telling(boat(loads), s);
    }

    /** Of all 256 signs behind a beginning just those told can stand there. */
    private static void behind(int loads, String beginning, String can) {
        int p = beginning.length();
        for (char c = 0; c < 256; c++) {
            int got = tell(loads, beginning + c);
            String what = "telling " + beginning + " and sign " + (int) c;
            if (can.indexOf(c) >= 0) {
                Check.due(what + " can stand", got == 0 || got == -1 - (p + 1), true);
            } else {
                Check.due(what, got, -1 - p);
            }
        }
    }

    private static void allSigns() {
        behind(13, "", "lvb");
        behind(13, "l0,1;", "lvb");
        for (String kind : new String[] {"l", "b"}) {
            behind(13, kind, DIGITS);
            behind(13, kind + "0", DIGITS + ",");
            behind(13, kind + "1", "012,");
            behind(13, kind + "2", ",");
            behind(13, kind + "12", ",");
            behind(13, kind + "0,", kind.equals("b") ? DIGITS + "-" : DIGITS);
            behind(13, kind + "0,1", DIGITS + ";");
            behind(13, kind + "0,12", DIGITS + ";");
            behind(13, kind + "0,123", ";");
            behind(13, kind + "0,000", ";");
        }
        behind(13, "b0,-", DIGITS);
        behind(13, "b0,-1", DIGITS + ";");
        behind(13, "b0,-12", DIGITS + ";");
        behind(13, "b0,-123", ";");
        behind(13, "v", DIGITS);
        behind(13, "v0", DIGITS + "-");
        behind(13, "v1", "012-");
        behind(13, "v2", "-");
        behind(13, "v12", "-");
        behind(13, "v5-", "012346789");
        behind(13, "v5-0", "012346789,");
        behind(13, "v5-1", "012,");
        behind(13, "v5-2", ",");
        behind(13, "v5-12", ",");
        behind(13, "v5-1,", DIGITS);
        behind(13, "v5-1,1", DIGITS + ";");
        behind(13, "v5-1,123", ";");
    }

    private static void loadsThereNow() {
        behind(0, "", "lvb");
        behind(0, "l", "");
        behind(0, "v", "");
        behind(0, "b", "");
        behind(1, "l", "0");
        behind(1, "l0", "0,");
        behind(3, "l", "012");
        behind(3, "l0", "012,");
        behind(3, "v1", "-");
        behind(15, "l1", "01234,");
        behind(15, "v0-1", "01234,");
        HundredMenAft x = boat(3);
        Check.due("not there", Check.telling(x, "l3,1"), -2);
        x.load(0, 0, 0, 9, 9);
        Check.due("there now", Check.telling(x, "l3,1"), 0);
        Check.due("two digits, not there: at its last digit", Check.telling(x, "l04,1"), -3);
        Check.due("two digits, there", Check.telling(x, "l03,1"), 1);
        Check.due("far from there", Check.telling(x, "l99,1"), -3);
        Check.due("three digits", Check.telling(x, "l003,1"), -4);
    }

    private static void endsTooEarly() {
        String s = "l0,1;v1-02,33;b2,-444";
        boolean[] whole = new boolean[s.length() + 1];
        for (int n : new int[] {4, 12, 13, 19, 20, 21}) {
            whole[n] = true;
        }
        Check.due("an empty text is one, too", tell(3, ""), 0);
        for (int n = 1; n <= s.length(); n++) {
            Check.due("telling " + s.substring(0, n), tell(3, s.substring(0, n)), whole[n] ? 0 : -1 - n);
        }
        Check.due("a LOAD not there is ahead of an early end", tell(3, "l3"), -2);
        Check.due("the same LOAD is ahead of an early end", tell(3, "v2-2"), -4);
    }

    private static void moreThanThirty() {
        String s = "l0,1;".repeat(16);
        for (int n = 1; n <= 80; n++) {
            boolean whole = n <= 30 && n % 5 == 4;
            Check.due("could go on: " + n, tell(1, s.substring(0, n)), whole ? 0 : -1 - Math.min(n, 30));
        }
        String shifted = "l00,1;" + "l0,1;".repeat(14) + "l0,1";
        for (int n = 6; n <= 80; n++) {
            boolean whole = n <= 30 && n % 5 == 0;
            Check.due("could end: " + n, tell(1, shifted.substring(0, n)), whole ? 0 : -1 - Math.min(n, 30));
        }
        for (int p = 0; p < 80; p++) {
            String wrong = shifted.substring(0, p) + "x" + shifted.substring(p + 1);
            Check.due("wrong at " + p + " of 80", tell(1, wrong), -1 - Math.min(p, 30));
        }
        for (int p = 0; p <= 30; p++) {
            Check.due("wrong at " + p + ", its last", tell(1, shifted.substring(0, p) + "x"), -1 - p);
        }
        String ends25 = "l0,1;".repeat(5);
        String ends24 = "l00,1;".repeat(4);
        Check.due("four digits, the fourth behind the first 30", tell(1, ends24 + "l0,1234"), -31);
        Check.due("four digits, the fourth the 30th", tell(1, "l0,1;".repeat(1) + "l00,1;".repeat(3) + "l0,1234"), -30);
        Check.due("three digits end the 30", tell(1, ends24 + "l0,123"), 0);
        Check.due("- the 30th", tell(2, ends25 + "b00,-5"), -31);
        Check.due("80 signs 0", tell(1, "\0".repeat(80)), -1);
    }

    private static void loadsAtTheCut() {
        String ends27 = "l0,1;".repeat(3) + "l0,12;".repeat(2);
        String ends28 = "l0,1;".repeat(2) + "l0,12;".repeat(3);
        String ends25 = "l0,1;".repeat(5);
        String ends26 = "l0,1;".repeat(4) + "l0,12;";
        for (String kind : new String[] {"l", "b", "v"}) {
            String behind = kind.equals("v") ? "-0,1" : ",1";
            Check.due(kind + "13, its last digit the 30th", tell(13, ends27 + kind + "13" + behind), -30);
            Check.due(kind + "13, and no more than it", tell(13, ends27 + kind + "13"), -30);
            Check.due(kind + "12 could go on", tell(13, ends27 + kind + "12" + behind), -31);
            Check.due(kind + "12 ends too early", tell(13, ends27 + kind + "12"), -31);
            Check.due(kind + "13, its first digit the 30th", tell(13, ends28 + kind + "13" + behind), -31);
            Check.due(kind + "99, as far as it stands 9", tell(13, ends28 + kind + "99" + behind), -31);
            Check.due(kind + "99, as far as it stands not there", tell(5, ends28 + kind + "99" + behind), -30);
            Check.due(kind + "5, not there", tell(5, ends28 + kind + "5" + behind), -30);
        }
        Check.due("the second of v, its last digit the 30th", tell(13, ends25 + "v0-13,1"), -30);
        Check.due("the second of v could go on", tell(13, ends25 + "v0-12,1"), -31);
        Check.due("the second of v, its first digit the 30th", tell(13, ends26 + "v0-13,1"), -31);
        Check.due("the second of v, as far as it stands not there", tell(5, ends26 + "v0-99,1"), -30);
        Check.due("the same twice, the 30th", tell(5, ends26 + "v3-3,1"), -30);
        Check.due("the same twice, two digits, the 30th", tell(5, ends25 + "v3-03,1"), -30);
    }

    private static void theSameLoadTwice() {
        Check.due("at the second one's last digit", tell(13, "v0-0,1"), -1 - 3);
        Check.due("of two digits", tell(13, "v12-12,1"), -1 - 5);
        Check.due("told in two ways", tell(13, "v1-01,1"), -1 - 4);
        Check.due("told in two ways", tell(13, "v01-1,1"), -1 - 4);
        Check.due("1 and 12 are two", tell(13, "v1-12,1"), 0);
        Check.due("12 and 1 are two", tell(13, "v12-1,1"), 0);
        Check.due("behind another TERM", tell(13, "l0,1;v2-2,1"), -1 - 8);
        Check.due("twice in two TERMS", tell(13, "v1-2,1;v2-1,1"), 0);
        Check.due("twice in l", tell(13, "l1,1;l1,1"), 0);
    }

    private static void refusedTellings() {
        HundredMenAft x = boat(3);
        int heavy = x.heavy(0);
        Check.due("refused at its end", Check.telling(x, "l0,5;b1,7;v1-2,9;x"), -1 - 17);
        Check.due("THE TEXT is empty", x.count(9), 0);
        Check.due("no TELLING", x.count(4), 0);
        Check.noSuch("none such", () -> x.tells(0, 0, 0, 0));
        Check.due("then an empty one", Check.telling(x, ""), 0);
        for (int what = 0; what <= 2; what++) {
            int now = what == 0 ? heavy : x.moment(what - 1);
            Check.due("nothing of the refused one is in it", x.tells(0, 0, 0, what), now);
            Check.due("nothing of the refused one is in it", x.tells(0, 200, 0, what), now);
        }
        Check.due("refused, too long", Check.telling(x, "b2,5;b2,5;b2,5;b2,5;b2,5;b2,55;"), -31);
        Check.due("the next one", Check.telling(x, "b0,1"), 1);
        Check.due("the next one tells its own", x.tells(1, 9, 0, 2), x.moment(1) + 1);
    }

    private static void atMostSixTellings() {
        HundredMenAft x = boat(2);
        for (int i = 0; i < 6; i++) {
            Check.due("its number", Check.telling(x, "b0," + i), i);
        }
        Check.due("-100: there are 6", Check.telling(x, "b0,7"), -100);
        Check.due("-100, asked first: a wrong text", Check.telling(x, "x"), -100);
        Check.due("-100, asked first: an empty text", Check.telling(x, ""), -100);
        Check.due("-100, asked first: a long text", Check.telling(x, "l0,1;".repeat(16)), -100);
        Check.due("THE TEXT is empty", x.count(9), 0);
        Check.due("TELLINGS", x.count(4), 6);
        for (int i = 0; i < 6; i++) {
            Check.due("each stays", x.tells(i, 0, 0, 0), x.heavy(0) + i);
        }
        Check.noSuch("a seventh", () -> x.tells(6, 0, 0, 0));
    }

    private static void atMostTwelveGauges() {
        HundredMenAft x = boat(2);
        for (int i = 1; i <= 12; i++) {
            Check.due("how many", x.gauge(200, 600, 2, i % 2 == 0 ? -999999 : 999999), i);
        }
        Check.due("refused: 12", x.gauge(0, 0, 0, 0), -1);
        Check.due("GAUGES", x.count(5), 12);
        Check.telling(x, "");
        x.fits(0);
        Check.row("all 12 count", x, 6 * (999999 - 20) + 6 * (999999 + 20));
    }

    private static void tellsAtItsEdges() {
        HundredMenAft x = boat(3);
        Check.telling(x, "l2,999");
        Check.telling(x, "v0-2,999");
        Check.telling(x, "b2,-999;b2,000");
        int heavy = x.heavy(0);
        int moment = x.moment(0);
        int list = x.moment(1);
        Check.due("hour 0", x.tells(0, 0, 0, 0), heavy);
        Check.due("hour 1", x.tells(0, 1, 0, 0), heavy + 999);
        Check.due("hour 200", x.tells(0, 200, 0, 0), heavy + 199800);
        Check.due("hour 200: MOMENT", x.tells(0, 200, 0, 1), moment + 2 * 199800);
        Check.due("hour 200: LIST", x.tells(0, 200, 0, 2), list + 199800);
        Check.due("from one to another: HEAVY", x.tells(1, 200, 600, 0), heavy);
        Check.due("from one to another: MOMENT", x.tells(1, 200, 600, 1), moment + 2 * 199800);
        Check.due("from one to another: LIST", x.tells(1, 200, 600, 2), list);
        Check.due("so much more, from the first hour on", x.tells(2, 0, 0, 1), moment - 1998);
        Check.due("and no more with hours", x.tells(2, 200, 0, 1), moment - 1998);
        x.layer(600, 1100);
        Check.due("at another DEPTH", x.tells(0, 0, 600, 0), heavy - 100);
        Check.due("above it", x.tells(0, 0, 599, 0), heavy);
        Check.noSuch("hour 201", () -> x.tells(0, 201, 0, 0));
        Check.noSuch("hour -1", () -> x.tells(0, -1, 0, 0));
        Check.noSuch("DEPTH 601", () -> x.tells(0, 0, 601, 0));
        Check.noSuch("what 3", () -> x.tells(0, 0, 0, 3));
        Check.noSuch("TELLING 3", () -> x.tells(3, 0, 0, 0));
    }

    private static void tellsBelowNothingAndAboveMost() {
        HundredMenAft x = new HundredMenAft();
        x.load(0, -9, 3, 10, 5);
        x.load(0, 7, 1, 10, 5);
        Check.telling(x, "v0-1,6");
        Check.due("one below 0, the other above MOST: MOMENT", x.tells(0, 1, 0, 1), -9 * -1 + 7 * 11);
        Check.due("one below 0, the other above MOST: LIST", x.tells(0, 1, 0, 2), 3 * -1 + 11);
        Check.telling(x, "b0,-6");
        Check.due("a book that lies below 0", x.tells(1, 0, 0, 0), 10 - 6 - 1000);
        Check.telling(x, "l1,6");
        Check.due("a leak above MOST", x.tells(2, 1, 0, 0), 10 + 6 - 1000);
        x.fill(0, 0);
        x.fill(1, 10);
        Check.due("what they say now", x.tells(0, 1, 0, 1), -9 * -6 + 7 * 16);
    }

    private static void fitsWithin() {
        HundredMenAft x = boat(1);
        Check.due("no TELLINGS", x.fits(0), 0);
        Check.row("no TELLINGS", x);
        Check.telling(x, "");
        Check.telling(x, "b0,10");
        Check.telling(x, "b0,-10");
        Check.due("no GAUGES: all", x.fits(0), 7);
        Check.row("no GAUGES: all", x, 0, 0, 0);
        x.gauge(0, 0, 0, x.heavy(0));
        Check.due("within 0", x.fits(0), 1);
        Check.row("within 0", x, 0, 10, 10);
        Check.due("within 9", x.fits(9), 1);
        Check.due("within 10, above and below", x.fits(10), 7);
        Check.due("within 99", x.fits(99), 7);
        Check.due("within 100", x.fits(100), -1);
        Check.due("within -1", x.fits(-1), -1);
        x.fill(0, 20);
        Check.due("by what they say now", x.fits(0), 4);
        Check.row("by what they say now", x, 10, 20, 0);
    }

    private static void fitsOfAllGauges() {
        HundredMenAft x = new HundredMenAft();
        x.load(0, 2, 3, 100, 10);
        Check.telling(x, "l0,1");
        Check.telling(x, "l0,2");
        x.layer(10, 1010);
        x.gauge(5, 0, 0, -985);
        Check.due("HEAVY 5 hours on", x.fits(0), 1);
        Check.row("HEAVY 5 hours on", x, 0, 5);
        x.gauge(5, 10, 0, -995);
        Check.due("and in other water", x.fits(0), 1);
        Check.row("and in other water", x, 0, 10);
        x.gauge(200, 0, 1, 420);
        Check.due("and MOMENT at hour 200", x.fits(0), 1);
        Check.row("and MOMENT at hour 200", x, 0, 410);
        x.gauge(200, 0, 2, 631);
        Check.due("one GAUGE one off", x.fits(0), 0);
        Check.row("one GAUGE one off", x, 1, 410 + 599);
        Check.due("within 1", x.fits(1), 1);
    }

    private static void fitsFarOff() {
        HundredMenAft x = new HundredMenAft();
        x.load(0, -99, -9, 100, 0);
        x.load(0, 99, 9, 100, 0);
        Check.telling(x, "v0-1,999;v0-1,999;v0-1,999");
        Check.telling(x, "v1-0,999;v1-0,999;v1-0,999");
        int far = 198 * 2997 * 200;
        Check.due("as far as it can go", x.tells(0, 200, 0, 1), far);
        Check.due("as far the other way", x.tells(1, 200, 0, 1), -far);
        for (int i = 0; i < 12; i++) {
            x.gauge(200, 0, 1, -999999);
        }
        Check.due("none fits", x.fits(99), 0);
        Check.row("12 GAUGES, each as far off as can be", x, 12 * (far + 999999), 12 * (far - 999999));
    }

    private static void lookAtWhatIsLeft() {
        HundredMenAft x = new HundredMenAft();
        x.load(0, 0, 0, 100, 10);
        Check.due("no TELLINGS", x.look(5, 0), -2);
        Check.telling(x, "b0,5");
        Check.due("one", x.look(5, 0), -2);
        Check.telling(x, "b0,-5");
        Check.due("two, 10 apart, within 9", x.look(9, 0), 1);
        Check.row("the first hour, HEAVY", x, 0, 0);
        Check.due("two, 10 apart, within 10", x.look(10, 0), 2);
        Check.row("none tells them apart: the first hour, HEAVY", x, 0, 0);
        x.gauge(0, 0, 0, x.heavy(0) + 5);
        Check.due("one is left", x.look(9, 0), -2);
        Check.due("both are left", x.look(10, 0), 2);
        x.gauge(0, 0, 0, x.heavy(0) - 50);
        Check.due("none is left", x.look(9, 0), -2);
        HundredMenAft y = new HundredMenAft();
        y.load(0, 0, 0, 100, 10);
        Check.telling(y, "b0,20");
        Check.telling(y, "l0,2");
        Check.due("20 apart at hour 0, then nearer, 22 at hour 21", y.look(20, 0), 1);
        Check.row("20 apart at hour 0, then nearer, 22 at hour 21", y, 21, 0);
        Check.due("within 19", y.look(19, 600), 1);
        Check.row("within 19", y, 0, 0);
        Check.due("within 28: never", y.look(28, 600), 2);
        Check.due("within 27: hour 24", y.look(27, 600), 1);
        Check.row("within 27: hour 24", y, 24, 0);
    }

    private static void lookOfEqualOnes() {
        HundredMenAft x = new HundredMenAft();
        x.load(0, 4, -4, 100, 10);
        x.load(0, 0, 0, 100, 10);
        Check.telling(x, "v1-0,1");
        Check.telling(x, "");
        Check.due("MOMENT and LIST alike", x.look(11, 0), 1);
        Check.row("the first hour, then what: MOMENT", x, 3, 1);
        HundredMenAft y = new HundredMenAft();
        y.load(0, 0, 4, 100, 10);
        y.load(0, 0, 0, 100, 10);
        Check.telling(y, "v1-0,1");
        Check.telling(y, "");
        Check.due("LIST alone", y.look(11, 0), 1);
        Check.row("LIST alone", y, 3, 2);
        HundredMenAft z = new HundredMenAft();
        z.load(0, 1, 5, 100, 10);
        Check.telling(z, "");
        Check.telling(z, "l0,1");
        Check.telling(z, "l0,2");
        Check.due("at hour 0 all go together, within 0 at hour 1 none", z.look(0, 0), 1);
        Check.row("at hour 1 HEAVY tells it", z, 1, 0);
        Check.due("within 4: LIST at hour 1", z.look(4, 0), 1);
        Check.row("within 4: LIST at hour 1", z, 1, 2);
        Check.due("within 5: HEAVY and MOMENT 2, LIST 10 apart at hour 2", z.look(5, 0), 1);
        Check.row("within 5: LIST at hour 2", z, 2, 2);
        Check.telling(z, "l0,2");
        Check.due("two that tell the same go together", z.look(0, 0), 2);
        Check.row("two that tell the same", z, 1, 0);
    }

    private static void lookAtTheLastHour() {
        HundredMenAft x = new HundredMenAft();
        x.load(0, 0, 0, 100, 10);
        Check.telling(x, "l0,4");
        Check.telling(x, "");
        Check.due("96 apart at hour 24, within 95", x.look(95, 0), 1);
        Check.row("hour 24", x, 24, 0);
        Check.due("within 96: never", x.look(96, 0), 2);
        Check.row("within 96: hour 0", x, 0, 0);
        Check.due("within 99", x.look(99, 0), 2);
        Check.due("within 100", x.look(100, 0), -1);
        Check.due("within 0", x.look(0, 600), 1);
        Check.row("within 0: hour 1", x, 1, 0);
    }

    private static void airAtItsEdges() {
        HundredMenAft x = new HundredMenAft();
        Check.due("at first 0", x.air(99999), 0);
        Check.due("100000", x.air(100000), -1);
        Check.due("-1", x.air(-1), -1);
        Check.due("the most", x.count(6), 99999);
        Check.due("what it was", x.air(0), 99999);
        Check.due("what it was: 0", x.air(1), 0);
    }

    private static void blowIsCutUp() {
        HundredMenAft x = new HundredMenAft();
        x.load(0, 0, 0, 999, 0);
        int[][] hasDepthAir = {{0, 0, 0}, {0, 600, 0}, {1, 0, 1}, {1, 1, 2}, {1, 9, 2}, {1, 10, 2}, {1, 11, 3},
            {10, 1, 11}, {9, 1, 10}, {11, 1, 13}, {1, 600, 61}, {999, 0, 999}, {999, 600, 60939}, {3, 5, 5}, {2, 5, 3}};
        for (int[] h : hasDepthAir) {
            String what = h[0] + " at " + h[1];
            x.fill(0, h[0]);
            if (h[2] > 0) {
                x.air(h[2] - 1);
                Check.due(what + ": one less AIR", x.blow(0, h[1]), -2);
                Check.due(what + ": it HAS all", x.of(0, 4), h[0]);
                Check.due(what + ": AIR as it was", x.count(6), h[2] - 1);
            }
            x.air(h[2]);
            Check.due(what + ": just enough AIR", x.blow(0, h[1]), 0);
            Check.due(what + ": it HAS none", x.of(0, 4), 0);
            Check.due(what + ": no AIR", x.count(6), 0);
        }
    }

    private static HundredMenAft tanks(int heavy, int... has) {
        HundredMenAft x = new HundredMenAft();
        int sum = 0;
        for (int h : has) {
            x.load(0, 0, 0, 999, h);
            sum += h;
        }
        x.base(1000, 0, 0);
        x.hull(1000 + sum - heavy, 0);
        x.air(99999);
        return x;
    }

    private static void riseBelowNought() {
        HundredMenAft x = tanks(10, 10, 11);
        Check.due("just 0 is not below 0", x.rise(1, 0), -2);
        Check.due("one below", x.rise(2, 0), 1);
        Check.row("one below", x, 2, 99999 - 11);
        Check.due("the other is no use", x.rise(3, 0), 1);
        Check.row("the other is no use", x, 2, 99999 - 11);
        x.air(10);
        Check.due("AIR is one less", x.rise(3, 0), -2);
        x.air(11);
        Check.due("AIR is just enough", x.rise(3, 0), 1);
        Check.row("AIR is just enough", x, 2, 0);
        x = tanks(0, 10);
        Check.due("HEAVY 0 is not below 0", x.rise(1, 0), 1);
        x = tanks(-1, 10, 0);
        x.air(0);
        Check.due("below 0 as it is, with no AIR", x.rise(3, 0), 0);
        Check.row("none, AIR left", x, 0, 0);
        x = tanks(5, 3, 3);
        Check.due("two needed", x.rise(3, 0), 2);
        Check.row("two needed", x, 3, 99999 - 6);
        x.layer(10, 1100);
        Check.due("at a DEPTH it is below 0", x.rise(3, 10), 0);
        Check.row("at a DEPTH it is below 0", x, 0, 99999);
        x = tanks(6, 3, 3);
        Check.due("-2: none do", x.rise(3, 0), -2);
        x = tanks(10, 11, 20, 12);
        Check.due("TANKS not told stay", x.rise(2, 0), 1);
        Check.row("TANKS not told stay", x, 2, 99999 - 20);
        Check.due("TANKS not told stay", x.rise(6, 0), 1);
        Check.row("TANKS not told stay", x, 4, 99999 - 12);
    }

    private static void riseOfEqualOnes() {
        HundredMenAft x = tanks(19, 10, 10, 20, 20);
        Check.due("20 by one, the fewest", x.rise(15, 0), 1);
        Check.row("then the least bits", x, 4, 99999 - 20);
        Check.due("without it the next", x.rise(11, 0), 1);
        Check.row("without it the next", x, 8, 99999 - 20);
        Check.due("10 and 10", x.rise(3, 0), 2);
        x = tanks(9, 10, 10, 0);
        Check.due("one that HAS none costs none: the fewest", x.rise(7, 0), 1);
        Check.row("the least bits", x, 1, 99999 - 10);
        x = tanks(9, 0, 10, 10);
        x.rise(7, 0);
        Check.row("the least bits that do", x, 2, 99999 - 10);
        x = tanks(9, 30, 11, 10);
        x.rise(7, 0);
        Check.row("the least AIR ahead of the least bits", x, 4, 99999 - 10);
        x = tanks(19, 21, 15, 5);
        x.rise(7, 0);
        Check.row("the least AIR ahead of the fewest", x, 6, 99999 - 20);
        x = tanks(19, 20, 15, 5);
        x.rise(7, 1);
        Check.row("15 and 5 at one metre: 17 and 6 against 22", x, 1, 99999 - 22);
    }

    private static void riseOfOneToEight() {
        HundredMenAft x = tanks(7, 1, 1, 1, 1, 1, 1, 1, 1, 1);
        Check.due("8 of them", x.rise(255, 0), 8);
        Check.row("8 of them", x, 255, 99999 - 8);
        Check.due("another 8 of them", x.rise(510, 0), 8);
        Check.row("another 8 of them", x, 510, 99999 - 8);
        Check.due("9 of them", x.rise(511, 0), -1);
        Check.due("7 of them do not", x.rise(127, 0), -2);
        Check.due("none of them", x.rise(0, 0), -1);
        Check.due("one that is not there", x.rise(1 << 9, 0), -1);
        HundredMenAft y = new HundredMenAft();
        for (int i = 0; i < 15; i++) {
            y.load(i < 7 ? 1 : 0, 0, 0, 999, i + 1);
        }
        y.base(1000, 0, 0);
        y.hull(1000 + 120 - 91, 0);
        y.air(99999);
        Check.due("the last eight: 8 .. 15 are 92", y.rise(255 << 7, 0), 8);
        Check.row("the last eight: 8 .. 15 are 92", y, 255 << 7, 99999 - 92);
        Check.due("a STORE among them", y.rise(127 << 6, 0), -1);
    }

    private static void timesAtItsEdges() {
        HundredMenAft x = new HundredMenAft();
        x.load(0, 0, 0, 10, 0);
        x.load(0, 0, 0, 0, 0);
        x.load(0, 0, 0, 5, 5);
        Check.due("no AIR", x.times(1, 0), 0);
        Check.row("no AIR", x, 0);
        x.air(29);
        Check.due("one less than three times", x.times(1, 0), 2);
        Check.row("one less than three times", x, 9);
        x.air(30);
        Check.due("just three times", x.times(1, 0), 3);
        Check.row("just three times", x, 0);
        Check.due("both: full to MOST, not what they HAVE", x.times(5, 0), 2);
        Check.row("both", x, 0);
        Check.due("with one that holds nothing", x.times(7, 0), 2);
        Check.due("that one alone", x.times(2, 0), -1);
        Check.due("none told", x.times(0, 0), -1);
        Check.row("refused: the ROW as it was", x, 0);
        x.air(99999);
        Check.due("5 at 5 metres: 7.5, cut up to 8", x.times(4, 5), 99999 / 8);
        Check.row("5 at 5 metres", x, 99999 % 8);
        Check.due("10 at 5 metres is 15, both are 23", x.times(5, 5), 99999 / 23);
        Check.due("AIR as it is", x.count(6), 99999);
        HundredMenAft y = new HundredMenAft();
        for (int i = 0; i < 15; i++) {
            y.load(0, 0, 0, 999, 0);
        }
        y.air(99999);
        Check.due("15 of them at 600 metres", y.times(32767, 600), 0);
        Check.row("15 of them at 600 metres", y, 99999);
        Check.due("15 of them at 0", y.times(32767, 0), 6);
        Check.row("15 of them at 0", y, 99999 - 6 * 14985);
    }
}
