/** Promises 33 to 37: sinking slowly. */
public final class TellingTest {
    public static void main(String[] args) {
        telling();
        wrongTellings();
        longTellings();
        sixTellings();
        gauge();
        tells();
        fits();
        look();
        lookOfThoseLeft();
        Check.finish("TellingTest");
    }

    private static HundredMenAft boat(int loads) {
        HundredMenAft x = new HundredMenAft();
        for (int i = 0; i < loads; i++) {
            x.load(i % 4, i - 3, i % 3, 100, 10);
        }
        return x;
    }

    private static void telling() {
        HundredMenAft x = boat(13);
        Check.due("empty", Check.telling(x, ""), 0);
        Check.due("leak", Check.telling(x, "l0,1"), 1);
        Check.due("valve", Check.telling(x, "v12-01,999"), 2);
        Check.due("lie", Check.telling(x, "b3,-20"), 3);
        Check.due("all of them", Check.telling(x, "l0,1;v1-2,30;b10,400;b1,-0"), 4);
        Check.due("30 signs", Check.telling(x, "l0,1;l0,1;l0,1;l0,1;l0,1;l0,12"), 5);
        Check.due("tellings", x.count(4), 6);
        Check.due("the text is empty", x.count(9), 0);
    }

    private static void wrongTellings() {
        HundredMenAft x = boat(3);
        String[] texts = {"x", "l", "l,1", "l0", "l0,", "l0,x", "l0,-1", "l0,1234", "l3,1", "l12,1", "l002,1", "l0;1",
            "v0,1", "v0-", "v0-0,1", "v1-01,1", "v0-3,1", "v3-0,1", "v0-1", "v0-1,", "v0-1,-1", "b0,--1", "b0,-",
            "b0,1;", "b0,1;;", ";", "b0,1 ", "b 0,1", "l0,1l0,1", "L0,1", "l3", "v0-0"};
        int[] at = {0, 1, 1, 2, 3, 3, 3, 6, 1, 2, 3, 2, 2, 3, 3, 4, 3, 1, 4, 5, 5, 4, 4, 5, 5, 0, 4, 1, 4, 0, 1, 3};
        for (int i = 0; i < texts.length; i++) {
            Check.due("telling " + texts[i], Check.telling(x, texts[i]), -1 - at[i]);
            Check.due("the text is empty", x.count(9), 0);
        }
        Check.due("tellings", x.count(4), 0);
        Check.due("no loads", Check.telling(new HundredMenAft(), "l0,1"), -2);
        Check.due("no loads, empty", Check.telling(new HundredMenAft(), ""), 0);
    }

    private static void longTellings() {
        HundredMenAft x = boat(3);
        String four = "l0,1;l0,1;l0,1;l0,1;l0,1;";
        Check.due("25 signs", four.length(), 25);
        Check.due("could end", Check.telling(x, four + "l0,1;"), -31);
        Check.due("could end", Check.telling(x, four + "l0,123"), -31);
        Check.due("could go on", Check.telling(x, four + "l0,1;l0,1"), -31);
        Check.due("wrong behind 30", Check.telling(x, four + "l0,12x"), -31);
        Check.due("wrong at 29", Check.telling(x, four + "l0,1x2"), -30);
        Check.due("not there at 29", Check.telling(x, four + "v0-05"), -30);
        Check.due("not there at 28", Check.telling(x, four + "v0-5,1"), -29);
        String more = "l0,1;l0,1;l0,1;l0,12;l0,123;";
        Check.due("28 signs", more.length(), 28);
        Check.due("as far as it stands it is not there", Check.telling(x, more + "l5,1"), -30);
        Check.due("nor with what stands behind", Check.telling(x, more + "l50,1"), -30);
        Check.due("there, and it goes on", Check.telling(x, more + "l2,1"), -31);
        Check.due("half of it stands there", Check.telling(x, more + "b05,1"), -31);
        Check.due("the same twice, the second one at 29", Check.telling(x, four + "v0-00,1"), -30);
    }

    private static void sixTellings() {
        HundredMenAft x = boat(3);
        for (int i = 0; i < 6; i++) {
            Check.due("telling", Check.telling(x, "l0,1"), i);
        }
        Check.due("a seventh", Check.telling(x, "l0,1"), -100);
        Check.due("asked first", Check.telling(x, "x"), -100);
        Check.due("the text was read", x.count(9), 0);
        Check.due("tellings", x.count(4), 6);
    }

    private static void gauge() {
        HundredMenAft x = boat(1);
        int[][] wrong = {{-1, 0, 0, 0}, {201, 0, 0, 0}, {0, -1, 0, 0}, {0, 601, 0, 0}, {0, 0, -1, 0}, {0, 0, 3, 0},
            {0, 0, 0, 1000000}, {0, 0, 0, -1000000}};
        for (int[] w : wrong) {
            Check.due("wrong gauge", x.gauge(w[0], w[1], w[2], w[3]), -1);
        }
        Check.due("gauge", x.gauge(0, 0, 0, -999999), 1);
        Check.due("gauge", x.gauge(200, 600, 2, 999999), 2);
        for (int i = 3; i <= 12; i++) {
            Check.due("gauge", x.gauge(1, 1, 1, 1), i);
        }
        Check.due("gauge 13", x.gauge(1, 1, 1, 1), -1);
        Check.due("gauges", x.count(5), 12);
    }

    private static void tells() {
        HundredMenAft x = new HundredMenAft();
        x.load(0, 10, 2, 100, 50);
        x.load(0, -20, 1, 100, 50);
        x.base(900, 7, 3);
        x.layer(5, 1010);
        Check.telling(x, "");
        Check.telling(x, "l0,3;v0-1,2;b1,-40");
        Check.due("nothing told", x.tells(0, 200, 0, 0), 0);
        Check.due("heavy", x.tells(1, 0, 0, 0), -40);
        Check.due("heavy", x.tells(1, 4, 0, 0), -40 + 12);
        Check.due("heavy, deep", x.tells(1, 4, 5, 0), -40 + 12 - 10);
        int moment = 7 + 500 - 1000;
        Check.due("moment", x.tells(1, 4, 0, 1), moment + 800 + 4 * (30 - 20 - 40));
        Check.due("list", x.tells(1, 4, 0, 2), 153 - 40 + 4 * (6 - 4 + 2));
        Check.due("below 0 and above most", x.tells(1, 200, 600, 0), -40 + 600 - 10);
        x.fill(0, 60);
        Check.due("by what they say now", x.tells(1, 4, 0, 0), 10 - 40 + 12);
        int[][] wrong = {{2, 0, 0, 0}, {-1, 0, 0, 0}, {0, -1, 0, 0}, {0, 201, 0, 0}, {0, 0, -1, 0}, {0, 0, 601, 0},
            {0, 0, 0, -1}, {0, 0, 0, 3}};
        for (int[] w : wrong) {
            Check.noSuch("wrong tells", () -> x.tells(w[0], w[1], w[2], w[3]));
        }
    }

    private static void fits() {
        HundredMenAft x = new HundredMenAft();
        x.load(0, 10, 0, 100, 50);
        x.load(0, -10, 0, 100, 50);
        x.base(900, 0, 0);
        Check.due("no tellings", x.fits(0), 0);
        Check.row("no tellings", x);
        Check.telling(x, "");
        Check.telling(x, "l0,2");
        Check.telling(x, "v0-1,3");
        Check.due("no gauges: all", x.fits(0), 7);
        Check.row("no gauges: all", x, 0, 0, 0);
        x.gauge(10, 0, 0, 18);
        Check.due("heavy", x.fits(2), 2);
        Check.row("heavy", x, 18, 2, 18);
        Check.due("within 1", x.fits(1), 0);
        Check.due("within 18", x.fits(18), 7);
        x.gauge(10, 0, 1, -500);
        Check.due("and moment", x.fits(99), 0);
        Check.row("and moment", x, 518, 2 + 700, 18 + 100);
        Check.due("within 100", x.fits(100), -1);
        Check.due("within -1", x.fits(-1), -1);
        Check.row("as it was", x, 518, 702, 118);
    }

    private static void look() {
        HundredMenAft x = new HundredMenAft();
        x.load(0, 10, 0, 100, 50);
        x.load(0, -10, 0, 100, 50);
        Check.due("none", x.look(0, 0), -2);
        Check.telling(x, "");
        Check.due("one", x.look(0, 0), -2);
        Check.telling(x, "v0-1,1");
        Check.due("two", x.look(0, 0), 1);
        Check.row("an hour on, moment", x, 1, 1);
        Check.due("within 20", x.look(20, 0), 1);
        Check.row("two hours on", x, 2, 1);
        Check.telling(x, "l0,1");
        Check.telling(x, "l1,1");
        Check.due("moment tells them all apart", x.look(9, 0), 1);
        Check.row("moment tells them all apart", x, 1, 1);
        Check.telling(x, "l1,1;b0,0");
        Check.due("two tell just the same", x.look(9, 0), 2);
        Check.row("two tell just the same", x, 1, 1);
        Check.due("within 100", x.look(100, 0), -1);
        Check.due("within -1", x.look(-1, 0), -1);
        Check.due("601", x.look(0, 601), -1);
        Check.due("-1", x.look(0, -1), -1);
        Check.row("as it was", x, 1, 1);
    }

    private static void lookOfThoseLeft() {
        HundredMenAft x = new HundredMenAft();
        x.load(0, 0, 0, 100, 50);
        x.load(0, 0, 5, 100, 50);
        Check.telling(x, "b0,40");
        Check.telling(x, "l0,1");
        Check.telling(x, "l1,1");
        Check.telling(x, "");
        x.gauge(0, 0, 0, -900);
        Check.due("the first does not fit", x.fits(10), 14);
        Check.due("list at 3 hours, heavy at 11", x.look(10, 300), 2);
        Check.row("list at 3 hours, heavy at 11", x, 3, 2);
        HundredMenAft y = new HundredMenAft();
        y.load(0, 0, 0, 100, 50);
        Check.telling(y, "l0,1");
        Check.telling(y, "l0,2");
        Check.telling(y, "l0,3");
        Check.due("the one in the middle goes with both", y.look(24, 0), 3);
        Check.row("the one in the middle goes with both", y, 0, 0);
        Check.due("from hour 21 on no two", y.look(20, 0), 1);
        Check.row("from hour 21 on no two", y, 21, 0);
        Check.telling(y, "l0,5");
        Check.due("the fourth is told apart", y.look(24, 0), 3);
        Check.row("the fourth is told apart", y, 13, 0);
        Check.telling(y, "l0,4");
        Check.telling(y, "l0,4");
        Check.due("six of them", y.look(99, 0), 6);
        Check.row("six of them", y, 0, 0);
        HundredMenAft z = new HundredMenAft();
        z.load(0, 0, 0, 100, 50);
        Check.telling(z, "l0,2");
        Check.telling(z, "l0,1");
        Check.due("the last hour", z.look(23, 0), 1);
        Check.row("the last hour", z, 24, 0);
        Check.due("none", z.look(24, 0), 2);
        Check.row("none", z, 0, 0);
        Check.telling(z, "l0,3");
        Check.due("the first goes with both", z.look(24, 0), 3);
    }
}
