/** Promises 16 to 21: the morning's book. */
public final class BookTest {
    public static void main(String[] args) {
        sign();
        end();
        books();
        wrongBooks();
        longBooks();
        booksThatStay();
        line();
        morning();
        holds();
        holdsByStores();
        Check.finish("BookTest");
    }

    private static void sign() {
        HundredMenAft x = new HundredMenAft();
        for (int i = 1; i <= 20; i++) {
            Check.due("sign", x.sign(0x303d3168), 4 * i);
        }
        Check.due("sign 84", x.sign(0), -1);
        Check.due("signs", x.count(9), 80);
        x.end(77);
        Check.due("sign 81", x.sign(0), -1);
        x.end(76);
        Check.due("sign 80", x.sign(0), 80);
        x.end(0);
        Check.due("highest byte first", x.sign('0' << 24 | '=' << 16 | '7' << 8 | '8'), 4);
        Check.due("book", x.book(), 1);
        Check.due("line", x.line(0), 78);
    }

    private static void end() {
        HundredMenAft x = new HundredMenAft();
        x.sign(0);
        Check.due("end(5)", x.end(5), false);
        Check.due("end(-1)", x.end(-1), false);
        Check.due("end(4)", x.end(4), true);
        Check.due("end(1)", x.end(1), true);
        Check.due("end(2)", x.end(2), false);
        Check.due("signs", x.count(9), 1);
        Check.due("end(0)", x.end(0), true);
    }

    private static void books() {
        HundredMenAft x = new HundredMenAft();
        Check.due("empty", Check.book(x, ""), 0);
        Check.due("one", Check.book(x, "0=1"), 1);
        Check.due("load 15, n15", Check.book(x, "15=n15;00=n00;9=9999"), 3);
        Check.due("four in one another", Check.book(x, "0=((((1))))*((((2))))"), 1);
        Check.due("many -", Check.book(x, "0=------1*---2--3"), 1);
        Check.due("15 lines", Check.book(x, "0=1;0=1;0=1;0=1;0=1;0=1;0=1;0=1;0=1;0=1;0=1;0=1;0=1;0=1;0=1"), 15);
        Check.due("60 signs", Check.book(x, "0=1+1+1+1+1+1+1+1+1+1+1+1+1+1+1+1+1+1+1+1+1+1+1+1+1+1+1+1+11"), 1);
        Check.due("the text is empty", x.count(9), 0);
    }

    private static void wrongBooks() {
        HundredMenAft x = new HundredMenAft();
        String[] texts = {"x", "=1", "0", "01", "012", "16=1", "161=1", "0=", "0=+1", "0=1+", "0=1+*2", "0=12345",
            "0=(", "0=()", "0=(1", "0=1)", "0=(1;0=1)", "0=(((((1)))))", "0=n", "0=nh", "0=n16", "0=n123", "0=n160",
            "0=1;", "0=1;;0=1", ";", "0=1 ", "0 =1", "0=hh", "0=1h", "0=-", "0=2*-", "0=1;16=2", "0=H", "0==1",
            "0=\u00e9", "0=99=1", "0=1(", "-1=0", "0=n1n2", "0=w;1"};
        int[] at = {0, 0, 1, 2, 2, 1, 1, 2, 2, 4, 4, 6, 3, 3, 4, 3, 4, 6, 3, 3, 4, 5, 4, 4, 4, 0, 3, 1, 3, 3, 3, 5, 5,
            2, 2, 2, 4, 3, 0, 4, 5};
        for (int i = 0; i < texts.length; i++) {
            Check.due("book " + texts[i], Check.book(x, texts[i]), -1 - at[i]);
            Check.due("the text is empty", x.count(9), 0);
        }
    }

    private static void longBooks() {
        HundredMenAft x = new HundredMenAft();
        String sum = "0=1+1+1+1+1+1+1+1+1+1+1+1+1+1+1+1+1+1+1+1+1+1+1+1+1+1+1+1+1";
        Check.due("59 signs", sum.length(), 59);
        Check.due("could end", Check.book(x, sum + "11"), -61);
        Check.due("could go on", Check.book(x, sum + "+1"), -61);
        Check.due("ends too early at 60", Check.book(x, sum + "+"), -61);
        Check.due("wrong behind 60", Check.book(x, sum + "1x"), -61);
        Check.due("wrong at 59", Check.book(x, sum + "x1"), -60);
        String short57 = sum.substring(0, 57);
        Check.due("a load above 15 in the first 60", Check.book(x, short57 + "+n1"), 1);
        Check.due("a load above 15 in the first 60", Check.book(x, short57.substring(0, 55) + "+1+n16"), -61);
        Check.due("a load above 15 in the first 60", Check.book(x, short57.substring(0, 55) + "1+n16"), -60);
        Check.due("a load above 15 ends the first 60", Check.book(x, short57 + ";16=1"), -60);
        Check.due("it stands there half", Check.book(x, short57 + "1;16=1"), -61);
        Check.due("80 signs", Check.book(x, sum + "+2+2+2+2+2+2+2+2+2+22"), -61);
        Check.due("an open one", Check.book(x, "0=(" + sum.substring(2) + ")"), -61);
    }

    private static void booksThatStay() {
        HundredMenAft x = new HundredMenAft();
        Check.book(x, "0=7;1=8");
        Check.due("wrong", Check.book(x, "0=x"), -3);
        Check.due("lines", x.count(2), 2);
        Check.due("line 1", x.line(1), 8);
        Check.due("empty", Check.book(x, ""), 0);
        Check.due("lines", x.count(2), 0);
    }

    private static int value(HundredMenAft x, String expression) {
        Check.due("book of " + expression, Check.book(x, "0=" + expression), 1);
        return x.line(0);
    }

    private static void line() {
        HundredMenAft x = new HundredMenAft();
        x.load(0, 10, 1, 100, 40);
        x.load(1, -20, -2, 100, 5);
        x.base(900, 7, 3);
        x.days(3);
        Check.due("from the left", value(x, "10-3-2"), 5);
        Check.due("* ahead", value(x, "10-3*2+1"), 5);
        Check.due("( )", value(x, "(10-3)*(2+1)"), 21);
        Check.due("-", value(x, "-2*-3--4"), 10);
        Check.due("- of ( )", value(x, "---(1+2)"), -3);
        Check.due("h", value(x, "h"), 945 - 1000);
        Check.due("m", value(x, "m"), 7 + 400 - 100);
        Check.due("l", value(x, "l"), 3 + 40 - 10);
        Check.due("d", value(x, "d"), 3);
        Check.due("w", value(x, "w"), 1000);
        x.layer(0, 1020);
        Check.due("w of a layer", value(x, "w"), 1020);
        x.layer(1, 1030);
        Check.due("w of the first layer", value(x, "w"), 1020);
        Check.due("h in it", value(x, "h"), 945 - 1020);
        Check.due("n", value(x, "n0+n01*100"), 540);
        Check.due("n of none", value(x, "n2+n15"), 0);
        Check.due("as ints", value(x, "9999*9999*9999"), 9999 * 9999 * 9999);
        Check.due("not put", value(x, "-500"), -500);
        Check.noSuch("line(1)", () -> x.line(1));
        Check.noSuch("line(-1)", () -> x.line(-1));
    }

    private static void morning() {
        HundredMenAft x = new HundredMenAft();
        x.load(0, 10, 0, 100, 40);
        x.load(1, 0, 0, 100, 30);
        x.load(0, -10, 0, 50, 20);
        Check.book(x, "0=60;1=5;2=n0*2;7=1;0=-5;2=n1");
        Check.due("morning", x.morning(), 4);
        Check.row("morning", x, 40, -1, 20, -1, 60, 50, 20 + 30, 60 + 20);
        Check.due("tank 0", x.of(0, 4), 0);
        Check.due("store 1", x.of(1, 4), 30);
        Check.due("tank 2", x.of(2, 4), 30);
        Check.book(x, "");
        Check.due("no lines", x.morning(), 0);
        Check.row("no lines", x, 0, 0);
        Check.book(x, "0=1;0=2;0=3;0=4;0=5;0=6;0=7;0=8;0=9;0=8;0=7;0=6;0=5;0=4;0=3");
        Check.due("15 lines", x.morning(), 15);
        Check.row("15 lines", x, 0, 1, 2, 3, 4, 5, 6, 7, 8, 9, 8, 7, 6, 5, 4, 9, 6);
    }

    private static void holds() {
        HundredMenAft x = new HundredMenAft();
        x.load(0, 0, 0, 100, 10);
        x.base(990, 0, 0);
        Check.due("for ever", x.holds(0), -2);
        Check.due("601", x.holds(601), -1);
        Check.due("-1", x.holds(-1), -1);
        Check.book(x, "0=10+d");
        Check.due("six days", x.holds(0), 6);
        Check.row("six days", x, 6, 0, 0);
        Check.due("nothing changes", x.of(0, 4), 10);
        Check.due("nothing changes", x.count(7), 0);
        x.days(4);
        Check.due("two days", x.holds(0), 2);
        Check.book(x, "0=90");
        Check.due("at once", x.holds(0), 0);
        Check.row("at once", x, 80, 0, 0);
        Check.due("deep, in no other water", x.holds(600), 0);
        x.base(1000, 0, 0);
        Check.book(x, "0=10*(d-403)");
        Check.due("400 days more", x.holds(0), 400);
        Check.row("400 days more", x, 10, 0, 0);
        Check.book(x, "0=10*(d-404)");
        Check.due("401 days more", x.holds(0), -2);
        Check.row("none: as it was", x, 10, 0, 0);
        x.base(595, 0, 0);
        Check.book(x, "0=0");
        Check.due("far too light", x.holds(0), 0);
        Check.row("far too light", x, -405, 0, 0);
    }

    private static void holdsByStores() {
        HundredMenAft x = new HundredMenAft();
        x.load(0, 10, 2, 400, 0);
        x.load(1, 10, 2, 800, 400);
        x.eats(1, 1, 0, -1);
        x.base(600, -4000, -800);
        Check.book(x, "0=400-n1");
        Check.due("the tank has what is eaten", x.holds(0), -2);
        Check.book(x, "0=-h+n0");
        Check.due("by heavy", x.holds(0), -2);
        x.fill(1, 406);
        Check.due("400 days", x.holds(0), 0);
        Check.row("400 days", x, 6, 60, 12);
        Check.book(x, "0=0");
        x.fill(1, 400);
        Check.due("five stand", x.holds(0), 6);
        Check.row("five stand", x, -6, -60, -12);
        x.eats(1, 50, 100, 0);
        x.slack(0, 50);
        x.slack(1, 9999);
        x.slack(2, 9999);
        Check.due("what comes to the tank goes out in the morning", x.holds(0), 2);
        Check.row("behind the morning", x, -100, -1000, -200);
        Check.due("the store is as it was", x.of(1, 4), 400);
    }
}
