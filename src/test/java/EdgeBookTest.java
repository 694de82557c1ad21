/** The document's sentences that name an edge, one by one: promises 16 to 23. */
public final class EdgeBookTest {
    private static final String DIGITS = "0123456789";
    private static final String THINGS = DIGITS + "-(hmldwn";
    private static final int LEAST = Integer.MIN_VALUE;
    private static final int MOST = Integer.MAX_VALUE;

    public static void main(String[] args) {
        signByBytes();
        endOfWhatItHas();
        allSigns();
        endsTooEarly();
        moreThanSixty();
        loadsAtTheCut();
        atMostFourInOneAnother();
        bookOfSixtySigns();
        refusedBooks();
        valuesAtTheirEdges();
        valuesGoRound();
        thingsOfNow();
        morningPutsToItsEdges();
        morningOfTwoDigits();
        morningDoesTanksAlone();
        holdsFromNowOn();
        holdsFourHundred();
        holdsAtADepth();
        liarAtItsEdges();
        liarOfFifteen();
        twoAtItsEdges();
        twoOfFifteen();
        twoOfUnlikePlaces();
        Check.finish("EdgeBookTest");
    }

    private static String repeat(String s, int n) {
        return s.repeat(n);
    }

    private static int bookOf(String s) {
        return Check.book(new HundredMenAft(), s);
    }

    private static void signByBytes() {
        HundredMenAft x = new HundredMenAft();
        Check.due("of v the highest byte first", x.sign(0x313d3233), 4);
        Check.due("book 1=23", x.book(), 1);
        Check.due("line", x.line(0), 23);
        Check.due("a byte above 127 first", x.sign(0xff3d3233), 4);
        Check.due("it can't stand", x.book(), -1);
        x.sign(0x303d3100);
        Check.due("a sign 0 counts, too", x.count(9), 4);
        Check.due("a sign 0 can't stand", x.book(), -4);
        Check.due("all bits", x.sign(-1), 4);
        x.book();
        for (int i = 1; i <= 20; i++) {
            Check.due("how many it has", x.sign(i), 4 * i);
        }
        Check.due("80 are not more than 80", x.count(9), 80);
        Check.due("refused: there would be 84", x.sign(0), -1);
        Check.due("it has 80 still", x.count(9), 80);
        x.end(79);
        Check.due("refused: there would be 83", x.sign(0), -1);
        x.end(77);
        Check.due("refused: there would be 81", x.sign(0), -1);
        x.end(76);
        Check.due("80", x.sign(0), 80);
    }

    private static void endOfWhatItHas() {
        HundredMenAft x = new HundredMenAft();
        Check.due("empty: its first 0", x.end(0), true);
        Check.due("empty: not 1", x.end(1), false);
        x.sign(0x303d3738);
        x.sign(0x392b3131);
        Check.due("it has not so many", x.end(9), false);
        Check.due("n below 0", x.end(-1), false);
        Check.due("n far below 0", x.end(LEAST), false);
        Check.due("n far above", x.end(MOST), false);
        Check.due("all it has", x.end(8), true);
        Check.due("signs", x.count(9), 8);
        Check.due("its first 5", x.end(5), true);
        Check.due("it has not so many any more", x.end(6), false);
        Check.due("book 0=789", x.book(), 1);
        Check.due("line", x.line(0), 789);
        Check.due("the text is empty behind it", x.end(1), false);
        x.sign(0x303d3738);
        x.end(1);
        x.sign(0x3d360000);
        x.end(3);
        x.book();
        Check.due("what was cut off is gone: 0=6", x.line(0), 6);
    }

    /** Of all 256 signs behind a beginning just those told can stand there. */
    private static void behind(String beginning, String can) {
        int p = beginning.length();
        for (char c = 0; c < 256; c++) {
            int got = bookOf(beginning + c);
            boolean stands = can.indexOf(c) >= 0;
            String what = "book " + beginning + " and sign " + (int) c;
            if (stands) {
                Check.due(what + " can stand", got > 0 || got == -1 - (p + 1), true);
            } else {
                Check.due(what, got, -1 - p);
            }
        }
    }

    private static void allSigns() {
        String next = "+-*;";
        behind("", DIGITS);
        behind("0", DIGITS + "=");
        behind("1", "012345=");
        behind("2", "=");
        behind("9", "=");
        behind("00", "=");
        behind("15", "=");
        behind("0=", THINGS);
        behind("0=-", THINGS);
        behind("0=---", THINGS);
        behind("0=(", THINGS);
        behind("0=(((", THINGS);
        behind("0=((((", THINGS.replace("(", ""));
        behind("0=h+", THINGS);
        behind("0=h-", THINGS);
        behind("0=h*", THINGS);
        behind("0=1", DIGITS + next);
        behind("0=12", DIGITS + next);
        behind("0=123", DIGITS + next);
        behind("0=1234", next);
        behind("0=0000", next);
        for (char c : "hmldw".toCharArray()) {
            behind("0=" + c, next);
        }
        behind("0=(h", "+-*)");
        behind("0=(1", DIGITS + "+-*)");
        behind("0=(h)", next);
        behind("0=((h)", "+-*)");
        behind("0=n", DIGITS);
        behind("0=n0", DIGITS + next);
        behind("0=n1", "012345" + next);
        behind("0=n2", next);
        behind("0=n15", next);
        behind("0=h;", DIGITS);
        behind("0=h;1", "012345=");
        behind("0=h;15=", THINGS);
    }

    private static void endsTooEarly() {
        String s = "15=-(n0+12)*h;3=d--4";
        int[] lines = new int[s.length() + 1];
        lines[11] = 1;
        lines[13] = 1;
        lines[17] = 2;
        lines[20] = 2;
        Check.due("an empty one: 0 LINES", bookOf(""), 0);
        for (int n = 1; n <= s.length(); n++) {
            Check.due("book " + s.substring(0, n), bookOf(s.substring(0, n)), lines[n] > 0 ? lines[n] : -1 - n);
        }
        Check.due("a LOAD above 15 is ahead of an early end", bookOf("0=1;16"), -1 - 5);
        Check.due("n above 15 is ahead of an early end", bookOf("0=(n16"), -1 - 5);
        Check.due("three digits of a LOAD: above 15 at the second", bookOf("160=1"), -1 - 1);
        Check.due("three digits of a LOAD: the third can't stand", bookOf("150=1"), -1 - 2);
        Check.due("three digits of n: above 15 at the second", bookOf("0=n160"), -1 - 4);
        Check.due("three digits of n: the third can't stand", bookOf("0=n150"), -1 - 5);
    }

    private static void moreThanSixty() {
        String sum = "0=" + repeat("1+", 39);
        Check.due("80 signs", sum.length(), 80);
        for (int n = 53; n <= 80; n++) {
            boolean whole = n <= 60 && n % 2 == 1;
            int end = Math.min(n, 60);
            Check.due("the first 60 could go on: " + n + " signs", bookOf(sum.substring(0, n)), whole ? 1 : -1 - end);
        }
        String shifted = "00=" + repeat("1+", 38) + "1";
        for (int n = 54; n <= 80; n++) {
            boolean whole = n <= 60 && n % 2 == 0;
            int end = Math.min(n, 60);
            Check.due("the first 60 could end: " + n + " signs", bookOf(shifted.substring(0, n)), whole ? 1 : -1 - end);
        }
        for (int p = 2; p < 80; p++) {
            String wrong = shifted.substring(0, p) + "x" + shifted.substring(p + 1);
            Check.due("wrong at " + p + " of 80", bookOf(wrong), -1 - Math.min(p, 60));
        }
        for (int p = 2; p <= 60; p++) {
            String wrong = shifted.substring(0, p) + "x";
            Check.due("wrong at " + p + ", its last", bookOf(wrong), -1 - p);
        }
        Check.due("five digits, the fifth behind the first 60", bookOf(sum.substring(0, 56) + "12345"), -61);
        Check.due("five digits, the fifth the last of 60", bookOf(shifted.substring(0, 55) + "12345"), -60);
        Check.due("80 signs 0", bookOf(repeat("\0", 80)), -1);
        Check.due("60 of - and more", bookOf("0=" + repeat("-", 60)), -61);
    }

    private static void loadsAtTheCut() {
        String ends57 = "0=" + repeat("1+", 27) + "1";
        String ends58 = "00=" + repeat("1+", 27) + "1";
        Check.due("57 signs", ends57.length(), 57);
        Check.due("58 signs", ends58.length(), 58);
        Check.due("a LOAD above 15, its last digit the 60th sign", bookOf(ends57 + ";16=1"), -60);
        Check.due("a LOAD above 15, and no more than it", bookOf(ends57 + ";16"), -60);
        Check.due("a LOAD of 15 there could go on", bookOf(ends57 + ";15=1"), -61);
        Check.due("a LOAD of 15 there ends too early", bookOf(ends57 + ";15"), -61);
        Check.due("a LOAD above 15, its first digit the 60th sign", bookOf(ends58 + ";16=1"), -61);
        Check.due("a LOAD far above 15, as far as it stands 9", bookOf(ends58 + ";99=1"), -61);
        Check.due("a LOAD behind the first 60", bookOf(ends58 + "1;16=1"), -61);
        String plus57 = "00=" + repeat("1+", 27);
        String plus58 = "0=" + repeat("1+", 28);
        Check.due("57 signs", plus57.length(), 57);
        Check.due("58 signs", plus58.length(), 58);
        Check.due("n above 15, its last digit the 60th sign", bookOf(plus57 + "n16+1"), -60);
        Check.due("n above 15, and no more than it", bookOf(plus57 + "n16"), -60);
        Check.due("n15, and no more than it", bookOf(plus57 + "n15"), 1);
        Check.due("n15 there could go on", bookOf(plus57 + "n15+1"), -61);
        Check.due("n above 15, its first digit the 60th sign", bookOf(plus58 + "n16"), -61);
        Check.due("n99, as far as it stands 9", bookOf(plus58 + "n99"), -61);
        Check.due("n1 ends the 60", bookOf(plus58 + "n1"), 1);
        Check.due("n the 60th sign", bookOf(plus57 + "1+n16"), -61);
    }

    private static void atMostFourInOneAnother() {
        Check.due("four", bookOf("0=((((1))))"), 1);
        Check.due("five", bookOf("0=(((((1)))))"), -1 - 6);
        Check.due("four, closed, and four again", bookOf("0=((((1))))+((((2))))"), 1);
        Check.due("four, three closed, three opened", bookOf("0=((((1)))*(((2))))"), 1);
        Check.due("four, three closed, four opened", bookOf("0=((((1)))*((((2)))))"), -1 - 14);
        Check.due("four behind -", bookOf("0=-(-(-(-(1))))"), 1);
        Check.due("five behind -", bookOf("0=-(-(-(-(-(1)))))"), -1 - 11);
        Check.due("each LINE by itself", bookOf("0=((((1))));1=((((2))))"), 2);
        Check.due("one too many closed", bookOf("0=((((1)))))"), -1 - 11);
    }

    private static void bookOfSixtySigns() {
        HundredMenAft x = new HundredMenAft();
        String s = repeat("0=1;", 14) + "0=1";
        Check.due("15 LINES", Check.book(x, s), 15);
        Check.due("count of LINES", x.count(2), 15);
        Check.due("the last LINE", x.line(14), 1);
        Check.noSuch("LINE 15", () -> x.line(15));
        Check.due("16 LINES are more than 60 signs", Check.book(x, s + ";0=1"), -61);
        Check.due("the 15 stay", x.count(2), 15);
        String sum = "0=" + repeat("1+", 28) + "11";
        Check.due("60 signs", sum.length(), 60);
        Check.due("60 signs", Check.book(x, sum), 1);
        Check.due("all of them count", x.line(0), 39);
        String minus = "0=" + repeat("-", 57) + "7";
        Check.due("- ahead of a thing, any many", Check.book(x, minus), 1);
        Check.due("57 of them", x.line(0), -7);
        Check.due("57 of them ahead of h", Check.book(x, "0=" + repeat("-", 57) + "h"), 1);
        Check.due("57 of them ahead of h", x.line(0), 1000);
    }

    private static void refusedBooks() {
        HundredMenAft x = new HundredMenAft();
        Check.book(x, "3=5;4=6");
        String[] wrong = {"", "x", "0=1;1=2;2=", "16=1", repeat("1", 80)};
        for (int i = 1; i < wrong.length; i++) {
            Check.due("refused", Check.book(x, wrong[i]) < 0, true);
            Check.due("THE BOOK stays", x.count(2), 2);
            Check.due("LINE 0 stays", x.line(0), 5);
            Check.due("LINE 1 stays", x.line(1), 6);
            Check.due("THE TEXT is empty", x.count(9), 0);
        }
        Check.due("an empty text empties THE BOOK", x.book(), 0);
        Check.due("no LINES", x.count(2), 0);
        Check.noSuch("no LINE", () -> x.line(0));
    }

    private static int value(HundredMenAft x, String expression) {
        Check.due("book of " + expression, Check.book(x, "0=" + expression), 1);
        return x.line(0);
    }

    private static void valuesAtTheirEdges() {
        HundredMenAft x = new HundredMenAft();
        Check.due("0", value(x, "0"), 0);
        Check.due("0000", value(x, "0000"), 0);
        Check.due("9999", value(x, "9999"), 9999);
        Check.due("0009", value(x, "0009"), 9);
        Check.due("four ( )", value(x, "((((7))))"), 7);
        Check.due("four ( ) with something in each", value(x, "-(2*(3+(4-(5+6))))"), 8);
        Check.due("four ( ) twice", value(x, "((((7))))*((((6))))"), 42);
        Check.due("+ - from the left", value(x, "1-2-3+4-5"), -5);
        Check.due("* ahead of + -", value(x, "1-2*3+4*5-6"), 9);
        Check.due("- ahead of *", value(x, "-2*-3"), 6);
        Check.due("- behind -", value(x, "5---3"), 2);
        Check.due("- behind +", value(x, "5+-3"), 2);
        Check.due("- behind *", value(x, "5*--3"), 15);
        Check.due("put to nothing: below 0", value(x, "0-9999"), -9999);
    }

    private static void valuesGoRound() {
        HundredMenAft x = new HundredMenAft();
        Check.due("the greatest int", value(x, "2147*1000*1000+483*1000+647"), MOST);
        Check.due("one more goes round", value(x, "2147*1000*1000+483*1000+648"), LEAST);
        Check.due("the least one less goes round", value(x, "-2147*1000*1000-483*1000-649"), MOST);
        Check.due("* goes round", value(x, "9999*9999*9999*9999"), 9999 * 9999 * 9999 * 9999);
        Check.due("- of the least is the least", value(x, "-(2147*1000*1000+483*1000+648)"), LEAST);
        Check.due("65536 times 65536", value(x, "256*256*256*256"), 0);
        Check.due("and goes on from there", value(x, "256*256*256*256+5"), 5);
    }

    private static void thingsOfNow() {
        HundredMenAft x = new HundredMenAft();
        for (int i = 0; i < 15; i++) {
            x.load(i % 4, 1, 2, 100, 50 + i);
        }
        Check.due("n14, the last LOAD", value(x, "n14"), 64);
        Check.due("n15, never there", value(x, "n15"), 0);
        Check.due("n with one digit and a + behind", value(x, "n1+4"), 55);
        Check.due("n with two digits", value(x, "n14+n04"), 64 + 54);
        Check.due("h at DEPTH 0", value(x, "h"), 15 * 50 + 105 - 1000);
        x.layer(1, 1100);
        Check.due("h and w at DEPTH 0, above the layer", value(x, "h+w"), 15 * 50 + 105);
        x.mix();
        x.layer(0, 1100);
        Check.due("w in the layer", value(x, "w"), 1100);
        Check.due("h in the layer", value(x, "h"), 15 * 50 + 105 - 1100);
        Check.due("m", value(x, "m"), 855);
        Check.due("l", value(x, "l"), 1710);
        Check.due("d", value(x, "d"), 0);
        x.days(400);
        Check.due("d: what it tells now", x.line(0), 400);
        x.fill(0, 0);
        Check.due("n0 of one that is empty", value(x, "n0"), 0);
        HundredMenAft y = new HundredMenAft();
        Check.due("n0, not there", value(y, "n0"), 0);
        y.load(0, 0, 0, 9, 3);
        Check.due("n0, there since", y.line(0), 3);
    }

    private static void morningPutsToItsEdges() {
        HundredMenAft x = new HundredMenAft();
        x.load(0, 0, 0, 100, 40);
        x.load(0, 0, 0, 0, 0);
        int[] tells = {101, 100, 99, 1, 0};
        int had = 40;
        for (int v : tells) {
            Check.book(x, "0=" + v);
            Check.due("one LINE done", x.morning(), 1);
            int has = Math.min(v, 100);
            Check.row("0=" + v, x, had, Math.max(0, has - had), Math.max(0, had - has));
            Check.due("it HAS", x.of(0, 4), has);
            had = has;
        }
        Check.book(x, "0=-1");
        x.morning();
        Check.row("put to 0", x, 0, 0, 0);
        Check.book(x, "0=2147*1000*1000;0=-2147*1000*1000;1=5");
        Check.due("three LINES done", x.morning(), 3);
        Check.row("far above, far below, one that holds nothing", x, 0, 100, 0, 100, 100);
        Check.book(x, "0=2147*1000*1000+483*1000+648");
        x.fill(0, 7);
        x.morning();
        Check.row("a number that goes round is below 0", x, 7, 0, 7);
        Check.book(x, "");
        Check.due("no LINES: none done", x.morning(), 0);
        Check.row("no LINES", x, 0, 0);
    }

    private static void morningOfTwoDigits() {
        HundredMenAft x = new HundredMenAft();
        for (int i = 0; i < 15; i++) {
            x.load(0, 0, 0, 100, 20 + i);
        }
        Check.book(x, "10=1;09=2;14=3;15=4;3=5;00=6;11=7");
        Check.due("all but LOAD 15", x.morning(), 6);
        Check.row("what each HAD", x, 30, 29, 34, -1, 23, 20, 31, 0, 29 + 27 + 31 + 18 + 14 + 24);
        int[] load = {10, 9, 14, 3, 0, 11};
        int[] has = {1, 2, 3, 5, 6, 7};
        for (int i = 0; i < load.length; i++) {
            Check.due("LOAD " + load[i], x.of(load[i], 4), has[i]);
        }
        Check.due("LOAD 1", x.of(1, 4), 21);
        Check.due("LOAD 4", x.of(4, 4), 24);
    }

    private static void morningDoesTanksAlone() {
        HundredMenAft x = new HundredMenAft();
        for (int kind = 0; kind <= 3; kind++) {
            x.load(kind, 0, 0, 100, 10);
        }
        Check.book(x, "1=5;2=5;3=5;4=5;15=5");
        Check.due("none done", x.morning(), 0);
        Check.row("NONE if it was not done", x, -1, -1, -1, -1, -1, 0, 0);
        for (int i = 0; i <= 3; i++) {
            Check.due("all HAVE what they had", x.of(i, 4), 10);
        }
        Check.book(x, "0=n0+5;0=n0*2;0=n0-29");
        Check.due("each by what is then", x.morning(), 3);
        Check.row("in and out", x, 10, 15, 30, 20, 29);
        Check.due("it HAS", x.of(0, 4), 1);
        x.load(0, 0, 0, 50, 50);
        Check.book(x, "4=h+n4");
        Check.due("h with it", x.morning(), 1);
        Check.due("far too light: 0", x.of(4, 4), 0);
    }

    private static void holdsFromNowOn() {
        HundredMenAft x = new HundredMenAft();
        x.load(0, 10, 1, 100, 0);
        x.base(1000, 0, 0);
        Check.book(x, "0=5");
        Check.due("HEAVY at its SLACK holds", x.holds(0), -2);
        Check.book(x, "0=6");
        Check.due("one more: not on the first DAY", x.holds(0), 0);
        Check.row("HEAVY, MOMENT, LIST then", x, 6, 60, 6);
        x.slack(0, 50);
        Check.book(x, "0=20");
        Check.due("MOMENT at its SLACK holds", x.holds(0), -2);
        Check.book(x, "0=21");
        Check.due("MOMENT above it", x.holds(0), 0);
        Check.row("MOMENT above it", x, 21, 210, 21);
        x.slack(1, 9999);
        x.base(1000, 0, 30);
        Check.book(x, "0=20");
        Check.due("LIST at its SLACK holds", x.holds(0), -2);
        Check.book(x, "0=21");
        Check.due("LIST above it", x.holds(0), 0);
        Check.row("LIST above it", x, 21, 210, 51);
        x.fill(0, 100);
        Check.book(x, "0=0");
        Check.due("out of balance now, but not behind the morning", x.holds(0), -2);
        Check.due("another DEPTH", x.holds(601), -1);
        Check.row("the ROW as it was", x, 21, 210, 51);
    }

    private static void holdsFourHundred() {
        HundredMenAft x = new HundredMenAft();
        x.load(0, 0, 0, 999, 0);
        x.load(1, 0, 0, 999, 500);
        x.base(500, 0, 0);
        x.slack(0, 0);
        Check.book(x, "0=0");
        Check.due("nothing is eaten", x.holds(0), -2);
        x.eats(1, 1, 0, -1);
        Check.due("on the DAY behind this one", x.holds(0), 1);
        Check.row("on the DAY behind this one", x, -1, 0, 0);
        Check.book(x, "0=500-n1");
        Check.due("the book brings it back", x.holds(0), -2);
        x.slack(0, 50);
        x.base(505, 0, 0);
        x.eats(1, 0, 0, -1);
        x.days(30);
        Check.book(x, "0=d-385");
        Check.due("DAY 430 is the first above 45", x.holds(0), -2);
        x.days(1);
        Check.due("400 more: DAY 431", x.holds(0), 400);
        Check.row("400 more: DAY 431", x, 51, 0, 0);
        x.days(1);
        Check.due("399 more", x.holds(0), 399);
        Check.due("the DAY is as it was", x.count(7), 32);
    }

    private static void holdsAtADepth() {
        HundredMenAft x = new HundredMenAft();
        x.load(0, 1, 2, 99, 0);
        x.base(1100, 0, 0);
        x.layer(600, 1100);
        Check.book(x, "0=d");
        Check.due("far too heavy at 599", x.holds(599), 0);
        Check.row("HEAVY at 599", x, 100, 0, 0);
        Check.due("in balance at 600 for five DAYS more", x.holds(600), 6);
        Check.row("HEAVY at 600", x, 6, 6, 12);
    }

    private static void liarAtItsEdges() {
        HundredMenAft x = new HundredMenAft();
        x.load(0, 3, 1, 9, 4);
        x.load(1, 3, 1, 4, 4);
        x.load(2, 3, 1, 4, 0);
        x.load(3, 3, 1, 0, 0);
        x.load(0, 3, 2, 9, 4);
        x.hull(12, 0);
        Check.due("HEAVY, MOMENT, LIST", x.heavy(0) * 10000 + x.moment(0) * 100 + x.moment(1), 3616);
        Check.due("nothing is wrong: all", x.liar(0, 0, 36, 16), 31);
        Check.row("the number it HAS now, too", x, 4, 4, 0, 0, 4);
        Check.due("4 more", x.liar(0, 4, 48, 20), 1 | 4);
        Check.row("4 more: to MOST", x, 8, -1, 4, -1, -1);
        Check.due("5 more", x.liar(0, 5, 51, 21), 1);
        Check.row("5 more: to MOST", x, 9, -1, -1, -1, -1);
        Check.due("6 more: above MOST", x.liar(0, 6, 54, 22), 0);
        Check.row("6 more: above MOST", x, -1, -1, -1, -1, -1);
        Check.due("4 less", x.liar(0, -4, 24, 12), 3);
        Check.row("4 less: to 0", x, 0, 0, -1, -1, -1);
        Check.due("5 less: below 0", x.liar(0, -5, 21, 11), 0);
        Check.due("by another LIST the last one", x.liar(0, -4, 24, 8), 16);
        Check.row("by another LIST the last one", x, -1, -1, -1, -1, 0);
        Check.due("HEAVY one off", x.liar(0, 1, 36, 16), 0);
        Check.due("MOMENT one off", x.liar(0, 0, 37, 16), 0);
        Check.due("LIST one off", x.liar(0, 0, 36, 15), 0);
        Check.due("MOMENT one off of one more", x.liar(0, 1, 40, 17), 0);
        Check.due("the greatest ints", x.liar(0, MOST, MOST, MOST), 0);
        Check.due("the least ints", x.liar(0, LEAST, LEAST, LEAST), 0);
        Check.row("the least ints", x, -1, -1, -1, -1, -1);
        Check.due("no LOADS, nothing wrong", new HundredMenAft().liar(0, -1000, 0, 0), 0);
    }

    private static HundredMenAft fifteenAlike() {
        HundredMenAft x = new HundredMenAft();
        for (int i = 0; i < 15; i++) {
            x.load(i % 4, 1, 1, 9, 5);
        }
        x.hull(75, 0);
        return x;
    }

    private static void liarOfFifteen() {
        HundredMenAft x = fifteenAlike();
        Check.due("each of 15 alone", x.liar(0, 1, 76, 76), 32767);
        Check.row("each of 15 alone", x, 6, 6, 6, 6, 6, 6, 6, 6, 6, 6, 6, 6, 6, 6, 6);
        x.fill(14, 9);
        x.hull(79, 0);
        Check.due("but the one that is full", x.liar(600, 1, 80, 80), 16383);
        Check.row("but the one that is full", x, 6, 6, 6, 6, 6, 6, 6, 6, 6, 6, 6, 6, 6, 6, -1);
    }

    private static void twoAtItsEdges() {
        HundredMenAft x = new HundredMenAft();
        x.load(0, 1, 1, 9, 5);
        x.load(1, 1, -1, 9, 5);
        x.hull(10, 0);
        Check.due("both one more", x.two(0, 2, 12, 0), 1);
        Check.row("both one more", x, 0, 1, 6, 6);
        Check.due("LIST one off", x.two(0, 2, 12, 1), 0);
        Check.row("none: no pair", x);
        Check.due("MOMENT one off", x.two(0, 2, 13, 0), 0);
        Check.due("the first alone two more: the second is as now", x.two(0, 2, 12, 2), 0);
        Check.due("the second alone two more: the first is as now", x.two(0, 2, 12, -2), 0);
        Check.due("three more, one less", x.two(0, 2, 12, 4), 1);
        Check.row("three more, one less", x, 0, 1, 8, 4);
        Check.due("one less, three more", x.two(0, 2, 12, -4), 1);
        Check.row("one less, three more", x, 0, 1, 4, 8);
        Check.due("both to MOST", x.two(0, 8, 18, 0), 1);
        Check.row("both to MOST", x, 0, 1, 9, 9);
        Check.due("above MOST", x.two(0, 10, 20, 0), 0);
        Check.due("both to 0", x.two(0, -10, 0, 0), 1);
        Check.row("both to 0", x, 0, 1, 0, 0);
        Check.due("below 0", x.two(0, -12, -2, 0), 0);
        Check.due("the first to MOST, the second to 0", x.two(0, -1, 9, 9), 1);
        Check.row("the first to MOST, the second to 0", x, 0, 1, 9, 0);
        Check.due("the first to 0, the second to MOST", x.two(0, -1, 9, -9), 1);
        Check.row("the first to 0, the second to MOST", x, 0, 1, 0, 9);
        Check.due("as it is", x.two(0, 0, 10, 0), 0);
        Check.due("the greatest ints", x.two(0, MOST, MOST, MOST), 0);
        Check.due("the least ints", x.two(0, LEAST, LEAST, LEAST), 0);
        Check.due("no LOADS", new HundredMenAft().two(0, -1000, 0, 0), 0);
        HundredMenAft one = new HundredMenAft();
        one.load(0, 1, 1, 9, 5);
        Check.due("one LOAD is no pair", one.two(0, -994, 6, 6), 0);
    }

    private static void twoOfFifteen() {
        HundredMenAft x = fifteenAlike();
        Check.due("pairs that could do so by many numbers count once", x.two(0, 2, 77, 77), 105);
        Check.row("the least of a", x, 0, 1, 3, 9);
        Check.due("8 more: both to MOST", x.two(0, 8, 83, 83), 105);
        Check.row("8 more: both to MOST", x, 0, 1, 9, 9);
        Check.due("9 more", x.two(0, 9, 84, 84), 0);
        Check.due("as it is: one less, the other one more", x.two(0, 0, 75, 75), 105);
        Check.row("as it is: the least of a", x, 0, 1, 1, 9);
        x.fill(0, 9);
        x.hull(79, 0);
        Check.due("the first is full: 8 more need two others", x.two(0, 8, 87, 87), 91);
        Check.row("the first is full: 8 more need two others", x, 1, 2, 9, 9);
        Check.due("4 more: not by the full one, that can't be unlike by less", x.two(0, 4, 83, 83), 91);
    }

    private static void twoOfUnlikePlaces() {
        HundredMenAft x = new HundredMenAft();
        x.load(0, 2, 5, 50, 20);
        x.load(1, -3, 1, 50, 20);
        x.layer(10, 1100);
        int moment = x.moment(0);
        int list = x.moment(1);
        Check.due("7 more, 3 less", x.two(0, -960 + 4, moment + 14 + 9, list + 35 - 3), 1);
        Check.row("7 more, 3 less", x, 0, 1, 27, 17);
        Check.due("5 less, 9 more", x.two(0, -960 + 4, moment - 10 - 27, list - 25 + 9), 1);
        Check.row("5 less, 9 more", x, 0, 1, 15, 29);
        Check.due("7 more, 3 less in other water", x.two(10, -1060 + 4, moment + 14 + 9, list + 35 - 3), 1);
        Check.row("7 more, 3 less in other water", x, 0, 1, 27, 17);
        Check.due("in other water it is another HEAVY", x.two(10, -960 + 4, moment + 14 + 9, list + 35 - 3), 0);
        Check.due("liar in other water", x.liar(10, -1060 + 7, moment + 14, list + 35), 1);
        Check.row("liar in other water", x, 27, -1);
        Check.due("in other water it is another HEAVY", x.liar(10, -960 + 7, moment + 14, list + 35), 0);
    }
}
