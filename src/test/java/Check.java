import java.util.NoSuchElementException;

/** What the tests share: answers that are due, rows, texts. */
final class Check {
    interface Call {
        long go();
    }

    private static int asked = 0;
    private static int wrong = 0;

    private Check() {
    }

    static void due(String what, long got, long want) {
        asked++;
        if (got != want) {
            wrong++;
            System.out.println(what + " answered " + got + ", due is " + want);
        }
    }

    static void due(String what, boolean got, boolean want) {
        due(what, got ? 1 : 0, want ? 1 : 0);
    }

    static void row(String what, HundredMenAft x, int... want) {
        due(what + ": numbers of the row", x.count(8), want.length);
        for (int i = 0; i < want.length && i < x.count(8); i++) {
            due(what + ": row(" + i + ")", x.row(i), want[i]);
        }
        noSuch(what + ": row behind its end", () -> x.row(want.length));
    }

    static void noSuch(String what, Call call) {
        int threw = 0;
        try {
            call.go();
        } catch (NoSuchElementException e) {
            threw = 1;
        }
        due(what + " throws NoSuchElementException", threw, 1);
    }

    /** Puts a text there, whatever stood there. */
    static void text(HundredMenAft x, String s) {
        x.end(0);
        for (int i = 0; i < s.length(); i += 4) {
            int v = 0;
            for (int k = i; k < i + 4; k++) {
                v = v << 8 | (k < s.length() ? s.charAt(k) & 255 : 0);
            }
            x.sign(v);
        }
        due("end of the text " + s, x.end(s.length()), true);
    }

    static int book(HundredMenAft x, String s) {
        text(x, s);
        return x.book();
    }

    static int telling(HundredMenAft x, String s) {
        text(x, s);
        return x.telling();
    }

    static void finish(String name) {
        System.out.println(name + ": " + asked + " asked, " + wrong + " wrong");
        if (wrong != 0) {
            System.exit(1);
        }
    }
}
