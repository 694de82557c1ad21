import java.util.ArrayList;
import java.util.List;
import java.util.NoSuchElementException;

/**
 * Two boats built alike: a call is made on one of them alone, then both are asked for all that can be seen. Where the
 * document says that nothing changes, both have to answer alike.
 */
final class Twin {
    interface Call {
        long on(HundredMenAft x);
    }

    interface Build {
        HundredMenAft make();
    }

    /** What stands for a NoSuchElementException among answers. */
    static final long THROWN = Long.MIN_VALUE;

    private Twin() {
    }

    static long answer(Call call, HundredMenAft x) {
        try {
            return call.on(x);
        } catch (NoSuchElementException e) {
            return THROWN;
        }
    }

    /** The call answers so, and nothing at all changes. */
    static void same(String what, Build build, long want, Call call) {
        compare(what, build, want, call, true, true);
    }

    /** The call answers so, and nothing changes but the row, which it may tell. */
    static void sameButRow(String what, Build build, long want, Call call) {
        compare(what, build, want, call, false, true);
    }

    /** The call answers so, and nothing changes but the text, which it empties. */
    static void sameButText(String what, Build build, long want, Call call) {
        compare(what, build, want, call, true, false);
    }

    private static void compare(String what, Build build, long want, Call call, boolean row, boolean text) {
        HundredMenAft one = build.make();
        HundredMenAft other = build.make();
        Check.due(what, answer(call, one), want);
        if (!text) {
            Check.due(what + ": signs of the text", one.count(9), 0);
            one.end(0);
            other.end(0);
        }
        List<Long> got = seen(one, row);
        List<Long> due = seen(other, row);
        Check.due(what + ": how much is seen", got.size(), due.size());
        for (int i = 0; i < got.size() && i < due.size(); i++) {
            Check.due(what + ": answer " + i + " behind it", got.get(i), due.get(i));
        }
    }

    /** All that can be seen of a boat by some 300 calls; the boat is not the same behind it. */
    private static List<Long> seen(HundredMenAft x, boolean row) {
        List<Long> all = new ArrayList<>();
        for (int what = 0; what <= 9; what++) {
            if (row || what != 8) {
                all.add((long) x.count(what));
            }
        }
        for (int i = 0; row && i < x.count(8); i++) {
            all.add((long) x.row(i));
        }
        seeLoads(x, all, true);
        seeWater(x, all);
        seeBook(x, all);
        seeTellings(x, all);
        seePumps(x, all);
        all.add((long) x.days(1));
        seeLoads(x, all, false);
        seeKept(x, all);
        return all;
    }

    private static void seeLoads(HundredMenAft x, List<Long> all, boolean places) {
        int loads = x.count(0);
        for (int i = 0; i < loads; i++) {
            for (int what = places ? 0 : 4; what <= 4; what++) {
                all.add((long) x.of(i, what));
            }
        }
    }

    private static void seeWater(HundredMenAft x, List<Long> all) {
        for (int depth = 0; depth <= 600; depth += 30) {
            all.add((long) x.heavy(depth));
        }
        all.add((long) x.moment(0));
        all.add((long) x.moment(1));
        for (int what = 0; what <= 2; what++) {
            int was = x.slack(what, 0);
            all.add((long) was);
            x.slack(what, was);
        }
        int r = x.seed(0);
        all.add((long) r);
        x.seed(r);
    }

    private static void seeBook(HundredMenAft x, List<Long> all) {
        for (int i = 0; i < x.count(2); i++) {
            all.add((long) x.line(i));
        }
        all.add((long) x.morning());
        for (int i = 0; i < x.count(8); i++) {
            all.add((long) x.row(i));
        }
        all.add((long) x.book());
        for (int i = 0; i < x.count(2); i++) {
            all.add((long) x.line(i));
        }
    }

    private static void seeTellings(HundredMenAft x, List<Long> all) {
        for (int i = 0; i < x.count(4); i++) {
            for (int what = 0; what <= 2; what++) {
                all.add((long) x.tells(i, 0, 0, what));
                all.add((long) x.tells(i, 7, 0, what));
            }
        }
        all.add((long) x.fits(99));
        for (int i = 0; i < x.count(8); i++) {
            all.add((long) x.row(i));
        }
    }

    private static void seePumps(HundredMenAft x, List<Long> all) {
        for (int i = 0; i < x.count(3); i++) {
            all.add((long) x.run(i, 1));
            all.add((long) x.heavy(0));
            all.add((long) x.moment(0));
            all.add((long) x.moment(1));
        }
    }

    private static void seeKept(HundredMenAft x, List<Long> all) {
        for (int i = 0; i <= 2; i++) {
            all.add(x.again(i) ? 1L : 0L);
            seeLoads(x, all, false);
            all.add((long) x.count(6));
            all.add((long) x.count(7));
            int r = x.seed(0);
            all.add((long) r);
            x.seed(r);
        }
    }
}
