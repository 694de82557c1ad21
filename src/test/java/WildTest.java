import java.util.NoSuchElementException;
import java.util.Random;

/** Any arguments in any state: nothing is thrown but what the document tells, by the calls it tells. */
public final class WildTest {
    private static final int[] EDGES = {Integer.MIN_VALUE, Integer.MIN_VALUE + 1, -1000000, -999999, -601, -100, -99,
        -32, -10, -9, -2, -1, 0, 1, 2, 5, 6, 8, 9, 12, 14, 15, 16, 20, 30, 31, 32, 50, 60, 64, 80, 98, 99, 100, 200,
        255, 400, 401, 599, 600, 601, 900, 999, 1000, 1100, 32767, 65535, 99999, 100000, 999999, 1000000,
        Integer.MAX_VALUE - 1, Integer.MAX_VALUE};
    private static final String SIGNS = "0123456789=;+-*()hmldwnlvb,- ";
    private static final Random RANDOM = new Random(4);

    public static void main(String[] args) {
        for (int run = 0; run < 400; run++) {
            HundredMenAft x = new HundredMenAft();
            for (int i = 0; i < 500; i++) {
                int call = RANDOM.nextInt(64);
                long thrown = thrown(x, call);
                Check.due("call " + call + " throws", thrown > 1 || thrown == 1 && !mayThrow(call), false);
            }
        }
        Check.finish("WildTest");
    }

    private static boolean mayThrow(int call) {
        return call == 8 || call == 9 || call == 10 || call == 17 || call == 33 || call == 51;
    }

    private static int thrown(HundredMenAft x, int call) {
        try {
            go(x, call);
        } catch (NoSuchElementException e) {
            return 1;
        } catch (RuntimeException e) {
            System.out.println(e);
            return 2;
        }
        return 0;
    }

    private static int any() {
        int how = RANDOM.nextInt(8);
        if (how == 0) {
            return RANDOM.nextInt();
        }
        return how < 4 ? EDGES[RANDOM.nextInt(EDGES.length)] : RANDOM.nextInt(16);
    }

    private static int fourSigns() {
        int v = 0;
        for (int i = 0; i < 4; i++) {
            v = v << 8 | SIGNS.charAt(RANDOM.nextInt(SIGNS.length()));
        }
        return v;
    }

    private static void go(HundredMenAft x, int call) {
        boolean yes = RANDOM.nextBoolean();
        switch (call) {
            case 0: x.load(any(), any(), any(), any(), any()); break;
            case 1: x.fill(any(), any()); break;
            case 2: x.sheet(any(), any(), any(), any()); break;
            case 3: x.base(any(), any(), any()); break;
            case 4: x.hull(any(), any()); break;
            case 5: x.layer(any(), any()); break;
            case 6: x.mix(); break;
            case 7: x.slack(any(), any()); break;
            case 8: x.of(any(), any()); break;
            case 9: x.heavy(any()); break;
            case 10: x.moment(any()); break;
            case 11: x.balanced(any()); break;
            case 12: x.lies(any(), any()); break;
            case 13: x.hover(any(), any()); break;
            case 14: x.sign(yes ? fourSigns() : any()); break;
            case 15: x.end(any()); break;
            case 16: x.book(); break;
            case 17: x.line(any()); break;
            case 18: x.morning(); break;
            case 19: x.holds(any()); break;
            case 20: x.liar(any(), any(), any(), any()); break;
            case 21: x.two(any(), any(), any(), any()); break;
            case 22: x.pump(any(), any(), any(), yes); break;
            case 23: x.run(any(), any()); break;
            case 24: x.best(any(), any()); break;
            case 25: x.trim(any(), yes); break;
            case 26: x.reach(any()); break;
            case 27: x.shot(any(), any(), any(), any(), any()); break;
            case 28: x.dive(any(), any(), any()); break;
            case 29: x.forward(any(), any(), any(), any(), any()); break;
            case 30: x.carry(any(), any(), any()); break;
            case 31: x.telling(); break;
            case 32: x.gauge(any(), any(), any(), any()); break;
            case 33: x.tells(any(), any(), any(), any()); break;
            case 34: x.fits(any()); break;
            case 35: x.look(any(), any()); break;
            case 36: x.air(any()); break;
            case 37: x.blow(any(), any()); break;
            case 38: x.rise(any(), any()); break;
            case 39: x.times(any(), any()); break;
            case 40: x.eats(any(), any(), any(), any()); break;
            case 41: x.days(any()); break;
            case 42: x.lasts(any()); break;
            case 43: x.shift(any()); break;
            case 44: x.ground(any(), any()); break;
            case 45: x.ice(any(), any()); break;
            case 46: x.keep(any()); break;
            case 47: x.again(any()); break;
            case 48: x.seed(any()); break;
            case 49: x.lie(); break;
            case 50: x.count(any()); break;
            case 51: x.row(any()); break;
            case 52: x.load(RANDOM.nextInt(4), RANDOM.nextInt(199) - 99, 3, 999, RANDOM.nextInt(1000)); break;
            case 53: x.pump(RANDOM.nextInt(16) - 1, RANDOM.nextInt(16) - 1, 1 + RANDOM.nextInt(50), yes); break;
            case 54: Check.book(x, "0=-h;1=(m+l)*d-w;" + RANDOM.nextInt(16) + "=n" + RANDOM.nextInt(16)); break;
            case 55: Check.telling(x, "l" + RANDOM.nextInt(16) + ",9;b0,-50;v0-1,3"); break;
            case 56: x.eats(RANDOM.nextInt(15), 3, 50, RANDOM.nextInt(15) - 1); break;
            case 57: x.gauge(RANDOM.nextInt(200), any(), RANDOM.nextInt(3), any()); break;
            case 58: x.times(1 << RANDOM.nextInt(32), RANDOM.nextInt(600)); break;
            case 59: x.rise(RANDOM.nextInt(1 << 15), RANDOM.nextInt(600)); break;
            default: x.layer(RANDOM.nextInt(600), 900 + RANDOM.nextInt(200)); break;
        }
    }
}
