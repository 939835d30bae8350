import java.util.ArrayList;
import java.util.List;

/**
 * Every call with any arguments in many states: none may throw (then this program ends with 1),
 * and what is wrong is told by a number from -4 on and changes nothing.
 */
public final class AnyArguments {
    private static final int[] EDGES = {Integer.MIN_VALUE, Integer.MIN_VALUE + 1, -1025, -65, -5, -4, -3, -2, -1, 0, 1, 2,
        3, 4, 5, 6, 7, 8, 9, 10, 11, 12, 15, 16, 31, 32, 33, 40, 41, 63, 64, 90, 91, 127, 255, 256, 999, 1000, 1023,
        1024, 1025, 9999, 10000, 65535, 65536, Integer.MAX_VALUE - 1, Integer.MAX_VALUE};
    private static final String[] TEXTS = {
        "",
        "t0,0;b1;",
        "t20,2;t20,2;t20,3;t20,1;t20,1;t20,1;t20,0;t20,0;t20,3;t20,2;b40;b40;b20;b90;p0,9;p9,9;y0,9;y9,0;",
        "t1,1;t1,1;t1,1;t1,1;t1,1;t1,1;t1,1;t1,1;t1,1;t1,1;b3;b3;b3;b4;p0,1;p1,1;p2,1;p3,1;p4,1;p5,1;p6,1;p7,1;",
        "t9,0;t9,0;t9,0;b9;x0,1,1,9;x1,2,1,9;x2,0,1,9;x0,1,9,9;x1,0,9,9;x2,1,1,1;y0,1;y1,2;y2,0;",
    };
    private static long seed = 7;

    private static int draw(int below) {
        seed = seed * 6364136223846793005L + 1442695040888963407L;
        return (int) ((seed >>> 33) % below);
    }

    private static int edge() {
        return draw(40) == 0 ? draw(Integer.MAX_VALUE) - draw(Integer.MAX_VALUE) : EDGES[draw(EDGES.length)];
    }

    public static void main(String[] args) {
        int wrong = 0;
        for (int run = 0; run < 300; run++) {
            RibbonOfLacks x = new RibbonOfLacks();
            String text = TEXTS[run % TEXTS.length];
            for (int i = 0; i < text.length(); i++) {
                x.write(text.charAt(i));
            }
            x.lay();
            for (int call = 0; call < 300; call++) {
                List<Long> before = face(x);
                long answer = callAny(x, draw(29));
                boolean changed = !before.equals(face(x));
                if (answer < -4 || answer < 0 && changed) {
                    wrong++;
                    System.out.println("run " + run + ", call " + call + ": answered " + answer + ", changed: " + changed);
                }
            }
        }
        System.out.println(wrong == 0 ? "no call throws, none that fails changes anything" : wrong + " are wrong");
        if (wrong != 0) {
            System.exit(1);
        }
    }

    private static List<Long> face(RibbonOfLacks x) {
        List<Long> all = new ArrayList<>();
        for (int i = 0; i < 9; i++) {
            all.add((long) x.count(i));
        }
        for (int b = 0; b < 4; b++) {
            for (int w = 0; w < 4; w++) {
                all.add((long) x.beast(b, w));
            }
        }
        all.add((long) x.missed());
        all.add((long) x.fault());
        return all;
    }

    private static long callAny(RibbonOfLacks x, int which) {
        switch (which) {
            case 0: return x.write(edge());
            case 1: return draw(20) == 0 ? x.wipe() : 0;
            case 2: return Math.max(0, x.fault());
            case 3: return draw(20) == 0 ? x.lay() : 0;
            case 4: return x.thing(edge(), edge());
            case 5: return x.person(edge(), edge());
            case 6: return x.beast(edge(), edge());
            case 7: return x.strength(edge());
            case 8: return x.follows(edge());
            case 9: return x.missed();
            case 10: return x.bind(draw(5), draw(2) == 0 ? edge() : x.least(draw(4), 0));
            case 11: return x.loosen(draw(2) == 0 ? edge() : draw(4));
            case 12: return x.days(draw(2) == 0 ? edge() : draw(4));
            case 13: return x.undo();
            case 14: return x.cost(edge());
            case 15: return x.least(edge(), edge());
            case 16: return x.all(draw(2) == 0 ? edge() : draw(6) - 2);
            case 17: return x.more(edge());
            case 18: return x.worst(edge());
            case 19: return x.back(edge());
            case 20: return x.missing(edge(), edge(), edge());
            case 21: return x.trial(edge(), edge(), edge(), edge());
            case 22: return x.pledge(edge());
            case 23: return x.gain(edge());
            case 24: return x.row(edge(), edge(), draw(2));
            case 25: return x.keep();
            case 26: return x.restore();
            case 27: return x.count(edge());
            default: return x.bind(edge(), edge());
        }
    }
}
