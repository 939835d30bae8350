import java.util.ArrayDeque;
import java.util.ArrayList;
import java.util.Arrays;
import java.util.Deque;
import java.util.HashMap;
import java.util.HashSet;
import java.util.List;
import java.util.Map;
import java.util.Set;
import java.util.TreeSet;
import java.util.regex.Matcher;
import java.util.regex.Pattern;

/**
 * Long runs of calls on texts drawn by a fixed row of numbers, each answer beside that of a
 * second program, written from the document in the slowest and plainest way.
 */
public final class OracleRuns {
    private static final int BAD = -1, NO = -2, FULL = -3, NONE = -4;
    private static final int RUNS = 260;
    private static final int CALLS = 300;

    private static long seed = 20261118;

    private static int draw(int below) {
        seed = seed * 6364136223846793005L + 1442695040888963407L;
        return (int) ((seed >>> 33) % below);
    }

    /** From low to high, seldom one beside. */
    private static int around(int low, int high) {
        if (draw(25) == 0) {
            return draw(2) == 0 ? low - 1 : high + 1;
        }
        return low + draw(Math.max(1, high - low + 1));
    }

    public static void main(String[] args) {
        int wrong = 0;
        for (int run = 0; run < RUNS && wrong < 20; run++) {
            wrong += compareOnce(run);
        }
        System.out.println(wrong == 0 ? "both programs answer alike" : wrong + " runs differ");
        if (wrong != 0) {
            System.exit(1);
        }
    }

    private static int compareOnce(int run) {
        RibbonOfLacks x = new RibbonOfLacks();
        Plain y = new Plain();
        List<String> told = new ArrayList<>();
        int calls = 0;
        boolean big = run % 4 == 3;
        int texts = run % 5 == 0 ? 0 : 1 + draw(3);
        for (int i = 0; i < CALLS; i++) {
            if (texts > 0 && (i == 0 || draw(90) == 0)) {
                texts--;
                String text = drawText(big);
                x.wipe();
                y.wipe();
                for (int c = 0; c < text.length(); c++) {
                    long a = x.write(text.charAt(c));
                    long b = y.write(text.charAt(c));
                    if (a != b) {
                        System.out.println("run " + run + ": write " + c + " of " + text + ": " + a + ", plain " + b);
                        return 1;
                    }
                }
                told.add("text " + text);
                if (!same(run, "fault", x.fault(), y.fault(), told) || !same(run, "lay", x.lay(), y.lay(), told)) {
                    return 1;
                }
            }
            if (!oneCall(run, x, y, told)) {
                return 1;
            }
            calls++;
        }
        return calls == CALLS ? 0 : 1;
    }

    private static boolean same(int run, String call, long got, long want, List<String> told) {
        told.add(call + " = " + got);
        if (got == want) {
            return true;
        }
        System.out.println("run " + run + ": " + call + " answered " + got + ", plain says " + want);
        System.out.println("  " + told);
        return false;
    }

    private static int drawSet(int size) {
        return draw(30) == 0 ? around(0, (1 << size) - 1) : draw(1 << size) & (draw(3) == 0 ? draw(1 << size) : -1);
    }

    private static boolean oneCall(int run, RibbonOfLacks x, Plain y, List<String> told) {
        int n = y.things.size();
        int p = y.persons.size();
        int b = around(0, y.beasts.size() - 1);
        int set = drawSet(n);
        switch (draw(34)) {
            case 0: return same(run, "fault", x.fault(), y.fault(), told);
            case 1: {
                int t = around(0, n - 1);
                int w = around(0, 3);
                return same(run, "thing " + t + " " + w, x.thing(t, w), y.thing(t, w), told);
            }
            case 2: {
                int i = around(0, p - 1);
                int w = around(0, 2);
                return same(run, "person " + i + " " + w, x.person(i, w), y.person(i, w), told);
            }
            case 3: {
                int w = around(0, 3);
                return same(run, "beast " + b + " " + w, x.beast(b, w), y.beast(b, w), told);
            }
            case 4: return same(run, "strength " + set, x.strength(set), y.strength(set), told);
            case 5: return same(run, "follows " + set, x.follows(set), y.follows(set), told);
            case 6:
            case 7: return same(run, "missed", x.missed(), y.missed(), told);
            case 8:
            case 9:
            case 10: {
                int ribbon = x.least(b, 0);
                if (ribbon > 0 && draw(3) > 0) {
                    set = ribbon | (draw(2) == 0 ? set : 0);
                }
                return same(run, "bind " + b + " " + set, x.bind(b, set), y.bind(b, set), told);
            }
            case 11: return same(run, "loosen " + b, x.loosen(b), y.loosen(b), told);
            case 12:
            case 13: {
                int k = draw(12) == 0 ? around(1, 40) : 1 + draw(3);
                return same(run, "days " + k, x.days(k), y.days(k), told);
            }
            case 14: return same(run, "undo", x.undo(), y.undo(), told);
            case 15:
            case 16: return same(run, "cost " + set, x.cost(set), y.cost(set), told);
            case 17:
            case 18: {
                int w = around(0, 1);
                return same(run, "least " + b + " " + w, x.least(b, w), y.least(b, w), told);
            }
            case 19:
            case 20: {
                int w = around(-2, y.beasts.size() - 1);
                return same(run, "all " + w, x.all(w), y.all(w), told);
            }
            case 21: {
                int pull = draw(2) == 0 ? around(1, 90) : 1 + draw(25);
                return same(run, "more " + pull, x.more(pull), y.more(pull), told);
            }
            case 22: {
                int w = around(0, 1);
                return same(run, "worst " + w, x.worst(w), y.worst(w), told);
            }
            case 23: {
                int t = around(0, n - 1);
                return same(run, "back " + t, x.back(t), y.back(t), told);
            }
            case 24:
            case 25: {
                int persons = draw(2) == 0 ? drawSet(p) : y.missersOfSet(draw(1 << n));
                int pull = draw(3) == 0 ? around(0, 90) : draw(20);
                int w = around(0, 2);
                return same(run, "missing " + persons + " " + pull + " " + w,
                    x.missing(persons, pull, w), y.missing(persons, pull, w), told);
            }
            case 26: {
                int a = around(0, 10);
                int f = around(0, 10);
                int k = around(0, 6);
                int part = around(0, 1);
                return same(run, "trial " + a + " " + f + " " + k + " " + part,
                    x.trial(a, f, k, part), y.trial(a, f, k, part), told);
            }
            case 27: {
                int w = around(0, 1);
                return same(run, "pledge " + w, x.pledge(w), y.pledge(w), told);
            }
            case 28: {
                int k = around(-3, 5);
                return same(run, "gain " + k, x.gain(k), y.gain(k), told);
            }
            case 29:
            case 30: {
                int z = around(0, 9999);
                int k = around(1, 40);
                int w = around(0, 1);
                return same(run, "row " + z + " " + k + " " + w, x.row(z, k, w), y.row(z, k, w), told);
            }
            case 31: return draw(3) == 0
                ? same(run, "restore", x.restore(), y.restore(), told)
                : same(run, "keep", x.keep(), y.keep(), told);
            case 32: return draw(2) == 0
                ? same(run, "restore", x.restore(), y.restore(), told)
                : same(run, "lay", x.lay(), y.lay(), told);
            default: {
                int w = around(0, 8);
                return same(run, "count " + w, x.count(w), y.count(w), told);
            }
        }
    }

    private static String drawText(boolean big) {
        int things = big ? 8 + draw(3) : 1 + draw(7);
        int beasts = big ? 1 + draw(2) : 1 + draw(4);
        StringBuilder s = new StringBuilder();
        for (int t = 0; t < things; t++) {
            int kind = draw(4);
            s.append('t').append(draw(3) == 0 ? draw(21) : draw(8)).append(',').append(kind).append(';');
        }
        for (int i = draw(8); i > 0 && things > 1; i--) {
            int a = draw(things);
            s.append('y').append(a).append(',').append((a + 1 + draw(things - 1)) % things).append(';');
        }
        for (int i = draw(9); i > 0; i--) {
            s.append('p').append(draw(things)).append(',').append(1 + draw(9)).append(';');
        }
        for (int i = 0; i < beasts; i++) {
            s.append('b').append(draw(9) == 0 ? 1 + draw(90) : 1 + draw(14)).append(';');
        }
        for (int i = draw(7); i > 0 && things > 1; i--) {
            int a = draw(Math.min(3, things));
            int b = (a + 1 + draw(things - 1)) % Math.min(4, things);
            if (a == b) {
                continue;
            }
            s.append('x').append(a).append(',').append(b).append(',');
            s.append(1 + draw(9)).append(',').append(1 + draw(9)).append(';');
        }
        if (draw(6) == 0) {
            s.setCharAt(draw(s.length()), "0129,;txyb p"
                .charAt(draw(12)));
        }
        if (draw(20) == 0) {
            s.insert(draw(s.length()), draw(100));
        }
        return s.toString();
    }

    /** The document, told once more as plainly as can be. */
    private static final class Plain {
        private static final Pattern ITEM = Pattern.compile("([typbx])(\\d{1,2}(?:,\\d{1,2})*);");

        String text = "";
        List<int[]> things = new ArrayList<>();
        List<int[]> needs = new ArrayList<>();
        List<int[]> persons = new ArrayList<>();
        List<Integer> beasts = new ArrayList<>();
        List<int[]> exchanges = new ArrayList<>();
        Map<Integer, Integer> ribbons = new HashMap<>();
        Map<Integer, Integer> ages = new HashMap<>();
        int[] escapes = new int[4];
        int gone = 0;
        int daysBy = 0;
        Deque<Object[]> undoable = new ArrayDeque<>();
        Deque<Object[]> keptOnes = new ArrayDeque<>();

        Plain() {
            text = "t5,1;t4,1;t6,0;t9,2;t7,3;y2,0;y4,2;p0,3;p2,5;p3,1;p4,2;b12;b16;x0,2,1,2;x2,0,2,1;";
            lay();
            text = "";
        }

        int write(int letter) {
            if (letter < 32 || letter > 126) {
                return BAD;
            }
            if (text.length() == 200) {
                return FULL;
            }
            text += (char) letter;
            return text.length();
        }

        int wipe() {
            int n = text.length();
            text = "";
            return n;
        }

        int fault() {
            return new Parsed().parse(text);
        }

        private static final class Parsed {
            List<int[]> things = new ArrayList<>();
            List<int[]> needs = new ArrayList<>();
            List<int[]> persons = new ArrayList<>();
            List<Integer> beasts = new ArrayList<>();
            List<int[]> exchanges = new ArrayList<>();

            int parse(String s) {
                int at = 0;
                Matcher m = ITEM.matcher(s);
                while (at < s.length()) {
                    m.region(at, s.length());
                    if (!m.lookingAt() || !add(m.group(1), m.group(2).split(","))) {
                        return at;
                    }
                    at = m.end();
                }
                return NONE;
            }

            boolean add(String letter, String[] parts) {
                int[] n = Arrays.stream(parts).mapToInt(Integer::parseInt).toArray();
                int t = things.size();
                if (letter.equals("t")) {
                    things.add(n);
                    return n.length == 2 && n[0] <= 20 && n[1] <= 3 && things.size() <= 10;
                }
                if (letter.equals("y")) {
                    needs.add(n);
                    return n.length == 2 && n[0] < t && n[1] < t && n[0] != n[1] && needs.size() <= 12;
                }
                if (letter.equals("p")) {
                    persons.add(n);
                    return n.length == 2 && n[0] < t && n[1] >= 1 && n[1] <= 9 && persons.size() <= 8;
                }
                if (letter.equals("b")) {
                    beasts.add(n[0]);
                    return n.length == 1 && n[0] >= 1 && n[0] <= 90 && beasts.size() <= 4;
                }
                exchanges.add(n);
                return n.length == 4 && n[0] < t && n[1] < t && n[0] != n[1] && n[2] >= 1 && n[2] <= 9
                    && n[3] >= 1 && n[3] <= 9 && exchanges.size() <= 6;
            }
        }

        int lay() {
            Parsed read = new Parsed();
            if (read.parse(text) != NONE || read.things.isEmpty() || read.beasts.isEmpty()) {
                return NO;
            }
            things = read.things;
            needs = read.needs;
            persons = read.persons;
            beasts = read.beasts;
            exchanges = read.exchanges;
            ribbons.clear();
            ages.clear();
            escapes = new int[4];
            daysBy = 0;
            undoable.clear();
            keptOnes.clear();
            return things.size();
        }

        boolean isSet(int set) {
            return set >= 0 && set < 1 << things.size();
        }

        int strengthOf(int set) {
            int sounds = 0;
            for (int t = 0; t < things.size(); t++) {
                if ((set & 1 << t) != 0 && things.get(t)[1] == 1) {
                    sounds++;
                }
            }
            int sum = 0;
            for (int t = 0; t < things.size(); t++) {
                if ((set & 1 << t) != 0) {
                    sum += things.get(t)[0];
                    if (things.get(t)[1] == 1 && sounds >= 2) {
                        sum += things.get(t)[0];
                    }
                }
            }
            return sum;
        }

        int followersOf(int set) {
            int all = set;
            boolean more = true;
            while (more) {
                more = false;
                for (int[] need : needs) {
                    if ((all & 1 << need[1]) != 0 && (all & 1 << need[0]) == 0) {
                        all |= 1 << need[0];
                        more = true;
                    }
                }
            }
            return all;
        }

        int goneNow() {
            int all = 0;
            for (int ribbon : ribbons.values()) {
                all |= ribbon;
            }
            return all;
        }

        int there() {
            return (1 << things.size()) - 1 & ~followersOf(goneNow());
        }

        int foundNow() {
            int all = 0;
            for (Map.Entry<Integer, Integer> e : ribbons.entrySet()) {
                for (int t = 0; t < things.size(); t++) {
                    boolean hidden = things.get(t)[1] == 3 && ages.get(e.getKey()) < 2;
                    if ((e.getValue() & 1 << t) != 0 && !hidden) {
                        all |= 1 << t;
                    }
                }
            }
            return all;
        }

        int weightMissed(int set) {
            int out = followersOf(set);
            int sum = 0;
            for (int[] person : persons) {
                if ((out & 1 << person[0]) != 0) {
                    sum += person[1];
                }
            }
            return sum;
        }

        int missersOfSet(int set) {
            int out = followersOf(set);
            int who = 0;
            for (int i = 0; i < persons.size(); i++) {
                if ((out & 1 << persons.get(i)[0]) != 0) {
                    who |= 1 << i;
                }
            }
            return who;
        }

        int costOf(int set) {
            return weightMissed(goneNow() | set) - weightMissed(goneNow());
        }

        int thing(int t, int what) {
            if (t < 0 || t >= things.size() || what < 0 || what > 3) {
                return BAD;
            }
            if (what < 2) {
                return things.get(t)[what];
            }
            if (what == 2) {
                return (there() & 1 << t) != 0 ? 1 : 0;
            }
            for (Map.Entry<Integer, Integer> e : ribbons.entrySet()) {
                if ((e.getValue() & 1 << t) != 0) {
                    return e.getKey();
                }
            }
            return NONE;
        }

        int person(int i, int what) {
            if (i < 0 || i >= persons.size() || what < 0 || what > 2) {
                return BAD;
            }
            if (what < 2) {
                return persons.get(i)[what];
            }
            return (missersOfSet(foundNow()) & 1 << i) != 0 ? 1 : 0;
        }

        boolean isBeast(int b) {
            return b >= 0 && b < beasts.size();
        }

        int beast(int b, int what) {
            if (!isBeast(b) || what < 0 || what > 3) {
                return BAD;
            }
            if (what == 0) {
                return beasts.get(b);
            }
            if (what == 1) {
                return ribbons.getOrDefault(b, 0);
            }
            return what == 2 ? ages.getOrDefault(b, NONE) : escapes[b];
        }

        int strength(int set) {
            return isSet(set) ? strengthOf(set) : BAD;
        }

        int follows(int set) {
            return isSet(set) ? followersOf(set) : BAD;
        }

        int missed() {
            return weightMissed(foundNow());
        }

        Object[] snapshot() {
            return new Object[] {new HashMap<>(ribbons), new HashMap<>(ages), escapes.clone(), daysBy};
        }

        @SuppressWarnings("unchecked")
        void put(Object[] s) {
            ribbons = new HashMap<>((Map<Integer, Integer>) s[0]);
            ages = new HashMap<>((Map<Integer, Integer>) s[1]);
            escapes = ((int[]) s[2]).clone();
            daysBy = (Integer) s[3];
        }

        void remember() {
            undoable.addLast(snapshot());
            while (undoable.size() > 8) {
                undoable.removeFirst();
            }
        }

        int bind(int b, int set) {
            if (!isBeast(b) || !isSet(set)) {
                return BAD;
            }
            if (ribbons.containsKey(b) || (set & there()) != set || strengthOf(set) < beasts.get(b)) {
                return NO;
            }
            remember();
            ribbons.put(b, set);
            ages.put(b, 0);
            return strengthOf(set);
        }

        int loosen(int b) {
            if (!isBeast(b)) {
                return BAD;
            }
            if (!ribbons.containsKey(b)) {
                return NO;
            }
            remember();
            ages.remove(b);
            return Integer.bitCount(ribbons.remove(b));
        }

        int oneDay() {
            int out = 0;
            daysBy++;
            for (int b = 0; b < beasts.size(); b++) {
                if (!ribbons.containsKey(b)) {
                    continue;
                }
                ages.merge(b, 1, Integer::sum);
                if (ages.get(b) != 3) {
                    continue;
                }
                int left = 0;
                for (int t = 0; t < things.size(); t++) {
                    if ((ribbons.get(b) & 1 << t) != 0 && things.get(t)[1] != 2) {
                        left |= 1 << t;
                    }
                }
                ribbons.put(b, left);
                if (strengthOf(left) < beasts.get(b)) {
                    ribbons.remove(b);
                    ages.remove(b);
                    escapes[b]++;
                    out++;
                }
            }
            return out;
        }

        int days(int n) {
            if (n < 1 || n > 40) {
                return BAD;
            }
            if (daysBy + n > 999) {
                return NO;
            }
            remember();
            int out = 0;
            for (int i = 0; i < n; i++) {
                out += oneDay();
            }
            return out;
        }

        int undo() {
            if (undoable.isEmpty()) {
                return NO;
            }
            put(undoable.removeLast());
            return undoable.size();
        }

        int cost(int set) {
            return isSet(set) ? costOf(set) : BAD;
        }

        int leastFor(int b) {
            int best = -1;
            for (int set = 0; set < 1 << things.size(); set++) {
                if ((set & there()) == set && strengthOf(set) >= beasts.get(b)) {
                    if (best < 0 || compare(set, best) < 0) {
                        best = set;
                    }
                }
            }
            return best;
        }

        int compare(int a, int b) {
            int byCost = Integer.compare(costOf(a), costOf(b));
            int byCount = Integer.compare(Integer.bitCount(a), Integer.bitCount(b));
            return byCost != 0 ? byCost : byCount != 0 ? byCount : Integer.compare(a, b);
        }

        int least(int b, int what) {
            if (!isBeast(b) || what < 0 || what > 1) {
                return BAD;
            }
            int set = leastFor(b);
            return set < 0 ? NONE : what == 0 ? set : costOf(set);
        }

        /** Each thing that is there is given to a loose beast or to none, in all ways. */
        int all(int which) {
            if (which < -2 || which >= beasts.size()) {
                return BAD;
            }
            List<Integer> loose = new ArrayList<>();
            for (int b = 0; b < beasts.size(); b++) {
                if (!ribbons.containsKey(b)) {
                    loose.add(b);
                }
            }
            if (loose.isEmpty()) {
                return 0;
            }
            int[][] best = new int[1][];
            share(0, there(), loose, new int[loose.size()], best, new HashMap<>());
            if (best[0] == null) {
                return NONE;
            }
            int used = unionOf(best[0]);
            if (which == -1) {
                return used;
            }
            if (which == -2) {
                return costOf(used);
            }
            return loose.contains(which) ? best[0][loose.indexOf(which)] : 0;
        }

        int unionOf(int[] sets) {
            return Arrays.stream(sets).reduce(0, (a, b) -> a | b);
        }

        void share(int t, int there, List<Integer> loose, int[] given, int[][] best, Map<Integer, Integer> known) {
            if (t == things.size()) {
                for (int i = 0; i < given.length; i++) {
                    if (strengthOf(given[i]) < beasts.get(loose.get(i))) {
                        return;
                    }
                }
                if (best[0] == null || compareWays(given, best[0], known) < 0) {
                    best[0] = given.clone();
                }
                return;
            }
            share(t + 1, there, loose, given, best, known);
            if ((there & 1 << t) == 0) {
                return;
            }
            for (int i = 0; i < given.length; i++) {
                given[i] |= 1 << t;
                share(t + 1, there, loose, given, best, known);
                given[i] &= ~(1 << t);
            }
        }

        int compareWays(int[] a, int[] b, Map<Integer, Integer> known) {
            int ua = unionOf(a);
            int ub = unionOf(b);
            int ca = known.computeIfAbsent(ua, this::costOf);
            int cb = known.computeIfAbsent(ub, this::costOf);
            if (ca != cb) {
                return Integer.compare(ca, cb);
            }
            if (Integer.bitCount(ua) != Integer.bitCount(ub)) {
                return Integer.compare(Integer.bitCount(ua), Integer.bitCount(ub));
            }
            return ua != ub ? Integer.compare(ua, ub) : Arrays.compare(a, b);
        }

        int more(int p) {
            if (p < 1 || p > 90) {
                return BAD;
            }
            return mostOf(there(), p, new HashMap<>());
        }

        int mostOf(int set, int p, Map<Integer, Integer> known) {
            if (known.containsKey(set)) {
                return known.get(set);
            }
            int best = 0;
            for (int sub = set; sub > 0; sub = (sub - 1) & set) {
                if (strengthOf(sub) >= p) {
                    best = Math.max(best, 1 + mostOf(set & ~sub, p, known));
                }
            }
            known.put(set, best);
            return best;
        }

        int worst(int what) {
            if (what < 0 || what > 1) {
                return BAD;
            }
            int which = NONE;
            int most = -1;
            for (int t = 0; t < things.size(); t++) {
                if ((there() & 1 << t) == 0) {
                    continue;
                }
                int n = 0;
                for (int u = 0; u < things.size(); u++) {
                    if (u != t && (there() & 1 << u) != 0 && (followersOf(1 << t) & 1 << u) != 0) {
                        n++;
                    }
                }
                if (n > most) {
                    which = t;
                    most = n;
                }
            }
            return which == NONE || what == 0 ? which : most;
        }

        int back(int t) {
            if (t < 0 || t >= things.size()) {
                return BAD;
            }
            int gone = goneNow();
            int best = gone;
            for (int sub = gone; ; sub = (sub - 1) & gone) {
                boolean there = (followersOf(gone & ~sub) & 1 << t) == 0;
                if (there && Integer.bitCount(sub) < Integer.bitCount(best)) {
                    best = sub;
                }
                if (sub == 0) {
                    return best;
                }
            }
        }

        int missing(int who, int p, int what) {
            if (who < 0 || who >= 1 << persons.size() || p < 0 || p > 90 || what < 0 || what > 2) {
                return BAD;
            }
            TreeSet<Integer> found = new TreeSet<>();
            for (int set = 0; set < 1 << things.size(); set++) {
                if (missersOfSet(set) == who && strengthOf(set) >= p) {
                    found.add(set);
                }
            }
            if (what == 0) {
                return found.size();
            }
            if (found.isEmpty()) {
                return NONE;
            }
            return what == 1 ? found.first() : found.stream().reduce(-1, (a, b) -> a & b);
        }

        long trial(int a, int x, int n, int part) {
            if (a < 0 || a > 10 || x < 0 || x > 10 || n < 0 || n > 6 || part < 0 || part > 1) {
                return BAD;
            }
            long above = a;
            long other = 10 - a;
            for (int i = 0; i < n; i++) {
                above *= 10;
                other *= 10 - x;
            }
            long below = above + other;
            if (below == 0) {
                return NONE;
            }
            for (long d = 2; d <= 10_000 && d <= below; d++) {
                while (above % d == 0 && below % d == 0) {
                    above /= d;
                    below /= d;
                }
            }
            return part == 0 ? above : below;
        }

        int pledge(int what) {
            if (what < 0 || what > 1) {
                return BAD;
            }
            List<Integer> rests = new ArrayList<>();
            for (int i = 0; i < persons.size(); i++) {
                for (int j = 0; j < persons.size(); j++) {
                    boolean rest = true;
                    for (int k = 0; k < persons.size(); k++) {
                        rest &= loss(k, j) >= loss(i, j) && loss(i, k) <= loss(i, j);
                    }
                    if (rest) {
                        rests.add(8 * i + j);
                    }
                }
            }
            return what == 0 ? rests.size() : rests.isEmpty() ? NONE : rests.get(0);
        }

        int loss(int i, int j) {
            return i == j ? 3 * persons.get(i)[1] : persons.get(i)[1];
        }

        int gain(int k) {
            if (k < -3 || k > 5) {
                return BAD;
            }
            List<Integer> best = new ArrayList<>();
            tryRows(new ArrayList<>(), best);
            if (best.isEmpty()) {
                return NONE;
            }
            if (k >= 0) {
                return k < best.size() ? best.get(k) : NONE;
            }
            if (k == -1) {
                return best.size();
            }
            int above = 1;
            int below = 1;
            for (int e : best) {
                above *= exchanges.get(e)[3];
                below *= exchanges.get(e)[2];
            }
            for (int d : new int[] {2, 3, 5, 7}) {
                while (above % d == 0 && below % d == 0) {
                    above /= d;
                    below /= d;
                }
            }
            return k == -2 ? above : below;
        }

        void tryRows(List<Integer> row, List<Integer> best) {
            if (isGain(row) && (best.isEmpty() || row.size() < best.size())) {
                best.clear();
                best.addAll(row);
            }
            for (int e = 0; e < exchanges.size(); e++) {
                if (!row.contains(e)) {
                    row.add(e);
                    tryRows(row, best);
                    row.remove(row.size() - 1);
                }
            }
        }

        boolean isGain(List<Integer> row) {
            Set<Integer> unlike = new HashSet<>(row);
            if (row.isEmpty() || unlike.size() != row.size()) {
                return false;
            }
            int above = 1;
            int below = 1;
            for (int i = 0; i < row.size(); i++) {
                int[] e = exchanges.get(row.get(i));
                int[] next = exchanges.get(row.get((i + 1) % row.size()));
                if (e[1] != next[0]) {
                    return false;
                }
                above *= e[3];
                below *= e[2];
            }
            return above > below;
        }

        int row(int z, int n, int what) {
            if (z < 0 || z > 9999 || n < 1 || n > 40 || what < 0 || what > 1) {
                return BAD;
            }
            Object[] before = snapshot();
            int out = 0;
            for (int k = 0; k < n; k++) {
                long x = 7919L * z + 6151L * k + 1;
                int drawn = (int) (x * x % 65521);
                int b = drawn % beasts.size();
                if (!ribbons.containsKey(b)) {
                    int set = leastFor(b);
                    if (set >= 0) {
                        ribbons.put(b, set);
                        ages.put(b, 0);
                    }
                } else if (drawn / 8 % 4 == 0) {
                    ribbons.remove(b);
                    ages.remove(b);
                }
                out += oneDay();
            }
            int lost = missed();
            put(before);
            return what == 0 ? lost : out;
        }

        int keep() {
            if (keptOnes.size() == 2) {
                return FULL;
            }
            keptOnes.addLast(snapshot());
            return keptOnes.size();
        }

        int restore() {
            if (keptOnes.isEmpty()) {
                return NO;
            }
            put(keptOnes.removeLast());
            undoable.clear();
            return keptOnes.size();
        }

        int count(int what) {
            int[] all = {things.size(), needs.size(), persons.size(), beasts.size(), exchanges.size(), daysBy,
                undoable.size(), keptOnes.size(), text.length()};
            return what < 0 || what > 8 ? BAD : all[what];
        }
    }
}
