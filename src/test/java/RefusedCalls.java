import java.util.ArrayList;
import java.util.List;
import java.util.function.Consumer;
import java.util.function.ToLongFunction;

/**
 * "BAD .. NO .. NONE .. FULL. Of several the first in this order; nothing changes then." Each refusal of
 * each call in many stands: it is answered as due, and two objects of the same calls, one with the
 * refused call more, can not be told apart, not even by all that can be undone, restored, laid.
 */
public final class RefusedCalls {
    private static final int BAD = -1, NO = -2, FULL = -3, NONE = -4;
    private static final int[] FAR = {Integer.MIN_VALUE, Integer.MIN_VALUE + 1, -65536, -256, -5, 65536, 65537, 1 << 30,
        Integer.MAX_VALUE};

    private static int wrong = 0;
    private static int checked = 0;

    private record Call(String name, ToLongFunction<RibbonOfLacks> of, long due) {
    }

    private record Stand(String name, Consumer<RibbonOfLacks> made) {
        RibbonOfLacks make() {
            RibbonOfLacks x = new RibbonOfLacks();
            made.accept(x);
            return x;
        }
    }

    public static void main(String[] args) {
        for (Stand stand : stands()) {
            for (Call call : alwaysBad()) {
                isRefused(stand, call);
            }
        }
        refusedByText();
        refusedByRibbons();
        refusedByDays();
        refusedByWhatIsUndoneOrKept();
        noneAsThingsStand();
        theFirstInOrder();
        System.out.println(wrong == 0 ? checked + " refused calls change nothing" : wrong + " answers are not as due");
        if (wrong != 0) {
            System.exit(1);
        }
    }

    private static void isRefused(Stand stand, Call call) {
        checked++;
        RibbonOfLacks x = stand.make();
        long answer = call.of.applyAsLong(x);
        if (answer != call.due) {
            wrong++;
            System.out.println(stand.name + ": " + call.name + " answered " + answer + ", due is " + call.due);
        }
        call.of.applyAsLong(x);
        if (!allThatCanBeSeen(x).equals(allThatCanBeSeen(stand.make()))) {
            wrong++;
            System.out.println(stand.name + ": " + call.name + " changed something");
        }
    }

    private static void isRefused(Stand stand, String name, long due, ToLongFunction<RibbonOfLacks> of) {
        isRefused(stand, new Call(name, of, due));
    }

    private static void write(RibbonOfLacks x, String text) {
        for (int i = 0; i < text.length(); i++) {
            x.write(text.charAt(i));
        }
    }

    /** The first world in each of them, so that the same numbers are BAD. */
    private static List<Stand> stands() {
        List<Stand> all = new ArrayList<>();
        all.add(new Stand("new", x -> { }));
        all.add(new Stand("bound", x -> x.bind(0, 20)));
        all.add(new Stand("all bound", RefusedCalls::bindAll));
        all.add(new Stand("escaped", x -> {
            x.bind(0, 10);
            x.days(3);
            x.bind(1, 24);
        }));
        all.add(new Stand("undone and kept", x -> {
            bindAll(x);
            x.keep();
            x.days(2);
            x.keep();
            x.loosen(0);
            x.undo();
        }));
        all.add(new Stand("old and full", x -> {
            write(x, "t5,0;b5;");
            write(x, "q".repeat(200));
            oldAs(x, 999);
            x.keep();
            bindAll(x);
            x.keep();
        }));
        return all;
    }

    private static void bindAll(RibbonOfLacks x) {
        x.bind(0, 20);
        x.bind(1, 3 + 8);
    }

    private static void oldAs(RibbonOfLacks x, int days) {
        while (x.count(5) < days) {
            x.days(Math.min(40, days - x.count(5)));
        }
    }

    private static List<Call> alwaysBad() {
        List<Call> bad = new ArrayList<>();
        addBad(bad, "write", new int[] {31, 127, 0, -1, 128, 65536 + 't'}, v -> x -> x.write(v));
        addBad(bad, "thing what", new int[] {-1, 4}, v -> x -> x.thing(0, v));
        addBad(bad, "thing", new int[] {-1, 5}, v -> x -> x.thing(v, 0));
        addBad(bad, "person what", new int[] {-1, 3}, v -> x -> x.person(0, v));
        addBad(bad, "person", new int[] {-1, 4}, v -> x -> x.person(v, 0));
        addBad(bad, "beast what", new int[] {-1, 4}, v -> x -> x.beast(0, v));
        addBad(bad, "beast", new int[] {-1, 2}, v -> x -> x.beast(v, 0));
        addBad(bad, "strength", new int[] {-1, 32}, v -> x -> x.strength(v));
        addBad(bad, "follows", new int[] {-1, 32}, v -> x -> x.follows(v));
        addBad(bad, "bind beast", new int[] {-1, 2}, v -> x -> x.bind(v, 3));
        addBad(bad, "bind 0", new int[] {-1, 32}, v -> x -> x.bind(0, v));
        addBad(bad, "bind 1", new int[] {-1, 32}, v -> x -> x.bind(1, v));
        addBad(bad, "loosen", new int[] {-1, 2}, v -> x -> x.loosen(v));
        addBad(bad, "days", new int[] {-1, 0, 41}, v -> x -> x.days(v));
        addBad(bad, "cost", new int[] {-1, 32}, v -> x -> x.cost(v));
        addBad(bad, "least", new int[] {-1, 2}, v -> x -> x.least(v, 0));
        addBad(bad, "least what", new int[] {-1, 2}, v -> x -> x.least(0, v));
        addBad(bad, "all", new int[] {-3, 2}, v -> x -> x.all(v));
        addBad(bad, "more", new int[] {-1, 0, 91}, v -> x -> x.more(v));
        addBad(bad, "worst", new int[] {-1, 2}, v -> x -> x.worst(v));
        addBad(bad, "back", new int[] {-1, 5}, v -> x -> x.back(v));
        addBad(bad, "missing persons", new int[] {-1, 16}, v -> x -> x.missing(v, 0, 0));
        addBad(bad, "missing p", new int[] {-1, 91}, v -> x -> x.missing(0, v, 0));
        addBad(bad, "missing what", new int[] {-1, 3}, v -> x -> x.missing(0, 0, v));
        addBad(bad, "trial a", new int[] {-1, 11}, v -> x -> x.trial(v, 5, 1, 0));
        addBad(bad, "trial x", new int[] {-1, 11}, v -> x -> x.trial(5, v, 1, 0));
        addBad(bad, "trial n", new int[] {-1, 7}, v -> x -> x.trial(5, 5, v, 0));
        addBad(bad, "trial part", new int[] {-1, 2}, v -> x -> x.trial(5, 5, 1, v));
        addBad(bad, "pledge", new int[] {-1, 2}, v -> x -> x.pledge(v));
        addBad(bad, "gain", new int[] {-4, 6}, v -> x -> x.gain(v));
        addBad(bad, "row z", new int[] {-1, 10000}, v -> x -> x.row(v, 1, 0));
        addBad(bad, "row n", new int[] {-1, 0, 41}, v -> x -> x.row(0, v, 0));
        addBad(bad, "row what", new int[] {-1, 2}, v -> x -> x.row(0, 1, v));
        addBad(bad, "count", new int[] {-1, 9}, v -> x -> x.count(v));
        return bad;
    }

    private interface WithNumber {
        ToLongFunction<RibbonOfLacks> call(int number);
    }

    private static void addBad(List<Call> bad, String name, int[] near, WithNumber with) {
        for (int v : near) {
            bad.add(new Call(name + " " + v, with.call(v), BAD));
        }
        for (int v : FAR) {
            bad.add(new Call(name + " " + v, with.call(v), BAD));
        }
    }

    private static void refusedByText() {
        Stand empty = new Stand("no text", RefusedCalls::bindAll);
        isRefused(empty, "lay", NO, x -> x.lay());
        isRefused(empty, "fault", NONE, x -> x.fault());
        String[] notLaid = {"t5,0;", "b5;", "t5,0;b5", "t5,0;b5;q", "t5,0;b91;", "y0,1;t5,0;b5;"};
        for (String text : notLaid) {
            Stand stand = new Stand("not to be laid: " + text, x -> {
                bindAll(x);
                x.days(1);
                x.keep();
                write(x, text);
            });
            isRefused(stand, "lay", NO, x -> x.lay());
        }
        Stand full = new Stand("full text", x -> write(x, "t5,0;".repeat(40)));
        isRefused(full, "write", FULL, x -> x.write('b'));
        isRefused(full, "lay", NO, x -> x.lay());
        Stand so = new Stand("a text without fault", x -> write(x, "t5,0;b5;"));
        isRefused(so, "fault", NONE, x -> x.fault());
    }

    private static void refusedByRibbons() {
        Stand fresh = new Stand("new", x -> { });
        isRefused(fresh, "bind with nothing", NO, x -> x.bind(0, 0));
        isRefused(fresh, "bind too weakly by two", NO, x -> x.bind(0, 2 + 4));
        isRefused(fresh, "bind too weakly by one", NO, x -> x.bind(0, 1 + 4));
        isRefused(fresh, "loosen a loose one", NO, x -> x.loosen(0));
        isRefused(fresh, "loosen the other loose one", NO, x -> x.loosen(1));
        Stand bound = new Stand("bound", x -> x.bind(0, 1 + 4 + 8));
        isRefused(bound, "bind what is bound", NO, x -> x.bind(0, 2 + 16));
        isRefused(bound, "bind what is bound with its own", NO, x -> x.bind(0, 1 + 4 + 8));
        isRefused(bound, "bind with what is gone", NO, x -> x.bind(1, 2 + 8 + 16));
        isRefused(bound, "bind with what follows", NO, x -> x.bind(1, 2 + 16));
        isRefused(bound, "loosen the loose one", NO, x -> x.loosen(1));
    }

    private static void refusedByDays() {
        for (int gone = 959; gone <= 999; gone += gone == 961 ? 37 : 1) {
            int days = gone;
            Stand old = new Stand(gone + " days", x -> {
                x.bind(0, 20);
                oldAs(x, days);
                x.bind(1, 3);
            });
            for (int n = 1; n <= 40; n++) {
                int more = n;
                if (gone + n > 999) {
                    isRefused(old, "days " + n, NO, x -> x.days(more));
                }
            }
            isRefused(old, "days 41", BAD, x -> x.days(41));
        }
    }

    private static void refusedByWhatIsUndoneOrKept() {
        Stand fresh = new Stand("new", x -> { });
        isRefused(fresh, "undo", NO, x -> x.undo());
        isRefused(fresh, "restore", NO, x -> x.restore());
        Stand undone = new Stand("all undone", x -> {
            bindAll(x);
            for (int i = 0; i < 9; i++) {
                x.days(1);
            }
            for (int i = 0; i < 8; i++) {
                x.undo();
            }
        });
        isRefused(undone, "undo", NO, x -> x.undo());
        Stand kept = new Stand("two kept", x -> {
            bindAll(x);
            x.keep();
            x.days(3);
            x.keep();
            x.days(1);
        });
        isRefused(kept, "keep", FULL, x -> x.keep());
        Stand restored = new Stand("all restored", x -> {
            x.keep();
            x.restore();
            bindAll(x);
        });
        isRefused(restored, "restore", NO, x -> x.restore());
    }

    private static void noneAsThingsStand() {
        Stand all = new Stand("all bound", RefusedCalls::bindAll);
        isRefused(all, "worst", NONE, x -> x.worst(0));
        isRefused(all, "worst, how many", NONE, x -> x.worst(1));
        isRefused(all, "least", NONE, x -> x.least(0, 0));
        isRefused(all, "least, cost", NONE, x -> x.least(1, 1));
        Stand one = new Stand("one bound", x -> x.bind(0, 1 + 2));
        for (int b = -2; b <= 1; b++) {
            int asked = b;
            isRefused(one, "all " + b, NONE, x -> x.all(asked));
        }
        isRefused(one, "age of a loose one", NONE, x -> x.beast(1, 2));
        isRefused(one, "beast of a thing in no ribbon", NONE, x -> x.thing(2, 3));
        isRefused(one, "missing, lowest", NONE, x -> x.missing(1, 0, 1));
        isRefused(one, "missing, in all", NONE, x -> x.missing(15, 41, 2));
        isRefused(one, "trial", NONE, x -> x.trial(0, 10, 1, 1));
        isRefused(one, "pledge", NONE, x -> x.pledge(1));
        for (int k = -3; k <= 5; k++) {
            int asked = k;
            isRefused(one, "gain " + k, NONE, x -> x.gain(asked));
        }
    }

    /** "Of several the first in this order" */
    private static void theFirstInOrder() {
        Stand full = new Stand("full text", x -> write(x, "t5,0;".repeat(40)));
        isRefused(full, "BAD ahead of FULL", BAD, x -> x.write(31));
        isRefused(full, "BAD ahead of FULL", BAD, x -> x.write(127));
        Stand bound = new Stand("bound", x -> x.bind(0, 1 + 2));
        isRefused(bound, "bind: BAD ahead of NO, set", BAD, x -> x.bind(0, 32));
        isRefused(bound, "bind: BAD ahead of NO, beast", BAD, x -> x.bind(2, 0));
        isRefused(bound, "loosen: BAD ahead of NO", BAD, x -> x.loosen(2));
        isRefused(bound, "all: BAD ahead of NONE", BAD, x -> x.all(2));
        isRefused(bound, "all: BAD ahead of NONE", BAD, x -> x.all(-3));
        isRefused(bound, "least: BAD ahead of NONE", BAD, x -> x.least(1, 2));
        isRefused(bound, "beast: BAD ahead of NONE", BAD, x -> x.beast(2, 2));
        isRefused(bound, "thing: BAD ahead of NONE", BAD, x -> x.thing(5, 3));
        isRefused(bound, "missing: BAD ahead of NONE", BAD, x -> x.missing(1, 91, 1));
        isRefused(bound, "trial: BAD ahead of NONE", BAD, x -> x.trial(0, 10, 1, 2));
        isRefused(bound, "pledge: BAD ahead of NONE", BAD, x -> x.pledge(2));
        isRefused(bound, "gain: BAD ahead of NONE", BAD, x -> x.gain(6));
        Stand none = new Stand("nothing there", RefusedCalls::bindAll);
        isRefused(none, "worst: BAD ahead of NONE", BAD, x -> x.worst(2));
        isRefused(none, "least: BAD ahead of NONE", BAD, x -> x.least(0, -1));
        Stand old = new Stand("999 days", x -> oldAs(x, 999));
        isRefused(old, "days: BAD ahead of NO", BAD, x -> x.days(41));
        isRefused(old, "days: BAD ahead of NO", BAD, x -> x.days(0));
    }

    /** Uses the object up: undoes, restores and lays what there is. */
    private static List<Long> allThatCanBeSeen(RibbonOfLacks x) {
        List<Long> seen = new ArrayList<>();
        see(x, seen);
        for (long left = x.undo(); left >= 0; left = x.undo()) {
            seen.add(left);
            see(x, seen);
        }
        for (long left = x.restore(); left >= 0; left = x.restore()) {
            seen.add(left);
            see(x, seen);
        }
        seen.add((long) x.lay());
        see(x, seen);
        seen.add((long) x.wipe());
        return seen;
    }

    private static void see(RibbonOfLacks x, List<Long> seen) {
        for (int what = 0; what <= 8; what++) {
            seen.add((long) x.count(what));
        }
        for (int t = 0; t < x.count(0); t++) {
            for (int what = 0; what <= 3; what++) {
                seen.add((long) x.thing(t, what));
            }
            seen.add((long) x.follows(1 << t));
        }
        for (int i = 0; i < x.count(2); i++) {
            for (int what = 0; what <= 2; what++) {
                seen.add((long) x.person(i, what));
            }
        }
        for (int b = 0; b < x.count(3); b++) {
            for (int what = 0; what <= 3; what++) {
                seen.add((long) x.beast(b, what));
            }
            seen.add((long) x.least(b, 0));
            seen.add((long) x.all(b));
        }
        for (int set = 0; set < 1 << x.count(0); set++) {
            seen.add((long) x.strength(set));
            seen.add((long) x.cost(set));
        }
        seen.add((long) x.missed());
        seen.add((long) x.fault());
        seen.add((long) x.gain(-1));
        seen.add((long) x.pledge(0));
        seen.add((long) x.row(17, 5, 0));
    }
}
