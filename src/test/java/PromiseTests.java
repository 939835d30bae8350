/** For each promise: ordinary inputs, the edges that the document names, wrong inputs. */
public final class PromiseTests {
    private static final int BAD = -1, NO = -2, FULL = -3, NONE = -4;
    private static final int MIN = Integer.MIN_VALUE, MAX = Integer.MAX_VALUE;

    private static int wrong = 0;

    private static void due(String what, long got, long want) {
        if (got != want) {
            wrong++;
            System.out.println(what + " answered " + got + ", due is " + want);
        }
    }

    private static void writeAll(RibbonOfLacks x, String text) {
        for (int i = 0; i < text.length(); i++) {
            x.write(text.charAt(i));
        }
    }

    private static RibbonOfLacks laid(String text) {
        RibbonOfLacks x = new RibbonOfLacks();
        writeAll(x, text);
        if (x.lay() < 0) {
            wrong++;
            System.out.println("not laid: " + text);
        }
        return x;
    }

    private static void faultIs(String text, int want) {
        RibbonOfLacks x = new RibbonOfLacks();
        writeAll(x, text);
        due("fault of " + text, x.fault(), want);
    }

    public static void main(String[] args) {
        newObject();
        writing();
        wiping();
        faults();
        faultsByLimit();
        laying();
        things();
        persons();
        beasts();
        strengths();
        followers();
        missedOnes();
        binding();
        loosening();
        daysGoing();
        undoing();
        costs();
        leastOnes();
        allTogether();
        howManyMore();
        worstOnes();
        backAgain();
        missingOnes();
        trials();
        pledges();
        gains();
        rows();
        keeping();
        restoring();
        counting();
        System.out.println(wrong == 0 ? "all promises hold" : wrong + " answers are not as due");
        if (wrong != 0) {
            System.exit(1);
        }
    }

    private static void newObject() {
        RibbonOfLacks x = new RibbonOfLacks();
        int[] counts = {5, 2, 4, 2, 2, 0, 0, 0, 0};
        for (int i = 0; i < counts.length; i++) {
            due("new count " + i, x.count(i), counts[i]);
        }
        int[][] told = {{5, 1}, {4, 1}, {6, 0}, {9, 2}, {7, 3}};
        for (int t = 0; t < told.length; t++) {
            due("new strength of " + t, x.thing(t, 0), told[t][0]);
            due("new kind of " + t, x.thing(t, 1), told[t][1]);
            due("new there " + t, x.thing(t, 2), 1);
            due("new ribbon with " + t, x.thing(t, 3), NONE);
        }
        int[][] who = {{0, 3}, {2, 5}, {3, 1}, {4, 2}};
        for (int i = 0; i < who.length; i++) {
            due("new person's thing " + i, x.person(i, 0), who[i][0]);
            due("new person's W " + i, x.person(i, 1), who[i][1]);
        }
        due("new pull 0", x.beast(0, 0), 12);
        due("new pull 1", x.beast(1, 0), 16);
        due("new needs", x.follows(1), 21);
        due("new gain", x.gain(-1), NONE);
        due("new fault", x.fault(), NONE);
        RibbonOfLacks other = new RibbonOfLacks();
        x.bind(0, 10);
        due("another object stands by itself", other.beast(0, 1), 0);
        due("constants", RibbonOfLacks.BAD * 1000 + RibbonOfLacks.NO * 100
            + RibbonOfLacks.FULL * 10 + RibbonOfLacks.NONE, -1234);
    }

    private static void writing() {
        RibbonOfLacks x = new RibbonOfLacks();
        due("write 31", x.write(31), BAD);
        due("write 127", x.write(127), BAD);
        due("write least", x.write(MIN), BAD);
        due("write most", x.write(MAX), BAD);
        due("write 32", x.write(32), 1);
        due("write 126", x.write(126), 2);
        for (int i = 3; i <= 200; i++) {
            due("write " + i, x.write('t'), i);
        }
        due("write when full", x.write('t'), FULL);
        due("wrong letter when full", x.write(0), BAD);
        due("length when full", x.count(8), 200);
    }

    private static void wiping() {
        RibbonOfLacks x = new RibbonOfLacks();
        due("wipe of nothing", x.wipe(), 0);
        writeAll(x, "t1,0;b");
        due("wipe", x.wipe(), 6);
        due("wipe again", x.wipe(), 0);
        due("write behind wipe", x.write('b'), 1);
        due("wipe leaves what is laid", x.count(0), 5);
    }

    private static void faults() {
        faultIs("", NONE);
        faultIs("t0,0;", NONE);
        faultIs("t20,3;", NONE);
        faultIs("t05,03;", NONE);
        faultIs("t21,0;", 0);
        faultIs("t1,4;", 0);
        faultIs("t001,1;", 0);
        faultIs("t1,1", 0);
        faultIs("t1;", 0);
        faultIs("t1,1,1;", 0);
        faultIs("t,1;", 0);
        faultIs("t1,;", 0);
        faultIs("t-1,1;", 0);
        faultIs("t 1,1;", 0);
        faultIs("T1,1;", 0);
        faultIs(";", 0);
        faultIs("t1,1;;", 5);
        faultIs("t1,1;t1,1;u", 10);
        faultIs("t1,1;t1,1;t1,", 10);
        faultIs("t1,1;y0,0;", 5);
        faultIs("t1,1;y0,1;t1,1;", 5);
        faultIs("t1,1;y1,0;t1,1;", 5);
        faultIs("t1,1;t1,1;y0,1;y0,1;y1,0;", NONE);
        faultIs("t1,1;p0,1;p0,9;p00,09;", NONE);
        faultIs("t1,1;p0,0;", 5);
        faultIs("t1,1;p0,10;", 5);
        faultIs("t1,1;p1,1;", 5);
        faultIs("p0,1;", 0);
        faultIs("b1;b90;b01;b9;", NONE);
        faultIs("b0;", 0);
        faultIs("b91;", 0);
        faultIs("b1,1;", 0);
        faultIs("b1;b100;b", 3);
        faultIs("t1,1;t1,1;x0,1,1,9;x1,0,9,1;x0,1,1,9;", NONE);
        faultIs("t1,1;t1,1;x0,0,1,1;", 10);
        faultIs("t1,1;t1,1;x0,2,1,1;", 10);
        faultIs("t1,1;t1,1;x2,0,1,1;", 10);
        faultIs("t1,1;t1,1;x0,1,0,1;", 10);
        faultIs("t1,1;t1,1;x0,1,1,0;", 10);
        faultIs("t1,1;t1,1;x0,1,10,1;", 10);
        faultIs("t1,1;t1,1;x0,1,1,10;", 10);
        faultIs("t1,1;t1,1;x0,1,1;", 10);
    }

    private static void faultsByLimit() {
        faultIs("t1,0;".repeat(10), NONE);
        faultIs("t1,0;".repeat(11), 50);
        faultIs("t1,0;t1,0;" + "y0,1;".repeat(12), NONE);
        faultIs("t1,0;t1,0;" + "y0,1;".repeat(13), 70);
        faultIs("t1,0;" + "p0,1;".repeat(8), NONE);
        faultIs("t1,0;" + "p0,1;".repeat(9), 45);
        faultIs("b1;".repeat(4), NONE);
        faultIs("b1;".repeat(5), 12);
        faultIs("t1,0;t1,0;" + "x0,1,1,1;".repeat(6), NONE);
        faultIs("t1,0;t1,0;" + "x0,1,1,1;".repeat(7), 64);
    }

    private static void laying() {
        RibbonOfLacks x = new RibbonOfLacks();
        due("lay of nothing", x.lay(), NO);
        writeAll(x, "t7,0;");
        due("lay without a beast", x.lay(), NO);
        due("what was laid stays", x.count(0), 5);
        x.bind(0, 10);
        x.days(3);
        x.bind(1, 24);
        x.keep();
        writeAll(x, "b3;");
        due("lay", x.lay(), 1);
        due("the text stays", x.count(8), 8);
        int[] counts = {1, 0, 0, 1, 0, 0, 0, 0, 8};
        for (int i = 0; i < counts.length; i++) {
            due("count " + i + " when laid", x.count(i), counts[i]);
        }
        due("no escapes when laid", x.beast(0, 3), 0);
        due("no ribbon when laid", x.beast(0, 1), 0);
        due("nothing is undone when laid", x.undo(), NO);
        due("nothing is kept when laid", x.restore(), NO);
        due("sets of what is laid", x.strength(2), BAD);
        due("laid again", x.lay(), 1);
        x.write('q');
        x.bind(0, 1);
        due("lay with a fault", x.lay(), NO);
        due("no lay, no change", x.beast(0, 1), 1);
        RibbonOfLacks y = new RibbonOfLacks();
        writeAll(y, "b3;");
        due("lay without a thing", y.lay(), NO);
    }

    private static void things() {
        RibbonOfLacks x = new RibbonOfLacks();
        x.bind(1, 3);
        x.bind(0, 8);
        due("thing in no ribbon, too weak", x.thing(3, 3), NONE);
        due("what follows is not there", x.thing(4, 2), 0);
        due("what does not follow is there", x.thing(3, 2), 1);
        due("thing in a ribbon", x.thing(1, 3), 1);
        due("thing that follows is in none", x.thing(2, 3), NONE);
        x.undo();
        x.bind(0, 10);
        due("thing in the first ribbon", x.thing(3, 3), 0);
        due("thing -1", x.thing(-1, 0), BAD);
        due("thing 5", x.thing(5, 0), BAD);
        due("thing what -1", x.thing(0, -1), BAD);
        due("thing what 4", x.thing(0, 4), BAD);
        due("thing most", x.thing(MAX, 3), BAD);
    }

    private static void persons() {
        RibbonOfLacks x = new RibbonOfLacks();
        x.bind(0, 24);
        due("misses what is found", x.person(2, 2), 1);
        due("misses what is late not yet", x.person(3, 2), 0);
        due("misses nothing", x.person(0, 2), 0);
        x.days(2);
        due("misses what is late by two days", x.person(3, 2), 1);
        due("person -1", x.person(-1, 0), BAD);
        due("person 4", x.person(4, 0), BAD);
        due("person what -1", x.person(0, -1), BAD);
        due("person what 3", x.person(0, 3), BAD);
        due("person where there is none", laid("t1,0;b1;").person(0, 0), BAD);
        RibbonOfLacks late = laid("t9,3;t1,0;y1,0;p1,4;p0,2;b9;");
        late.bind(0, 1);
        due("what needs a late one is not there", late.thing(1, 2), 0);
        due("but is not missed yet", late.person(0, 2), 0);
        late.days(2);
        due("but is missed then", late.missed(), 6);
    }

    private static void beasts() {
        RibbonOfLacks x = new RibbonOfLacks();
        due("loose age", x.beast(0, 2), NONE);
        x.bind(1, 19);
        x.days(4);
        due("ribbon", x.beast(1, 1), 19);
        due("age", x.beast(1, 2), 4);
        due("escapes", x.beast(1, 3), 0);
        due("beast -1", x.beast(-1, 0), BAD);
        due("beast 2", x.beast(2, 0), BAD);
        due("beast what -1", x.beast(0, -1), BAD);
        due("beast what 4", x.beast(0, 4), BAD);
        x.loosen(1);
        due("age when loosened", x.beast(1, 2), NONE);
        x.bind(1, 19);
        due("age when bound again", x.beast(1, 2), 0);
    }

    private static void strengths() {
        RibbonOfLacks x = new RibbonOfLacks();
        due("strength of none", x.strength(0), 0);
        due("one sound", x.strength(1), 5);
        due("two sounds", x.strength(3), 18);
        due("a sound and others", x.strength(29), 27);
        due("all", x.strength(31), 40);
        due("strength -1", x.strength(-1), BAD);
        due("strength 32", x.strength(32), BAD);
        due("strength least", x.strength(MIN), BAD);
        due("only sounds count twice", laid("t5,0;t5,1;b1;").strength(3), 10);
        due("only sounds among two", laid("t5,2;t5,1;t5,3;t5,1;b1;").strength(15), 30);
        due("three sounds", laid("t20,1;t1,1;t3,1;t2,0;b1;").strength(15), 50);
    }

    private static void followers() {
        RibbonOfLacks x = laid("t1,0;t1,0;t1,0;t1,0;t1,0;y1,0;y2,1;y3,2;y0,3;y4,2;b1;");
        due("round about", x.follows(1), 31);
        due("behind none", x.follows(0), 0);
        due("the last one", x.follows(16), 16);
        due("two", new RibbonOfLacks().follows(12), 28);
        due("against the order told", laid("t1,0;t1,0;t1,0;t1,0;y0,1;y1,2;y2,3;b1;").follows(8), 15);
        due("whatever is gone", bound().follows(2), 2);
        due("follows -1", x.follows(-1), BAD);
        due("follows 32", x.follows(32), BAD);
    }

    private static RibbonOfLacks bound() {
        RibbonOfLacks x = new RibbonOfLacks();
        x.bind(0, 20);
        return x;
    }

    private static void missedOnes() {
        RibbonOfLacks x = new RibbonOfLacks();
        due("nothing missed", x.missed(), 0);
        x.bind(0, 20);
        due("what needs one that is found", x.missed(), 7);
        x.undo();
        x.bind(1, 3);
        due("all that follows", x.missed(), 10);
        RibbonOfLacks y = laid("t9,3;t9,3;t9,2;p0,1;p1,2;p2,4;b9;b9;b9;");
        y.bind(0, 1);
        y.days(1);
        y.bind(1, 2);
        due("none found", y.missed(), 0);
        y.days(1);
        due("the older ribbon's is found", y.missed(), 1);
        y.days(1);
        due("both found", y.missed(), 3);
        y.bind(2, 4);
        due("lent ones at once", y.missed(), 7);
        y.loosen(0);
        due("loosened, missed no more", y.missed(), 6);
    }

    private static void binding() {
        RibbonOfLacks x = new RibbonOfLacks();
        due("too weak by one", x.bind(0, 5), NO);
        due("nothing", x.bind(0, 0), NO);
        due("bind", x.bind(0, 18), NO);
        due("bind just so", laid("t9,0;t3,0;b12;").bind(0, 3), 12);
        due("bind two", x.bind(0, 20), 13);
        due("bound already", x.bind(0, 11), NO);
        due("not there", x.bind(1, 24), NO);
        due("bind wrong beast", x.bind(2, 3), BAD);
        due("bind beast -1", x.bind(-1, 3), BAD);
        due("bind wrong set", x.bind(0, 32), BAD);
        due("bind set -1", x.bind(1, -1), BAD);
        due("bind the other", x.bind(1, 3), 18);
        due("two can be undone", x.count(6), 2);
        RibbonOfLacks y = laid("t5,0;t5,0;t9,0;y2,1;b5;b9;");
        y.bind(0, 2);
        due("what follows can not be used", y.bind(1, 4), NO);
        due("nor with others", y.bind(1, 5), NO);
        RibbonOfLacks z = laid("t5,0;t5,0;y1,0;b9;");
        due("a thing and what needs it", z.bind(0, 3), 10);
        due("strength stays", z.strength(3), 10);
    }

    private static void loosening() {
        RibbonOfLacks x = new RibbonOfLacks();
        due("loosen a loose one", x.loosen(0), NO);
        due("loosen -1", x.loosen(-1), BAD);
        due("loosen 2", x.loosen(2), BAD);
        due("nothing to be undone", x.count(6), 0);
        x.bind(0, 20);
        x.bind(1, 11);
        due("loosen", x.loosen(1), 3);
        due("there again", x.thing(0, 2), 1);
        due("the other's not", x.thing(2, 2), 0);
        due("not escaped", x.beast(1, 3), 0);
        x.bind(1, 3);
        x.loosen(0);
        due("but what follows else", x.thing(4, 2), 0);
    }

    private static void daysGoing() {
        RibbonOfLacks x = laid("t9,2;t5,0;t5,0;t9,2;b9;b9;b9;");
        x.bind(0, 7);
        x.bind(1, 8);
        due("two days", x.days(2), 0);
        due("third day", x.days(1), 1);
        due("what is left holds", x.beast(0, 1), 6);
        due("its age goes on", x.beast(0, 2), 3);
        due("lent one is there", x.thing(0, 2), 1);
        due("the other is loose", x.beast(1, 1), 0);
        due("and escaped", x.beast(1, 3), 1);
        due("the first did not", x.beast(0, 3), 0);
        x.bind(1, 8);
        x.bind(2, 1);
        due("both in one call", x.days(40), 2);
        due("escaped once more", x.beast(1, 3), 2);
        due("days gone by", x.count(5), 43);
        due("days 0", x.days(0), BAD);
        due("days 41", x.days(41), BAD);
        due("days -1", x.days(-1), BAD);
        for (int i = 0; i < 23; i++) {
            x.days(40);
        }
        due("days near the end", x.count(5), 963);
        due("one too many", x.days(37), NO);
        due("to the end", x.days(36), 0);
        due("at the end", x.count(5), 999);
        due("none behind it", x.days(1), NO);
        due("nothing changed", x.count(5), 999);
        due("wrong all the same", x.days(41), BAD);
        RibbonOfLacks sounds = laid("t5,1;t4,1;t4,2;b18;b17;");
        sounds.bind(0, 7);
        due("left with two sounds", sounds.days(3), 0);
        RibbonOfLacks lentOnly = laid("t9,2;t1,0;b10;");
        lentOnly.bind(0, 3);
        due("left too weak", lentOnly.days(5), 1);
        due("all is there again", lentOnly.missed() + lentOnly.thing(1, 2), 1);
    }

    private static void undoing() {
        RibbonOfLacks x = new RibbonOfLacks();
        due("nothing to undo", x.undo(), NO);
        x.bind(0, 10);
        x.days(3);
        x.bind(0, 20);
        x.loosen(0);
        due("undo loosening", x.undo(), 3);
        due("bound again", x.beast(0, 1), 20);
        due("undo binding", x.undo(), 2);
        due("loose again", x.beast(0, 1), 0);
        due("escaped", x.beast(0, 3), 1);
        due("undo days", x.undo(), 1);
        due("bound before", x.beast(0, 1), 10);
        due("age before", x.beast(0, 2), 0);
        due("not escaped", x.beast(0, 3), 0);
        due("days before", x.count(5), 0);
        due("undo first", x.undo(), 0);
        due("no more", x.undo(), NO);
        for (int i = 1; i <= 10; i++) {
            x.days(1);
            due("that can be undone", x.count(6), Math.min(i, 8));
        }
        x.bind(0, 0);
        x.days(0);
        x.loosen(0);
        x.row(1, 5, 0);
        due("what fails is not undone", x.count(6), 8);
        for (int i = 7; i >= 0; i--) {
            due("undo", x.undo(), i);
            due("days then", x.count(5), i + 2);
        }
        due("the first two stay", x.count(5), 2);
        due("no more than eight", x.undo(), NO);
    }

    private static void costs() {
        RibbonOfLacks x = new RibbonOfLacks();
        due("cost of none", x.cost(0), 0);
        due("cost of what is needed", x.cost(1), 10);
        due("late ones as others", x.cost(16), 2);
        due("cost of all", x.cost(31), 11);
        x.bind(0, 20);
        due("what is missed already", x.cost(1), 3);
        due("what is gone", x.cost(20), 0);
        due("cost besides", x.cost(9), 4);
        due("cost -1", x.cost(-1), BAD);
        due("cost 32", x.cost(32), BAD);
        RibbonOfLacks late = laid("t9,3;t1,0;p0,5;p0,2;b9;");
        late.bind(0, 1);
        due("late ones without it, too", late.cost(1), 0);
    }

    private static void leastOnes() {
        RibbonOfLacks x = new RibbonOfLacks();
        due("least", x.least(0, 0), 10);
        due("its cost", x.least(0, 1), 1);
        due("least -1", x.least(-1, 0), BAD);
        due("least 2", x.least(2, 0), BAD);
        due("least what -1", x.least(0, -1), BAD);
        due("least what 2", x.least(0, 2), BAD);
        x.bind(0, 10);
        due("for a bound one by what is there", x.least(0, 0), 20);
        due("its cost then", x.least(0, 1), 7);
        x.bind(1, 21);
        due("none left", x.least(0, 0), NONE);
        due("none left, no cost", x.least(0, 1), NONE);
        due("fewest things", laid("t3,0;t3,0;t6,0;b6;").least(0, 0), 4);
        due("the lowest", laid("t6,0;t6,0;t6,0;p0,1;b6;").least(0, 0), 2);
        due("cost before number", laid("t9,0;p0,1;t3,0;t3,0;t3,0;b9;").least(0, 0), 14);
        due("just as strong", laid("t9,0;t8,0;b9;").least(0, 0), 1);
        due("sounds together", laid("t4,1;t9,0;t4,1;p1,1;b16;").least(0, 0), 5);
    }

    private static void allTogether() {
        RibbonOfLacks x = new RibbonOfLacks();
        due("all used", x.all(-1), 23);
        due("all's cost", x.all(-2), 10);
        due("all 0", x.all(0), 20);
        due("all 1", x.all(1), 3);
        due("all 2", x.all(2), BAD);
        due("all -3", x.all(-3), BAD);
        x.bind(0, 20);
        due("bound one's ribbon", x.all(0), 0);
        due("loose one's", x.all(1), 3);
        due("cost besides what is gone", x.all(-2), 3);
        x.bind(1, 3);
        due("nobody loose", x.all(-1), 0);
        due("nobody loose, cost", x.all(-2), 0);
        due("nobody loose, ribbon", x.all(1), 0);
        RibbonOfLacks y = laid("t5,0;t5,0;b5;b5;b1;");
        due("none for three", y.all(-1), NONE);
        due("none for three, cost", y.all(-2), NONE);
        due("none for three, ribbon", y.all(0), NONE);
        due("wrong all the same", y.all(3), BAD);
        y.bind(0, 1);
        due("none for two of them", y.all(1), NONE);
        due("strong enough, but not to be parted", laid("t9,0;t1,0;b5;b5;").all(-1), NONE);
        due("too strong for one, too weak for two", laid("t9,0;t9,0;t3,0;b10;b10;").all(-2), NONE);
        due("two alike", laid("t5,0;t5,0;b5;b5;").all(0) * 10 + laid("t5,0;t5,0;b5;b5;").all(1), 12);
        RibbonOfLacks z = laid("t2,0;t9,0;t2,0;t7,0;b9;b2;");
        due("fewest used", z.all(-1), 3);
        due("the first beast's can be the higher", z.all(0), 2);
        due("the second's", z.all(1), 1);
        RibbonOfLacks shared = laid("t5,0;t5,0;t5,0;t5,0;y2,0;y3,0;p2,9;p1,2;b5;b5;b5;");
        due("cost of all as one set", shared.all(-1), 13);
        due("missed but once", shared.all(-2), 9);
        RibbonOfLacks four = laid("t4,1;t4,1;t4,1;t4,1;t9,0;t3,0;b16;b9;b3;b16;");
        due("four at once", four.all(-1), 63);
        due("four at once: 0", four.all(0), 3);
        due("four at once: 1", four.all(1), 16);
        due("four at once: 2", four.all(2), 32);
        due("four at once: 3", four.all(3), 12);
    }

    private static void howManyMore() {
        RibbonOfLacks x = new RibbonOfLacks();
        due("more 1", x.more(1), 5);
        due("more 10", x.more(10), 2);
        due("more 18", x.more(18), 2);
        due("more 19", x.more(19), 1);
        due("more 40", x.more(40), 1);
        due("more 41", x.more(41), 0);
        due("more 90", x.more(90), 0);
        due("more 0", x.more(0), BAD);
        due("more 91", x.more(91), BAD);
        due("more -1", x.more(-1), BAD);
        x.bind(0, 20);
        due("of what is there", x.more(9), 2);
        RibbonOfLacks y = laid("t5,0;t4,0;t3,0;t3,0;t2,0;t1,0;b1;");
        due("by threes and twos", y.more(6), 3);
        due("more than beasts there are", laid("t1,0;t1,0;t1,0;t0,0;b1;").more(1), 3);
        due("not by the strongest first", laid("t6,0;t4,0;t4,0;t3,0;t3,0;b1;").more(10), 2);
        due("sounds by twos", laid("t5,1;t5,1;t5,1;t5,1;t5,1;b1;").more(20), 2);
    }

    private static void worstOnes() {
        RibbonOfLacks x = new RibbonOfLacks();
        due("worst", x.worst(0), 0);
        due("how many", x.worst(1), 2);
        due("worst -1", x.worst(-1), BAD);
        due("worst 2", x.worst(2), BAD);
        x.bind(0, 20);
        due("only what is there follows", x.worst(0), 0);
        due("none follow", x.worst(1), 0);
        x.bind(1, 11);
        due("none is there", x.worst(0), NONE);
        due("none is there, how many", x.worst(1), NONE);
        due("of several the lowest", laid("t1,0;t1,0;t1,0;t1,0;y0,1;y3,2;b1;").worst(0), 1);
        due("by it alone", laid("t1,0;t1,0;t1,0;y0,2;y0,1;b1;").worst(1), 1);
        RibbonOfLacks y = laid("t9,0;t1,0;t1,0;t1,0;t1,0;y3,0;y3,1;y4,2;b9;");
        y.bind(0, 1);
        due("not what is not there already", y.worst(0), 2);
    }

    private static void backAgain() {
        RibbonOfLacks x = new RibbonOfLacks();
        due("it is there", x.back(4), 0);
        x.bind(1, 3);
        due("what it needs", x.back(2), 1);
        due("what that needs", x.back(4), 1);
        due("itself", x.back(1), 2);
        due("it is there still", x.back(3), 0);
        due("back -1", x.back(-1), BAD);
        due("back 5", x.back(5), BAD);
        RibbonOfLacks y = laid("t9,0;t9,0;t9,0;y2,0;y2,1;b9;b9;b9;");
        y.bind(0, 1);
        y.bind(1, 2);
        due("two of two ribbons", y.back(2), 3);
        RibbonOfLacks z = laid("t9,0;t9,0;t9,0;y2,1;y1,0;b9;b9;");
        z.bind(0, 6);
        due("itself and what it needs", z.back(2), 6);
        due("one of the ribbon", z.back(1), 2);
        due("needed, and there", z.back(0), 0);
    }

    private static void missingOnes() {
        RibbonOfLacks x = new RibbonOfLacks();
        due("nobody misses", x.missing(0, 0, 0), 2);
        due("by nothing", x.missing(0, 0, 1), 0);
        due("in all of these", x.missing(0, 0, 2), 0);
        due("nobody misses, held", x.missing(0, 4, 1), 2);
        due("those who miss it all", x.missing(15, 0, 0), 8);
        due("with 0 and 3", x.missing(15, 0, 2), 9);
        due("late ones as all others", x.missing(8, 0, 1), 16);
        due("at the pull", x.missing(8, 11, 1), 18);
        due("above the pull", x.missing(8, 12, 0), 0);
        due("none, lowest", x.missing(8, 12, 1), NONE);
        due("none, in all", x.missing(8, 12, 2), NONE);
        due("can not be", x.missing(1, 0, 0), 0);
        due("persons -1", x.missing(-1, 0, 0), BAD);
        due("persons 16", x.missing(16, 0, 0), BAD);
        due("pull -1", x.missing(0, -1, 0), BAD);
        due("pull 90", x.missing(0, 90, 0), 0);
        due("pull 91", x.missing(0, 91, 0), BAD);
        due("missing what -1", x.missing(0, 0, -1), BAD);
        due("missing what 3", x.missing(0, 0, 3), BAD);
        x.bind(1, 3);
        due("nothing else being gone", x.missing(0, 0, 0), 2);
        RibbonOfLacks y = laid("t1,0;b1;");
        due("of no persons", y.missing(0, 0, 0), 2);
        due("of no persons, one", y.missing(1, 0, 0), BAD);
    }

    private static void trials() {
        RibbonOfLacks x = new RibbonOfLacks();
        chance(x, 5, 5, 1, 2, 3);
        chance(x, 5, 5, 6, 64, 65);
        chance(x, 5, 0, 6, 1, 2);
        chance(x, 5, 10, 1, 1, 1);
        chance(x, 5, 10, 0, 1, 2);
        chance(x, 0, 3, 2, 0, 1);
        chance(x, 0, 10, 0, 0, 1);
        chance(x, 10, 10, 6, 1, 1);
        chance(x, 1, 1, 1, 10, 91);
        chance(x, 3, 7, 6, 1000000, 1001701);
        chance(x, 4, 0, 3, 2, 5);
        chance(x, 0, 10, 1, NONE, NONE);
        chance(x, 0, 10, 6, NONE, NONE);
        int[][] bad = {{-1, 0, 0, 0}, {11, 0, 0, 0}, {0, -1, 0, 0}, {0, 11, 0, 0}, {0, 0, -1, 0}, {0, 0, 7, 0},
            {0, 0, 0, -1}, {0, 0, 0, 2}, {0, 10, 1, 2}, {MAX, MAX, MAX, MAX}, {MIN, MIN, MIN, MIN}};
        for (int[] a : bad) {
            due("wrong trial", x.trial(a[0], a[1], a[2], a[3]), BAD);
        }
    }

    private static void chance(RibbonOfLacks x, int a, int f, int n, long above, long below) {
        String call = "trial " + a + " " + f + " " + n;
        due(call + " above", x.trial(a, f, n, 0), above);
        due(call + " below", x.trial(a, f, n, 1), below);
    }

    private static void pledges() {
        RibbonOfLacks x = new RibbonOfLacks();
        due("none rests", x.pledge(0), 0);
        due("none is first", x.pledge(1), NONE);
        due("pledge -1", x.pledge(-1), BAD);
        due("pledge 2", x.pledge(2), BAD);
        pledgeIs("t1,0;p0,7;b1;", 1, 0);
        pledgeIs("t1,0;b1;", 0, NONE);
        pledgeIs("t1,0;p0,1;p0,3;b1;", 1, 0);
        pledgeIs("t1,0;p0,1;p0,2;b1;", 0, NONE);
        pledgeIs("t1,0;p0,9;p0,9;p0,3;b1;", 1, 18);
        pledgeIs("t1,0;p0,9;p0,8;p0,3;b1;", 0, NONE);
        pledgeIs("t1,0;p0,2;p0,2;b1;", 0, NONE);
        pledgeIs("t1,0;p0,6;p0,2;b1;", 1, 9);
    }

    private static void pledgeIs(String text, int rests, int first) {
        RibbonOfLacks x = laid(text);
        due("rests in " + text, x.pledge(0), rests);
        due("first in " + text, x.pledge(1), first);
    }

    private static void gains() {
        String three = "t1,0;t1,0;t1,0;b1;";
        gainIs(three + "x0,1,1,2;x1,0,2,1;", NONE);
        gainIs(three + "x0,1,2,3;x1,0,2,2;", 2, 3, 2, 0, 1);
        gainIs(three + "x0,1,1,2;x1,2,1,1;x2,0,1,1;", 3, 2, 1, 0, 1, 2);
        gainIs(three + "x2,0,1,1;x0,1,4,6;x1,2,1,1;", 3, 3, 2, 0, 1, 2);
        gainIs(three + "x1,0,1,1;x0,2,1,9;x2,0,1,9;x0,1,1,2;", 2, 2, 1, 0, 3);
        gainIs(three + "x1,0,3,1;x0,1,1,2;x0,1,1,3;x0,1,1,4;", 2, 4, 3, 0, 3);
        gainIs(three + "x0,1,1,2;x1,0,3,1;x0,2,1,2;x2,0,3,1;x0,2,1,9;", 2, 3, 1, 3, 4);
        gainIs(three + "x0,1,9,9;x1,0,9,9;", NONE);
        gainIs("t1,0;b1;", NONE);
        gainIs(three + "x0,1,1,9;x1,2,1,9;", NONE);
        String six = "t1,0;t1,0;t1,0;t1,0;t1,0;t1,0;b1;";
        gainIs(six + "x5,0,1,9;x0,1,1,9;x1,2,1,9;x2,3,1,9;x3,4,1,9;x4,5,1,9;", 6, 531441, 1, 0, 1, 2, 3, 4, 5);
        RibbonOfLacks x = new RibbonOfLacks();
        due("gain -4", x.gain(-4), BAD);
        due("gain 6", x.gain(6), BAD);
        due("gain 5", x.gain(5), NONE);
        due("gain -3", x.gain(-3), NONE);
    }

    /** How many, above, below, then the exchanges; or NONE alone. */
    private static void gainIs(String text, int... want) {
        RibbonOfLacks x = laid(text);
        boolean none = want.length == 1;
        due("gain's length in " + text, x.gain(-1), want[0]);
        due("gain above in " + text, x.gain(-2), none ? NONE : want[1]);
        due("gain below in " + text, x.gain(-3), none ? NONE : want[2]);
        for (int k = 0; k <= 5; k++) {
            boolean has = !none && k + 3 < want.length;
            due("gain " + k + " in " + text, x.gain(k), has ? want[k + 3] : NONE);
        }
    }

    private static void rows() {
        RibbonOfLacks x = new RibbonOfLacks();
        int[][] bad = {{-1, 1, 0}, {10000, 1, 0}, {0, 0, 0}, {0, 41, 0}, {0, 1, -1}, {0, 1, 2}, {MAX, MAX, MAX}};
        for (int[] a : bad) {
            due("wrong row", x.row(a[0], a[1], a[2]), BAD);
        }
        // z = 0, k = 0: x = 1, DRAW 1, so beast 1, bound by LEAST: 24, of which 4 is late.
        due("one day", x.row(0, 1, 0), 1);
        // z = 1: x = 7920, DRAW 22603, so beast 1 again.
        due("one day by another draw", x.row(1, 1, 0), 1);
        // z = 0, k = 1: x = 6152, DRAW 41687, beast 1 is bound, DRAW by 8 is 5210: not loosened.
        due("two days", x.row(0, 2, 0), 3);
        due("two days, none escaped", x.row(0, 2, 1), 0);
        // k = 2: x = 12303, DRAW 10499, beast 1 once more; on this day the lent thing comes out.
        due("three days, escaped", x.row(0, 3, 1), 1);
        due("three days, missed", x.row(0, 3, 0), 0);
        due("a row changes nothing", x.count(5) + x.count(6) + x.beast(1, 1) + x.beast(1, 3), 0);
        due("far away", x.row(9999, 40, 1), 5);
        x.bind(0, 20);
        due("from now on", x.row(0, 1, 0), 10);
        due("one behind another", x.row(0, 1, 0), 10);
        due("what is bound stays so", x.beast(0, 1), 20);
        for (int i = 0; i < 24; i++) {
            x.days(40);
        }
        x.days(39);
        due("rows behind the last day", x.row(0, 1, 0), 10);
    }

    private static void keeping() {
        RibbonOfLacks x = new RibbonOfLacks();
        due("keep", x.keep(), 1);
        due("keep again", x.keep(), 2);
        due("no more", x.keep(), FULL);
        due("how many are kept", x.count(7), 2);
        due("keeping is not undone", x.undo(), NO);
    }

    private static void restoring() {
        RibbonOfLacks x = new RibbonOfLacks();
        due("nothing kept", x.restore(), NO);
        x.bind(0, 10);
        x.days(3);
        x.bind(1, 3);
        x.keep();
        x.days(2);
        x.keep();
        x.loosen(1);
        due("restore", x.restore(), 1);
        due("as kept last", x.beast(1, 2), 2);
        due("nothing is undone then", x.undo(), NO);
        x.loosen(1);
        x.bind(0, 10);
        x.days(20);
        due("restore again", x.restore(), 0);
        due("the ribbon kept", x.beast(1, 1), 3);
        due("its age", x.beast(1, 2), 0);
        due("the days kept", x.count(5), 3);
        due("the escapes kept", x.beast(0, 3), 1);
        due("nothing kept any more", x.restore(), NO);
        due("none is undone", x.count(6), 0);
        x.days(1);
        x.keep();
        due("undo goes on behind keep", x.undo(), 0);
        due("kept all the same", x.count(7), 1);
        x.restore();
        due("as it was kept, not as undone", x.count(5), 4);
    }

    private static void counting() {
        RibbonOfLacks x = laid("t1,0;t1,0;t1,0;y0,1;y0,1;p0,1;b1;b1;x0,1,1,1;");
        int[] counts = {3, 2, 1, 2, 1, 0, 0, 0, 45};
        for (int i = 0; i < counts.length; i++) {
            due("count " + i, x.count(i), counts[i]);
        }
        x.bind(0, 1);
        x.days(7);
        x.keep();
        due("days gone by", x.count(5), 7);
        due("that can be undone", x.count(6), 2);
        due("kept", x.count(7), 1);
        due("count -1", x.count(-1), BAD);
        due("count 9", x.count(9), BAD);
    }
}
