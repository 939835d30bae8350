/**
 * The boundaries that part 3 of the document's terms names, a test for each: cost, the least ribbon,
 * all beasts together, how many more, the worst thing, what must be back. Promises 16 to 21.
 */
public final class BestBoundaries {
    private static final int BAD = -1, NO = -2, NONE = -4;
    private static final int MIN = Integer.MIN_VALUE, MAX = Integer.MAX_VALUE;

    private static int wrong = 0;

    private static void due(String what, long got, long want) {
        if (got != want) {
            wrong++;
            System.out.println(what + " answered " + got + ", due is " + want);
        }
    }

    private static RibbonOfLacks laid(String text) {
        RibbonOfLacks x = new RibbonOfLacks();
        for (int i = 0; i < text.length(); i++) {
            x.write(text.charAt(i));
        }
        due("no fault in " + text, x.fault(), NONE);
        due("lay of " + text, Math.min(1, x.lay()), 1);
        return x;
    }

    private static void leastIs(String text, int ribbon, int cost) {
        RibbonOfLacks x = laid(text);
        due("least in " + text, x.least(0, 0), ribbon);
        due("its cost in " + text, x.least(0, 1), cost);
    }

    /** What is used, its cost, the ribbons. */
    private static void allIs(String text, int used, int cost, int... ribbons) {
        RibbonOfLacks x = laid(text);
        due("all in " + text, x.all(-1), used);
        due("all's cost in " + text, x.all(-2), cost);
        for (int b = 0; b < ribbons.length; b++) {
            due("all's ribbon " + b + " in " + text, x.all(b), ribbons[b]);
        }
        due("behind the last beast in " + text, x.all(x.count(3)), BAD);
    }

    private static void noWayForAll(RibbonOfLacks x) {
        for (int b = -2; b < x.count(3); b++) {
            due("no way for all: " + b, x.all(b), NONE);
        }
        due("no beast, no way", x.all(x.count(3)), BAD);
        due("below what may be asked, no way", x.all(-3), BAD);
    }

    public static void main(String[] args) {
        costOfNothing();
        costBesidesWhatIsGone();
        costWithLateOnes();
        costOfSetsThatAre();
        leastThatJustHolds();
        leastCostFirst();
        thenFewestThings();
        thenTheLowest();
        leastOfWhatIsThere();
        leastWhetherBoundOrNot();
        noneIsLeast();
        whatOneMayAskOfLeast();
        nobodyLoose();
        noneForAll();
        noThingInTwo();
        allJustHold();
        allByCostOfOneSet();
        allByFewestThings();
        allByLowestThings();
        theLowestBeastFirst();
        onlyThoseNotBound();
        fourAtOnce();
        whatOneMayAskOfAll();
        moreByPull();
        moreThanThereAre();
        moreOfWhatIsThere();
        pullsThatMayBeAsked();
        theWorst();
        theWorstOfSeveral();
        theWorstByWhatIsThere();
        noThingIsThere();
        whatOneMayAskOfTheWorst();
        backOfWhatIsThere();
        backByWhatItFollows();
        backByFewest();
        thingsThatMayComeBack();
        System.out.println(wrong == 0 ? "all boundaries of what is best hold" : wrong + " answers are not as due");
        if (wrong != 0) {
            System.exit(1);
        }
    }

    private static void costOfNothing() {
        RibbonOfLacks x = laid("t5,0;t5,0;t5,0;p1,9;p2,1;b5;b5;");
        due("of nothing", x.cost(0), 0);
        due("of what nobody misses", x.cost(1), 0);
        due("of what somebody misses", x.cost(2), 9);
        due("of all", x.cost(7), 10);
        x.bind(0, 2);
        due("of nothing besides what is gone", x.cost(0), 0);
        due("nobody to miss", laid("t5,0;b5;").cost(1), 0);
    }

    /** "by how much more would be MISSED .. were it GONE besides what is GONE" */
    private static void costBesidesWhatIsGone() {
        RibbonOfLacks x = laid("t5,0;t5,0;t5,0;t5,0;y1,0;y1,3;p0,1;p1,2;p2,4;p1,8;b5;b5;");
        due("with what follows", x.cost(1), 11);
        due("of two by which one follows", x.cost(9), 11);
        x.bind(0, 8);
        due("what follows already is missed already", x.cost(1), 1);
        due("what is gone already", x.cost(8), 0);
        due("what follows what is gone", x.cost(2), 0);
        due("of all", x.cost(15), 5);
        x.loosen(0);
        due("there again", x.cost(2), 10);
    }

    /** "(LATE ones as all others, with it and without it)" */
    private static void costWithLateOnes() {
        RibbonOfLacks x = laid("t5,3;t5,0;t5,3;p0,5;p1,2;p2,1;b5;b5;");
        due("a late one at once", x.cost(1), 5);
        x.bind(0, 1);
        due("not missed yet", x.missed(), 0);
        due("but not more by it", x.cost(1), 0);
        due("another one by itself", x.cost(2), 2);
        due("another late one", x.cost(4), 1);
        due("of all", x.cost(7), 3);
        x.days(2);
        due("found, the same", x.cost(7), 3);
    }

    /** "sets of THINGS: 0, too" */
    private static void costOfSetsThatAre() {
        for (int n = 1; n <= 10; n++) {
            RibbonOfLacks x = laid("t1,0;".repeat(n) + "p0,2;b1;");
            due("of nothing", x.cost(0), 0);
            due("of all", x.cost((1 << n) - 1), 2);
            for (int set : new int[] {-1, 1 << n, (1 << n) + 1, 1 << 16, MIN, MAX}) {
                due("of no set " + set, x.cost(set), BAD);
            }
        }
    }

    /** "RIBBONS of THINGS .. that HOLD it" */
    private static void leastThatJustHolds() {
        leastIs("t5,0;b5;", 1, 0);
        leastIs("t4,0;b5;", NONE, NONE);
        leastIs("t4,0;t5,0;p1,9;b5;", 2, 9);
        leastIs("t2,0;t5,0;t3,0;p1,9;b5;", 5, 0);
        leastIs("t2,0;t5,0;t2,0;p1,9;b5;", 2, 9);
        leastIs("t0,0;t1,0;b1;", 2, 0);
        leastIs("t20,1;t20,1;t10,0;b90;", 7, 0);
        leastIs("t20,1;t20,1;t9,0;b90;", NONE, NONE);
        leastIs("t3,1;t9,0;t2,1;p1,1;b10;", 5, 0);
    }

    /** "that of least COST" */
    private static void leastCostFirst() {
        leastIs("t9,0;t3,0;t3,0;t3,0;p0,1;b9;", 14, 0);
        leastIs("t9,0;t9,0;p0,2;p1,1;b9;", 2, 1);
        leastIs("t9,0;t9,0;t1,0;y2,0;p2,9;p1,8;b9;", 2, 8);
        leastIs("t9,3;t9,0;p0,2;p1,1;b9;", 2, 1);
        leastIs("t9,2;t9,0;p0,1;p1,2;b9;", 1, 1);
    }

    /** "of several the one of fewest THINGS" */
    private static void thenFewestThings() {
        leastIs("t3,0;t3,0;t6,0;b6;", 4, 0);
        leastIs("t2,0;t2,0;t2,0;t3,0;t3,0;b6;", 24, 0);
        leastIs("t3,0;t3,0;t6,0;p0,1;p2,1;b6;", 4, 1);
        leastIs("t1,0;t9,0;p1,1;b9;", 2, 1);
        leastIs("t4,0;t4,0;t4,0;y1,0;p1,1;b8;", 3, 1);
    }

    /** "of several the lowest" */
    private static void thenTheLowest() {
        leastIs("t6,0;t6,0;t6,0;b6;", 1, 0);
        leastIs("t6,0;t6,0;t6,0;p0,1;b6;", 2, 0);
        leastIs("t3,0;t3,0;t3,0;b6;", 3, 0);
        leastIs("t2,0;t4,0;t4,0;t2,0;b6;", 3, 0);
        leastIs("t1,0;t4,0;t5,0;t2,0;b6;", 5, 0);
        leastIs("t1,0;".repeat(9) + "t2,0;b2;", 512, 0);
    }

    /** "by THINGS that are there now" */
    private static void leastOfWhatIsThere() {
        RibbonOfLacks x = laid("t5,0;t5,0;t5,0;y1,0;p2,9;b5;b5;");
        due("all are there", x.least(1, 0), 1 << 0);
        x.bind(0, 1);
        due("without what is gone and what follows", x.least(1, 0), 4);
        due("its cost", x.least(1, 1), 9);
        x.loosen(0);
        due("there again", x.least(1, 0), 1);
        x.bind(0, 2);
        due("without what is gone", x.least(1, 0), 1);
        due("cost besides what is gone", x.least(1, 1), 0);
    }

    /** "(whether it is bound or not ..)" */
    private static void leastWhetherBoundOrNot() {
        RibbonOfLacks x = laid("t5,0;t5,0;t4,0;b5;b9;");
        x.bind(0, 1);
        due("bound, by the others", x.least(0, 0), 2);
        due("the loose one", x.least(1, 0), 6);
        x.bind(1, 6);
        due("bound, none", x.least(0, 0), NONE);
        due("both bound, none", x.least(1, 1), NONE);
    }

    private static void noneIsLeast() {
        RibbonOfLacks x = laid("t5,0;b6;b5;");
        due("too weak", x.least(0, 0), NONE);
        due("too weak, cost", x.least(0, 1), NONE);
        due("strong enough for the other", x.least(1, 0), 1);
        due("none, nothing to be asked", x.least(0, 2), BAD);
        due("none, nobody", x.least(2, 0), BAD);
        x.bind(1, 1);
        due("no thing is there", x.least(1, 0), NONE);
    }

    private static void whatOneMayAskOfLeast() {
        RibbonOfLacks x = laid("t5,0;b5;b4;");
        for (int b : new int[] {-1, 2, 4, 256, 65536, MIN, MAX}) {
            for (int what = -1; what <= 2; what++) {
                due("least for no beast " + b, x.least(b, what), BAD);
            }
        }
        for (int what : new int[] {-1, 2, 256, 65536, MIN, MAX}) {
            due("least, nothing to be asked: " + what, x.least(1, what), BAD);
        }
    }

    /** "(nobody loose: 0, 0)" */
    private static void nobodyLoose() {
        RibbonOfLacks x = laid("t5,0;t5,0;p0,1;b5;b5;");
        x.bind(0, 1);
        due("one loose", x.all(-1), 2);
        x.bind(1, 2);
        due("nobody loose: nothing used", x.all(-1), 0);
        due("nobody loose: no cost", x.all(-2), 0);
        due("nobody loose: 0 is bound", x.all(0), 0);
        due("nobody loose: 1 is bound", x.all(1), 0);
        due("nobody loose: no beast", x.all(2), BAD);
    }

    private static void noneForAll() {
        noWayForAll(laid("t5,0;b6;"));
        noWayForAll(laid("t5,0;t5,0;b5;b6;"));
        noWayForAll(laid("t5,0;t5,0;b5;b5;b1;"));
        noWayForAll(laid("t5,0;t4,0;b5;b5;"));
        noWayForAll(laid("t0,0;b1;"));
        RibbonOfLacks x = laid("t5,0;t5,0;y1,0;b5;b5;");
        due("both are there", x.all(-1), 3);
        x.bind(0, 1);
        noWayForAll(x);
    }

    /** "no THING in two" */
    private static void noThingInTwo() {
        noWayForAll(laid("t20,0;b10;b10;"));
        noWayForAll(laid("t9,0;t9,0;t3,0;b10;b10;"));
        allIs("t10,0;t10,0;b10;b10;", 3, 0, 1, 2);
        noWayForAll(laid("t5,1;t5,1;b10;b10;"));
        allIs("t5,1;t5,1;t5,1;t5,1;b20;b20;", 15, 0, 3, 12);
        noWayForAll(laid("t5,1;t5,1;t5,1;t4,1;b20;b20;"));
    }

    /** "HOLDING each" */
    private static void allJustHold() {
        allIs("t3,0;t4,0;t5,0;b7;b5;", 7, 0, 3, 4);
        noWayForAll(laid("t3,0;t4,0;t4,0;b7;b5;"));
        allIs("t3,0;t4,0;t4,0;b7;b4;", 7, 0, 3, 4);
        noWayForAll(laid("t3,0;t3,0;t5,0;b7;b5;"));
    }

    /** "the COST of all together (of all THINGS used as one set) is least" */
    private static void allByCostOfOneSet() {
        allIs("t5,0;t5,0;t5,0;t5,0;y2,0;y2,1;p2,5;p3,6;b5;b5;", 3, 5, 1, 2);
        allIs("t5,0;t5,0;t5,0;t5,0;y2,0;y3,1;p2,5;p3,6;b5;b5;", 5, 5, 1, 4);
        allIs("t5,0;t5,0;t2,0;t3,0;p0,1;b5;b5;", 14, 0, 2, 12);
        allIs("t5,3;t5,0;t5,0;p0,1;b5;b5;", 6, 0, 2, 4);
        RibbonOfLacks x = laid("t5,0;t5,0;t5,0;t1,0;y3,0;y3,1;p3,9;p2,1;p1,1;b5;b5;");
        due("missed but once, by whichever", x.all(-2), 10);
        due("of two as dear the lowest", x.all(-1), 3);
        x.bind(0, 1);
        due("besides what is gone", x.all(-2), 1);
        due("of several the lowest", x.all(1), 2);
    }

    /** "of several that which uses fewest THINGS" */
    private static void allByFewestThings() {
        allIs("t3,0;t3,0;t6,0;t6,0;b6;b6;", 12, 0, 4, 8);
        allIs("t3,0;t3,0;t6,0;t5,0;b6;b6;", 7, 0, 3, 4);
        allIs("t3,0;t3,0;t6,0;t6,0;p2,1;p3,1;p0,1;b6;b6;", 12, 2, 4, 8);
        allIs("t3,0;t3,0;t6,0;t6,0;p2,1;p3,1;b6;b6;", 7, 1, 3, 4);
        allIs("t1,0;t1,0;t1,0;t3,0;b2;b1;", 9, 0, 8, 1);
    }

    /** "of several the lowest set of THINGS used" */
    private static void allByLowestThings() {
        allIs("t6,0;t6,0;t6,0;b6;b6;", 3, 0, 1, 2);
        allIs("t6,0;t6,0;t6,0;p0,1;b6;b6;", 6, 0, 2, 4);
        allIs("t1,0;t6,0;t6,0;t6,0;b6;b6;", 6, 0, 2, 4);
        allIs("t6,0;t2,0;t6,0;t9,0;b6;b2;", 3, 0, 1, 2);
    }

    /** "that of the lowest BEAST is the lowest set by which the others can still be held out of these, then .." */
    private static void theLowestBeastFirst() {
        allIs("t2,0;t9,0;b2;b9;", 3, 0, 1, 2);
        allIs("t9,0;t2,0;b2;b9;", 3, 0, 2, 1);
        allIs("t9,0;t9,0;t9,0;b9;b9;b9;", 7, 0, 1, 2, 4);
        allIs("t3,0;t2,0;t1,0;b1;b2;b3;", 7, 0, 4, 2, 1);
        allIs("t5,0;t4,0;t3,0;t2,0;b6;b8;", 15, 0, 10, 5);
        allIs("t4,0;t4,0;t4,0;t4,0;b8;b8;", 15, 0, 3, 12);
        allIs("t1,0;t9,0;t1,0;b9;b1;b1;", 7, 0, 2, 1, 4);
    }

    /** "for all BEASTS that are not bound" */
    private static void onlyThoseNotBound() {
        RibbonOfLacks x = laid("t5,0;t6,0;t7,0;t8,0;p0,3;p1,2;p2,1;p3,9;b5;b6;b7;");
        due("all three", x.all(-1), 7);
        x.bind(1, 8);
        due("two loose: used", x.all(-1), 6);
        due("two loose: cost", x.all(-2), 3);
        due("two loose: the first", x.all(0), 2);
        due("two loose: the bound one", x.all(1), 0);
        due("two loose: the last", x.all(2), 4);
        x.bind(2, 4);
        due("one loose: used", x.all(-1), 2);
        due("one loose: cost", x.all(-2), 2);
        due("one loose: its ribbon", x.all(0), 2);
        due("one loose: the others are bound", x.all(1) + x.all(2), 0);
        due("bound with what is asked", x.bind(0, x.all(0)), 6);
        due("bound, asked again", x.all(0), 0);
        x.undo();
        x.undo();
        x.bind(2, 6);
        due("one loose: what is left for it", x.all(0), 1);
        x.undo();
        x.bind(2, 7);
        due("one loose, none for it", x.all(-1), NONE);
    }

    private static void fourAtOnce() {
        allIs("t1,0;t2,0;t3,0;t4,0;b4;b3;b2;b1;", 15, 0, 8, 4, 2, 1);
        allIs("t20,1;t20,1;t20,1;t20,1;t20,0;t20,0;t20,0;t20,0;t10,0;t10,0;b80;b40;b40;b90;", 1023 - 512, 0, 3, 48, 192, 268);
        noWayForAll(laid("t1,0;t2,0;t3,0;t3,0;b4;b3;b2;b1;"));
        noWayForAll(laid("t1,0;t2,0;t3,0;b1;b1;b1;b1;"));
    }

    /** "what is used (b = -1), the COST (-2), the RIBBON of a BEAST" */
    private static void whatOneMayAskOfAll() {
        RibbonOfLacks x = laid("t5,0;t5,0;b5;b4;");
        for (int b : new int[] {-3, 2, 4, 256, 65536, MIN, MAX}) {
            due("nothing to be asked of all: " + b, x.all(b), BAD);
        }
        due("used", x.all(-1), 3);
        due("cost", x.all(-2), 0);
        due("the first beast", x.all(0), 1);
        due("the last beast", x.all(1), 2);
    }

    /** "of BEASTS of PULL p each: how many could be bound at once" */
    private static void moreByPull() {
        RibbonOfLacks x = laid("t5,0;t4,0;t3,0;t2,0;b90;");
        int[] wanted = {0, 4, 4, 3, 3, 2, 2, 2, 1};
        for (int p = 1; p <= 8; p++) {
            due("more by " + p, x.more(p), wanted[p]);
        }
        due("all together just hold", x.more(14), 1);
        due("all together are weaker by one", x.more(15), 0);
        due("of the most pull", x.more(90), 0);
        due("sounds by twos", laid("t5,1;t5,1;t5,1;t5,1;t5,1;b1;").more(20), 2);
        due("sounds by threes", laid("t5,1;t5,1;t5,1;t5,1;t5,1;b1;").more(21), 1);
        due("the most pull, just", laid("t20,1;t20,1;t10,0;b1;").more(90), 1);
        due("the most pull, weaker by one", laid("t20,1;t20,1;t9,0;b1;").more(90), 0);
        due("not by the strongest first", laid("t6,0;t4,0;t4,0;t3,0;t3,0;b1;").more(10), 2);
    }

    private static void moreThanThereAre() {
        due("ten, of one beast", laid("t1,0;".repeat(10) + "b1;").more(1), 10);
        due("five, of ten", laid("t1,0;".repeat(10) + "b1;").more(2), 5);
        due("three, of ten", laid("t1,0;".repeat(10) + "b1;").more(3), 3);
        due("without strength", laid("t0,0;t0,0;t1,0;b1;").more(1), 1);
        due("without any strength", laid("t0,0;t0,0;b1;").more(1), 0);
        due("three by the most pull", laid("t20,1;".repeat(10) + "b1;").more(90), 3);
        due("five by 80", laid("t20,1;".repeat(10) + "b1;").more(80), 5);
        due("three by 81", laid("t20,1;".repeat(10) + "b1;").more(81), 3);
    }

    /** "with THINGS that are there" */
    private static void moreOfWhatIsThere() {
        RibbonOfLacks x = laid("t5,0;t5,0;t5,0;t5,0;y1,0;b5;b10;");
        due("four", x.more(5), 4);
        x.bind(0, 1);
        due("without what is gone and what follows", x.more(5), 2);
        due("both together", x.more(10), 1);
        due("weaker by one", x.more(11), 0);
        x.bind(1, 12);
        due("nothing is there", x.more(1), 0);
        x.loosen(0);
        due("there again", x.more(5), 2);
    }

    /** "p (1 to 90)" */
    private static void pullsThatMayBeAsked() {
        RibbonOfLacks x = laid("t5,0;b5;");
        for (int p : new int[] {0, 91, -1, 256 + 5, 65536 + 5, MIN, MAX}) {
            due("more by no pull " + p, x.more(p), BAD);
        }
        due("the least pull", x.more(1), 1);
        due("the most pull", x.more(90), 0);
    }

    /** "the THING that is there which most others that are there FOLLOW (by it alone; 0, too)" */
    private static void theWorst() {
        worstIs("t1,0;b1;", 0, 0);
        worstIs("t1,0;t1,0;t1,0;y0,1;b1;", 1, 1);
        worstIs("t1,0;t1,0;t1,0;y0,1;y1,2;b1;", 2, 2);
        worstIs("t1,0;".repeat(10) + "y0,9;y1,9;y2,9;y3,9;y4,9;y5,9;y6,9;y7,9;y8,9;b1;", 9, 9);
        worstIs("t1,0;t1,0;t1,0;y0,2;y0,1;b1;", 1, 1);
    }

    private static void worstIs(String text, int thing, int many) {
        RibbonOfLacks x = laid(text);
        due("worst in " + text, x.worst(0), thing);
        due("how many in " + text, x.worst(1), many);
    }

    /** "of several the lowest" */
    private static void theWorstOfSeveral() {
        worstIs("t1,0;t1,0;t1,0;b1;", 0, 0);
        worstIs("t1,0;t1,0;t1,0;t1,0;y0,1;y3,2;b1;", 1, 1);
        worstIs("t1,0;t1,0;t1,0;y0,1;y1,0;b1;", 0, 1);
        worstIs("t1,0;t1,0;t1,0;y1,2;y2,1;y0,2;b1;", 1, 2);
    }

    private static void theWorstByWhatIsThere() {
        RibbonOfLacks x = laid("t9,0;t1,0;t1,0;t1,0;t1,0;y3,0;y3,1;y4,2;b9;");
        due("the first", x.worst(0), 0);
        x.bind(0, 1);
        due("not what is gone", x.worst(0), 2);
        due("how many are there", x.worst(1), 1);
        RibbonOfLacks y = laid("t9,0;t1,0;t1,0;t1,0;y1,0;y1,2;b9;");
        y.bind(0, 1);
        due("none of those there follow any more", y.worst(1), 0);
        due("so the lowest that is there", y.worst(0), 2);
    }

    /** "NONE (no THING is there)" */
    private static void noThingIsThere() {
        RibbonOfLacks x = laid("t9,0;t1,0;y1,0;b9;");
        x.bind(0, 1);
        due("none", x.worst(0), NONE);
        due("none, how many", x.worst(1), NONE);
        due("none, nothing to be asked", x.worst(2), BAD);
        due("none, nothing to be asked", x.worst(-1), BAD);
        x.loosen(0);
        due("there again", x.worst(0), 0);
    }

    private static void whatOneMayAskOfTheWorst() {
        RibbonOfLacks x = laid("t9,0;b9;");
        for (int what : new int[] {-1, 2, 256, 65536, MIN, MAX}) {
            due("worst, nothing to be asked: " + what, x.worst(what), BAD);
        }
    }

    /** "(0: it is there)" */
    private static void backOfWhatIsThere() {
        RibbonOfLacks x = laid("t9,0;t9,0;t9,0;y1,0;b9;b9;");
        for (int t = 0; t < 3; t++) {
            due("it is there", x.back(t), 0);
        }
        x.bind(0, 2);
        due("itself", x.back(1), 2);
        due("what it needs is there", x.back(0), 0);
        due("another is there", x.back(2), 0);
        x.loosen(0);
        due("there again", x.back(1), 0);
    }

    private static void backByWhatItFollows() {
        RibbonOfLacks x = laid("t9,0;t9,0;t9,0;t9,0;y1,0;y2,1;b9;b9;b9;");
        x.bind(0, 1);
        due("what it needs", x.back(1), 1);
        due("what that needs", x.back(2), 1);
        due("another", x.back(3), 0);
        RibbonOfLacks round = laid("t9,0;t9,0;t9,0;y1,0;y0,1;b18;");
        round.bind(0, 3);
        due("each needs the other: both", round.back(0), 3);
        due("each needs the other: both", round.back(1), 3);
        due("the third one is there", round.back(2), 0);
    }

    /** "the fewest THINGS that are GONE that would have to be there again" */
    private static void backByFewest() {
        RibbonOfLacks x = laid("t9,0;t9,0;t9,0;t9,0;t1,0;y4,0;y4,2;b9;b9;b18;");
        x.bind(2, 9);
        x.bind(0, 2);
        due("only what it needs of a ribbon", x.back(4), 1);
        x.bind(1, 4);
        due("of two ribbons", x.back(4), 5);
        due("itself alone", x.back(3), 8);
        x.loosen(2);
        due("of one again", x.back(4), 4);
        RibbonOfLacks y = laid("t9,0;t9,0;t9,0;y2,1;y1,0;b9;b9;");
        y.bind(0, 4);
        due("itself, the others are there", y.back(2), 4);
        y.bind(1, 2);
        due("itself and what it needs", y.back(2), 6);
        due("not what needs it", y.back(1), 2);
    }

    private static void thingsThatMayComeBack() {
        RibbonOfLacks x = laid("t9,0;t9,0;b9;b9;");
        x.bind(0, 2);
        for (int t : new int[] {-1, 2, 10, 32, 256, 65536, MIN, MAX}) {
            due("back of no thing " + t, x.back(t), BAD);
        }
        due("the last thing", x.back(1), 2);
        due("bind with what is gone", x.bind(1, 2), NO);
    }
}
