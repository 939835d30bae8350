/**
 * The boundaries that part 2 of the document's terms names, a test for each: ribbons, what follows,
 * what is there, days, what is missed, what is undone. Promises 6 to 15.
 */
public final class RibbonBoundaries {
    private static final int BAD = -1, NO = -2, NONE = -4;
    private static final int MIN = Integer.MIN_VALUE, MAX = Integer.MAX_VALUE;

    private static int wrong = 0;

    private static void due(String what, long got, long want) {
        if (got != want) {
            wrong++;
            System.out.println(what + " answered " + got + ", due is " + want);
        }
    }

    private static RibbonOfLacks laid(String text) {
        RibbonOfLacks x = new RibbonOfLacks();
        for (int i = 0; i < text.length(); i++) {
            x.write(text.charAt(i));
        }
        due("no fault in " + text, x.fault(), NONE);
        due("lay of " + text, Math.min(1, x.lay()), 1);
        return x;
    }

    public static void main(String[] args) {
        aSoundAlone();
        aSoundWithAnother();
        setsOfThings();
        aRibbonJustStrongEnough();
        whatFollows();
        whatFollowsAgainAndAgain();
        whatIsThere();
        whatOneMayAskOfThings();
        whatOneMayAskOfPersons();
        whatOneMayAskOfBeasts();
        boundWithThingsThatAreThere();
        boundOnce();
        beastsThatAre();
        loosened();
        loosenedButWhatFollowsElse();
        theThirdDay();
        eachRibbonItsOwnDays();
        whatIsLeftJustHolds();
        soundsThatAreLeft();
        whatComesOutIsThereAgain();
        anEscapedBeast();
        escapesOfOneCall();
        oneToFortyDays();
        nineHundredNinetyNineDays();
        fiveHundredTwelveCalls();
        lessThanTwoDaysOld();
        lateOnesOfTwoRibbons();
        whatFollowsLateOnes();
        allPersonsTogether();
        theLastEightAreUndone();
        allOfOneCallAtOnce();
        whatIsUndone();
        evenWhatChangesNothing();
        whatCanNotBeUndone();
        System.out.println(wrong == 0 ? "all boundaries of ribbons hold" : wrong + " answers are not as due");
        if (wrong != 0) {
            System.exit(1);
        }
    }

    /** "a SOUND counts twice, if there is another SOUND in it": not without one. */
    private static void aSoundAlone() {
        RibbonOfLacks x = laid("t5,1;t3,0;t2,2;t4,3;t6,1;b5;");
        due("a sound alone", x.strength(1), 5);
        due("with a plain one", x.strength(3), 8);
        due("with a lent one", x.strength(5), 7);
        due("with a late one", x.strength(9), 9);
        due("with all but a sound", x.strength(15), 14);
        due("the other sound alone", x.strength(16), 6);
        due("with all but the first sound", x.strength(30), 15);
        due("a plain one ahead of it", laid("t5,0;t4,1;b5;").strength(3), 9);
        due("a lent one ahead of it", laid("t5,2;t4,1;b5;").strength(3), 9);
        due("a late one ahead of it", laid("t5,3;t4,1;b5;").strength(3), 9);
    }

    private static void aSoundWithAnother() {
        RibbonOfLacks x = laid("t5,1;t3,0;t2,2;t4,3;t6,1;b5;");
        due("two sounds", x.strength(17), 22);
        due("two sounds and the others once", x.strength(31), 31);
        RibbonOfLacks y = laid("t5,1;t0,1;t0,0;b10;");
        due("a sound without strength is another sound", y.strength(3), 10);
        due("a plain thing without strength is none", y.strength(5), 5);
        due("and holds", y.bind(0, 3), 10);
        due("three sounds", laid("t1,1;t2,1;t3,1;b1;").strength(7), 12);
        RibbonOfLacks ten = laid("t20,1;".repeat(10) + "b1;");
        due("ten sounds", ten.strength(1023), 400);
        due("the first and the last", ten.strength(513), 80);
        due("the last alone", ten.strength(512), 20);
    }

    /** "sets of THINGS: 0, too" */
    private static void setsOfThings() {
        for (int n = 1; n <= 10; n++) {
            RibbonOfLacks x = laid("t1,0;".repeat(n) + "b1;");
            due("no thing", x.strength(0), 0);
            due("nothing follows nothing", x.follows(0), 0);
            due("all things", x.strength((1 << n) - 1), n);
            due("all follow all", x.follows((1 << n) - 1), (1 << n) - 1);
            for (int set : new int[] {-1, 1 << n, (1 << n) + 1, 1 << 16, 1 << 30, MIN, MIN + 1, MAX}) {
                due("strength of no set " + set, x.strength(set), BAD);
                due("what follows no set " + set, x.follows(set), BAD);
                due("bind with no set " + set, x.bind(0, set), BAD);
            }
        }
    }

    /** "It HOLDS a BEAST, if it is no less than its PULL." */
    private static void aRibbonJustStrongEnough() {
        due("just as strong", laid("t12,0;b12;").bind(0, 1), 12);
        due("weaker by one", laid("t11,0;b12;").bind(0, 1), NO);
        due("stronger by one", laid("t13,0;b12;").bind(0, 1), 13);
        due("the least pull", laid("t1,0;b1;").bind(0, 1), 1);
        due("no strength, the least pull", laid("t0,0;b1;").bind(0, 1), NO);
        due("nothing, the least pull", laid("t1,0;b1;").bind(0, 0), NO);
        due("the most pull", laid("t20,1;t20,1;t10,0;b90;").bind(0, 7), 90);
        due("the most pull, weaker by one", laid("t20,1;t20,1;t9,0;b90;").bind(0, 7), NO);
        due("sounds together", laid("t5,1;t1,1;b12;").bind(0, 3), 12);
        due("sounds together, weaker by one", laid("t5,1;t1,1;b13;").bind(0, 3), NO);
        due("a sound alone", laid("t6,1;t6,0;b13;").bind(0, 3), NO);
    }

    /** "all of them and whatever needs one that FOLLOWS" */
    private static void whatFollows() {
        RibbonOfLacks x = laid("t1,0;t1,0;t1,0;t1,0;y1,0;y2,0;y2,3;b1;");
        due("nothing", x.follows(0), 0);
        due("what needs it", x.follows(1), 7);
        due("not what it needs", x.follows(2), 2);
        due("one of two needed ones", x.follows(8), 12);
        due("both needed ones", x.follows(9), 15);
        due("what nothing needs", x.follows(4), 4);
        due("of two that nothing needs", x.follows(6), 6);
    }

    /** "again and again" */
    private static void whatFollowsAgainAndAgain() {
        String ten = "t1,0;".repeat(10);
        String up = "y1,0;y2,1;y3,2;y4,3;y5,4;y6,5;y7,6;y8,7;y9,8;";
        String down = "y9,8;y8,7;y7,6;y6,5;y5,4;y4,3;y3,2;y2,1;y1,0;";
        for (String needs : new String[] {up, down}) {
            RibbonOfLacks x = laid(ten + needs + "b1;");
            due("a row of ten", x.follows(1), 1023);
            due("from the middle", x.follows(32), 992);
            due("the last one", x.follows(512), 512);
            due("two of them", x.follows(512 + 256), 768);
        }
        RibbonOfLacks round = laid(ten + up + "y0,9;b1;");
        for (int t = 0; t < 10; t++) {
            due("round about from " + t, round.follows(1 << t), 1023);
        }
        RibbonOfLacks two = laid("t1,0;t1,0;t1,0;y0,1;y1,0;b1;");
        due("each needs the other", two.follows(1), 3);
        due("each needs the other", two.follows(2), 3);
        due("the third one does not", two.follows(4), 4);
    }

    /** "A THING is there, if it does not FOLLOW what is GONE." */
    private static void whatIsThere() {
        RibbonOfLacks x = laid("t9,0;t1,0;t1,0;t1,0;y1,0;y2,1;y0,3;b9;");
        for (int t = 0; t < 4; t++) {
            due("there", x.thing(t, 2), 1);
            due("in no ribbon", x.thing(t, 3), NONE);
        }
        x.bind(0, 1);
        int[] there = {0, 0, 0, 1};
        for (int t = 0; t < 4; t++) {
            due("there by then: " + t, x.thing(t, 2), there[t]);
            due("ribbon by then: " + t, x.thing(t, 3), t == 0 ? 0 : NONE);
        }
        due("as strong as ever", x.thing(0, 0), 9);
        due("a ribbon as strong as ever", x.strength(15), 12);
        due("what follows as ever", x.follows(8), 15);
    }

    /** Promise 6, BAD */
    private static void whatOneMayAskOfThings() {
        RibbonOfLacks x = laid("t20,3;t7,2;b20;b7;");
        due("strength", x.thing(0, 0), 20);
        due("kind", x.thing(0, 1), 3);
        x.bind(1, 1);
        due("the second beast's ribbon", x.thing(0, 3), 1);
        x.bind(0, 2);
        due("bound too weakly", x.thing(1, 3), NONE);
        for (int t : new int[] {-1, 2, 10, 256, 65536, MIN, MAX}) {
            for (int what = -1; what <= 4; what++) {
                due("no thing " + t, x.thing(t, what), BAD);
            }
        }
        for (int what : new int[] {-1, 4, 256, 65536, MIN, MAX}) {
            due("thing, nothing to be asked: " + what, x.thing(1, what), BAD);
        }
    }

    /** Promise 7, BAD */
    private static void whatOneMayAskOfPersons() {
        RibbonOfLacks x = laid("t9,0;t9,0;p1,9;p0,1;b9;");
        due("thing", x.person(0, 0), 1);
        due("W", x.person(0, 1), 9);
        due("misses nothing", x.person(0, 2), 0);
        x.bind(0, 2);
        due("misses it now", x.person(0, 2), 1);
        due("the other one does not", x.person(1, 2), 0);
        for (int i : new int[] {-1, 2, 8, 256, 65536, MIN, MAX}) {
            for (int what = -1; what <= 3; what++) {
                due("no person " + i, x.person(i, what), BAD);
            }
        }
        for (int what : new int[] {-1, 3, 256, 65536, MIN, MAX}) {
            due("person, nothing to be asked: " + what, x.person(1, what), BAD);
        }
        due("nobody at all", laid("t1,0;b1;").person(0, 0), BAD);
    }

    /** Promise 8, BAD */
    private static void whatOneMayAskOfBeasts() {
        RibbonOfLacks x = laid("t9,0;t9,0;b8;b9;");
        due("pull", x.beast(1, 0), 9);
        due("loose", x.beast(1, 1), 0);
        due("loose, no age", x.beast(1, 2), NONE);
        due("loose, never escaped", x.beast(1, 3), 0);
        x.bind(1, 2);
        due("ribbon", x.beast(1, 1), 2);
        due("age on the day of binding", x.beast(1, 2), 0);
        x.days(1);
        due("age a day later", x.beast(1, 2), 1);
        due("the other is loose", x.beast(0, 2), NONE);
        for (int b : new int[] {-1, 2, 4, 256, 65536, MIN, MAX}) {
            for (int what = -1; what <= 4; what++) {
                due("no beast " + b, x.beast(b, what), BAD);
            }
        }
        for (int what : new int[] {-1, 4, 256, 65536, MIN, MAX}) {
            due("beast, nothing to be asked: " + what, x.beast(1, what), BAD);
        }
    }

    /** "of THINGS that are there" */
    private static void boundWithThingsThatAreThere() {
        RibbonOfLacks x = laid("t9,0;t9,0;t9,0;t9,0;y1,0;b9;b9;b18;");
        due("bind", x.bind(0, 1), 9);
        due("what is in a ribbon", x.bind(1, 1), NO);
        due("what follows it", x.bind(1, 2), NO);
        due("what is in a ribbon, with enough others", x.bind(2, 13), NO);
        due("what follows, with enough others", x.bind(2, 14), NO);
        due("what is there", x.bind(2, 12), 18);
        due("nothing is there", x.bind(1, 4), NO);
        RibbonOfLacks y = laid("t9,0;t9,0;y1,0;b18;");
        due("a thing and what needs it", y.bind(0, 3), 18);
        RibbonOfLacks z = laid("t9,0;t9,0;y1,0;b9;b9;");
        due("what needs another", z.bind(0, 2), 9);
        due("what it needs is there", z.bind(1, 1), 9);
    }

    /** "A BEAST is BOUND that is not" */
    private static void boundOnce() {
        RibbonOfLacks x = laid("t9,0;t9,0;b9;");
        due("bind", x.bind(0, 1), 9);
        due("bound already", x.bind(0, 2), NO);
        due("bound already with it", x.bind(0, 1), NO);
        due("bound already, wrong set", x.bind(0, 4), BAD);
        due("its ribbon stays", x.beast(0, 1), 1);
        due("one binding", x.count(6), 1);
        x.loosen(0);
        due("loose, bound again", x.bind(0, 2), 9);
    }

    private static void beastsThatAre() {
        RibbonOfLacks x = laid("t9,0;b9;b9;");
        for (int b : new int[] {-1, 2, 4, 256, 65536, MIN, MAX}) {
            due("bind no beast", x.bind(b, 1), BAD);
            due("bind no beast with no set", x.bind(b, 2), BAD);
            due("loosen no beast", x.loosen(b), BAD);
        }
        due("nothing happened", x.count(6), 0);
        due("the last beast is one", x.bind(1, 1), 9);
    }

    /** "it is LOOSENED: all that is in its RIBBON is there again" */
    private static void loosened() {
        RibbonOfLacks x = laid("t3,0;t3,0;t3,2;t3,3;b12;b3;p0,1;p3,2;");
        due("loosen a loose one", x.loosen(0), NO);
        due("nothing to be undone", x.count(6), 0);
        x.bind(0, 15);
        due("of four", x.loosen(0), 4);
        for (int t = 0; t < 4; t++) {
            due("there again", x.thing(t, 2), 1);
        }
        due("no ribbon", x.beast(0, 1), 0);
        due("no age", x.beast(0, 2), NONE);
        due("loosened is not escaped", x.beast(0, 3), 0);
        due("loosened once", x.loosen(0), NO);
        x.bind(1, 1);
        due("of one", x.loosen(1), 1);
        x.bind(0, 15);
        x.days(2);
        due("on the second day, the lent one too", x.loosen(0), 4);
        RibbonOfLacks y = laid("t9,0;t9,2;b9;");
        y.bind(0, 3);
        y.days(3);
        due("on the third day, without the lent one", y.loosen(0), 1);
    }

    /** "(but what FOLLOWS else)" */
    private static void loosenedButWhatFollowsElse() {
        RibbonOfLacks x = laid("t9,0;t9,0;t9,0;y1,0;b9;b9;");
        x.bind(1, 2);
        x.bind(0, 1);
        due("the second loosened", x.loosen(1), 1);
        due("it follows else", x.thing(1, 2), 0);
        due("so it can not be used", x.bind(1, 2), NO);
        due("the first loosened", x.loosen(0), 1);
        due("it is there", x.thing(1, 2), 1);
        due("so it can be used", x.bind(1, 2), 9);
    }

    /** "LENT THINGS in a RIBBON that is three days old (the third DAY since then is this one) come out of it" */
    private static void theThirdDay() {
        RibbonOfLacks x = laid("t5,0;t5,2;b5;");
        x.bind(0, 3);
        int[] ribbons = {3, 3, 3, 1, 1, 1};
        for (int day = 0; day < ribbons.length; day++) {
            due("ribbon, day " + day, x.beast(0, 1), ribbons[day]);
            due("age, day " + day, x.beast(0, 2), day);
            due("lent one there, day " + day, x.thing(1, 2), day < 3 ? 0 : 1);
            due("lent one in a ribbon, day " + day, x.thing(1, 3), day < 3 ? 0 : NONE);
            due("nobody escapes, day " + day, x.days(1), 0);
        }
        RibbonOfLacks two = laid("t5,2;b5;");
        two.bind(0, 1);
        due("two days at once", two.days(2), 0);
        due("still bound", two.beast(0, 1), 1);
        due("the third", two.days(1), 1);
        RibbonOfLacks three = laid("t5,2;b5;");
        three.bind(0, 1);
        due("three days at once", three.days(3), 1);
        RibbonOfLacks later = laid("t5,2;b5;");
        later.days(3);
        later.bind(0, 1);
        due("the days ahead do not count", later.days(2), 0);
        due("only those since then", later.days(1), 1);
    }

    private static void eachRibbonItsOwnDays() {
        RibbonOfLacks x = laid("t5,2;t5,2;b5;b5;");
        x.bind(1, 2);
        x.days(1);
        x.bind(0, 1);
        due("the second day of the first", x.days(1), 0);
        due("the third day of the first", x.days(1), 1);
        due("it is the beast 1", x.beast(1, 3), 1);
        due("the other is bound", x.beast(0, 2), 2);
        due("the third day of the other", x.days(1), 1);
        x.bind(0, 1);
        x.days(2);
        x.loosen(0);
        x.bind(0, 1);
        due("bound anew, two more days", x.days(2), 0);
        due("the third one", x.days(1), 1);
    }

    /** "if what is left does not HOLD, the BEAST is loose" */
    private static void whatIsLeftJustHolds() {
        RibbonOfLacks x = laid("t9,2;t5,0;b5;");
        x.bind(0, 3);
        due("what is left just holds", x.days(3), 0);
        due("bound with it", x.beast(0, 1), 2);
        due("goes on", x.days(37), 0);
        due("its age goes on", x.beast(0, 2), 40);
        RibbonOfLacks weak = laid("t9,2;t5,0;b6;");
        weak.bind(0, 3);
        due("what is left is weaker by one", weak.days(3), 1);
        due("loose", weak.beast(0, 1), 0);
        RibbonOfLacks late = laid("t9,2;t5,3;b5;");
        late.bind(0, 3);
        due("a late one that is left holds", late.days(3), 0);
        RibbonOfLacks none = laid("t9,2;t9,2;b1;");
        none.bind(0, 3);
        due("nothing is left", none.days(3), 1);
        RibbonOfLacks without = laid("t5,0;t5,1;t5,3;b15;");
        without.bind(0, 7);
        due("nothing lent in it", without.days(40), 0);
        due("all of it is left", without.beast(0, 1), 7);
    }

    private static void soundsThatAreLeft() {
        RibbonOfLacks x = laid("t1,2;t4,1;t4,1;b16;");
        x.bind(0, 7);
        due("two sounds that are left count twice", x.days(3), 0);
        RibbonOfLacks y = laid("t1,2;t4,1;t4,1;b17;");
        y.bind(0, 7);
        due("but no more", y.days(3), 1);
        RibbonOfLacks z = laid("t9,2;t4,1;b5;");
        z.bind(0, 3);
        due("a sound that is left alone counts once", z.days(3), 1);
    }

    private static void whatComesOutIsThereAgain() {
        RibbonOfLacks x = laid("t5,2;t5,0;t1,0;y2,0;p2,3;p0,1;b5;b5;");
        x.bind(0, 3);
        x.days(2);
        due("missed on the second day", x.missed(), 4);
        due("not there on the second day", x.bind(1, 1), NO);
        x.days(1);
        due("missed no more", x.missed(), 0);
        due("what needs it is there", x.thing(2, 2), 1);
        due("bound with it", x.bind(1, 1), 5);
        due("its own three days: two", x.days(2), 0);
        due("its own three days: three", x.days(1), 1);
        RibbonOfLacks needing = laid("t5,2;t5,0;y0,1;b5;");
        needing.bind(0, 3);
        needing.days(3);
        due("out of the ribbon", needing.beast(0, 1), 2);
        due("but it follows what is left", needing.thing(0, 2), 0);
    }

    /** "the BEAST is loose, the RIBBON is no more, and it is ESCAPED once more" */
    private static void anEscapedBeast() {
        RibbonOfLacks x = laid("t5,2;t1,0;p1,7;p0,2;b6;b1;");
        for (int times = 1; times <= 3; times++) {
            x.bind(0, 3);
            x.days(2);
            due("not yet", x.beast(0, 3), times - 1);
            due("escaped", x.days(1), 1);
            due("once more", x.beast(0, 3), times);
            due("no ribbon", x.beast(0, 1), 0);
            due("no age", x.beast(0, 2), NONE);
            due("all there", x.thing(0, 2) + x.thing(1, 2), 2);
            due("nothing missed", x.missed(), 0);
            due("the other never did", x.beast(1, 3), 0);
            due("nobody escapes who is loose", x.days(3), 0);
        }
    }

    /** "how many ESCAPED in them" */
    private static void escapesOfOneCall() {
        RibbonOfLacks x = laid("t5,2;t5,2;t5,2;t5,2;b5;b5;b5;b5;");
        for (int b = 0; b < 4; b++) {
            x.bind(b, 1 << b);
        }
        due("two days, none", x.days(2), 0);
        due("the third day, all four", x.days(1), 4);
        due("no more of them", x.days(1), 0);
        for (int b = 0; b < 4; b++) {
            due("each once", x.beast(b, 3), 1);
        }
        x.bind(0, 1);
        x.days(1);
        x.bind(1, 2);
        due("those of several days together", x.days(40), 2);
        due("only those of this call", x.days(40), 0);
    }

    /** "n DAYS (1 to 40)" */
    private static void oneToFortyDays() {
        RibbonOfLacks x = new RibbonOfLacks();
        for (int n : new int[] {0, 41, -1, 256 + 1, 65536 + 1, MIN, MIN + 1, MAX}) {
            due("days " + n, x.days(n), BAD);
        }
        due("no day gone by", x.count(5), 0);
        due("nothing to be undone", x.count(6), 0);
        due("one", x.days(1), 0);
        due("one gone by", x.count(5), 1);
        due("forty", x.days(40), 0);
        due("forty more", x.count(5), 41);
    }

    /** "NO: it would be above 999" */
    private static void nineHundredNinetyNineDays() {
        RibbonOfLacks x = laid("t5,0;b5;");
        for (int i = 0; i < 24; i++) {
            due("forty days", x.days(40), 0);
        }
        x.bind(0, 1);
        due("960 gone by", x.count(5), 960);
        due("40 would be 1000", x.days(40), NO);
        due("no day went by", x.count(5), 960);
        due("nothing more to be undone", x.count(6), 8);
        due("no older", x.beast(0, 2), 0);
        due("38 more", x.days(38), 0);
        due("two would be 1000", x.days(2), NO);
        due("41 are none", x.days(41), BAD);
        due("one is 999", x.days(1), 0);
        due("999 gone by", x.count(5), 999);
        due("one more would be 1000", x.days(1), NO);
        due("none is none", x.days(0), BAD);
        due("one undone", x.undo(), 7);
        due("one once more", x.days(1), 0);
        due("as old as that", x.beast(0, 2), 39);
        RibbonOfLacks y = laid("t5,0;b5;");
        for (int i = 0; i < 24; i++) {
            y.days(40);
        }
        due("39 at once", y.days(39), 0);
        due("999 at once", y.count(5), 999);
        RibbonOfLacks z = laid("t5,3;p0,1;b5;");
        z.bind(0, 1);
        for (int i = 0; i < 27; i++) {
            due("37 days", z.days(37), 0);
        }
        due("a ribbon 999 days old", z.beast(0, 2), 999);
        due("still missed", z.missed(), 1);
    }

    /** "An object is used for at most 512 calls" */
    private static void fiveHundredTwelveCalls() {
        RibbonOfLacks x = new RibbonOfLacks();
        for (int round = 0; round < 128; round++) {
            due("bind", x.bind(0, 10), 13);
            due("missed", x.missed(), 1);
            due("loosen", x.loosen(0), 2);
            due("that can be undone", x.count(6), Math.min(8, 2 * round + 2));
        }
    }

    /** "LATE THINGS in a RIBBON that is less than two days old" */
    private static void lessThanTwoDaysOld() {
        RibbonOfLacks x = laid("t5,3;t5,0;p0,4;p1,1;b10;");
        x.bind(0, 3);
        int[] missed = {1, 1, 5, 5, 5};
        for (int day = 0; day < missed.length; day++) {
            due("missed, day " + day, x.missed(), missed[day]);
            due("who misses the late one, day " + day, x.person(0, 2), day < 2 ? 0 : 1);
            due("who misses the other, day " + day, x.person(1, 2), 1);
            due("not there, missed or not", x.thing(0, 2), 0);
            x.days(1);
        }
        x.loosen(0);
        due("loosened", x.missed(), 0);
        x.bind(0, 3);
        due("bound anew", x.missed(), 1);
        x.undo();
        x.undo();
        due("undone, as old as then", x.missed(), 5);
    }

    private static void lateOnesOfTwoRibbons() {
        RibbonOfLacks x = laid("t5,3;t5,3;p0,4;p1,1;b5;b5;");
        x.bind(1, 1);
        x.days(1);
        x.bind(0, 2);
        due("one day and none", x.missed(), 0);
        x.days(1);
        due("two days and one", x.missed(), 4);
        x.days(1);
        due("three days and two", x.missed(), 5);
        x.loosen(1);
        due("only the younger", x.missed(), 1);
    }

    private static void whatFollowsLateOnes() {
        RibbonOfLacks x = laid("t5,3;t1,0;t5,0;y1,0;p1,4;p0,2;b5;b5;");
        x.bind(0, 1);
        due("what needs it is not there", x.thing(1, 2), 0);
        due("and not missed yet", x.missed(), 0);
        x.days(2);
        due("but two days later", x.missed(), 6);
        RibbonOfLacks y = laid("t5,3;t5,0;y0,1;p0,4;b5;b5;");
        y.bind(0, 1);
        y.bind(1, 2);
        due("a late one that follows what is found", y.missed(), 4);
        y.undo();
        due("not found without that", y.missed(), 0);
    }

    /** "for all PERSONS whose THING FOLLOWS what is FOUND, their W together" */
    private static void allPersonsTogether() {
        RibbonOfLacks x = laid("t5,0;t5,0;p0,9;p0,9;p0,9;p0,9;p0,9;p0,9;p0,9;p1,9;b5;b5;");
        due("nothing missed", x.missed(), 0);
        x.bind(0, 1);
        due("seven of the same", x.missed(), 63);
        x.bind(1, 2);
        due("all eight", x.missed(), 72);
        due("nobody to miss", laid("t5,0;b5;").missed(), 0);
    }

    /** "the last 8 can be" */
    private static void theLastEightAreUndone() {
        for (int calls = 0; calls <= 11; calls++) {
            RibbonOfLacks x = laid("t5,0;b5;");
            for (int i = 0; i < calls; i++) {
                due("day", x.days(1), 0);
                due("that can be undone", x.count(6), Math.min(8, i + 1));
            }
            int can = Math.min(8, calls);
            for (int left = can - 1; left >= 0; left--) {
                due("undo", x.undo(), left);
                due("that can be then", x.count(6), left);
                due("days then", x.count(5), calls - can + left);
            }
            due("no more", x.undo(), NO);
            due("and nothing became another", x.count(5), calls - can);
        }
        RibbonOfLacks y = laid("t5,0;b5;");
        y.bind(0, 1);
        for (int i = 0; i < 8; i++) {
            y.days(1);
        }
        for (int i = 0; i < 9; i++) {
            y.undo();
        }
        due("the ninth last stays", y.beast(0, 1), 1);
        due("as on the day it came", y.beast(0, 2), 0);
    }

    /** "all of one call at once" */
    private static void allOfOneCallAtOnce() {
        RibbonOfLacks x = laid("t5,2;t1,3;p1,3;b5;");
        x.bind(0, 3);
        due("forty days", x.days(40), 1);
        due("one call", x.count(6), 2);
        due("undone at once", x.undo(), 1);
        due("no day gone by", x.count(5), 0);
        due("bound", x.beast(0, 1), 3);
        due("not a day old", x.beast(0, 2), 0);
        due("not escaped", x.beast(0, 3), 0);
        due("missed as then", x.missed(), 0);
        due("the same days again", x.days(40), 1);
    }

    /** "the latest BINDING, LOOSENING or DAYS" */
    private static void whatIsUndone() {
        RibbonOfLacks x = laid("t5,0;t5,0;b5;b5;");
        x.bind(0, 1);
        x.days(7);
        x.bind(1, 2);
        x.loosen(0);
        due("the loosening", x.undo(), 3);
        due("bound again", x.beast(0, 1), 1);
        due("as old as then", x.beast(0, 2), 7);
        due("the binding", x.undo(), 2);
        due("loose again", x.beast(1, 1), 0);
        due("the days", x.undo(), 1);
        due("not a day old", x.beast(0, 2), 0);
        due("and another call instead", x.loosen(0), 1);
        due("two again", x.count(6), 2);
        due("the other call", x.undo(), 1);
        due("the first one", x.undo(), 0);
        due("nothing gone", x.thing(0, 2), 1);
        due("no more", x.undo(), NO);
    }

    /** "such by which nothing becomes another, too" */
    private static void evenWhatChangesNothing() {
        RibbonOfLacks x = laid("t5,0;b5;");
        x.days(1);
        x.days(1);
        x.bind(0, 1);
        x.loosen(0);
        due("each of them", x.count(6), 4);
        due("undone one by one", x.undo(), 3);
        due("bound in between", x.beast(0, 1), 1);
        due("undone one by one", x.undo(), 2);
        due("undone one by one", x.undo(), 1);
        due("a day of nobody bound", x.count(5), 1);
    }

    private static void whatCanNotBeUndone() {
        RibbonOfLacks x = laid("t5,0;t5,0;b5;b90;");
        due("nothing yet", x.undo(), NO);
        x.bind(0, 1);
        x.bind(0, 2);
        x.bind(1, 2);
        x.bind(1, 8);
        x.bind(2, 2);
        x.loosen(1);
        x.loosen(2);
        x.days(0);
        x.days(41);
        x.keep();
        x.row(3, 9, 0);
        x.cost(3);
        x.least(0, 0);
        x.all(-1);
        x.write('t');
        x.wipe();
        x.lay();
        due("only the binding", x.count(6), 1);
        due("undone", x.undo(), 0);
        due("loose", x.beast(0, 1), 0);
        due("kept all the same", x.count(7), 1);
    }
}
