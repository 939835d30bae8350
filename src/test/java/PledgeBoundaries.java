import java.math.BigInteger;

/**
 * The boundaries that part 4 of the document's terms names, a test for each: by who misses something,
 * false ones by trial, pledges, gains, rows of days, what is kept. Promises 22 to 29.
 */
public final class PledgeBoundaries {
    private static final int BAD = -1, NO = -2, FULL = -3, NONE = -4;
    private static final int MIN = Integer.MIN_VALUE, MAX = Integer.MAX_VALUE;
    private static final String THREE = "t1,0;t1,0;t1,0;b1;";

    private static int wrong = 0;

    private static void due(String what, long got, long want) {
        if (got != want) {
            wrong++;
            System.out.println(what + " answered " + got + ", due is " + want);
        }
    }

    private static RibbonOfLacks laid(String text) {
        RibbonOfLacks x = new RibbonOfLacks();
        for (int i = 0; i < text.length(); i++) {
            x.write(text.charAt(i));
        }
        due("no fault in " + text, x.fault(), NONE);
        due("lay of " + text, Math.min(1, x.lay()), 1);
        return x;
    }

    public static void main(String[] args) {
        justThosePersons();
        ribbonsOfNothing();
        thingsInAllOfThese();
        noRibbonOfThat();
        nothingElseBeingGone();
        pullsOfWhatIsMissing();
        bitsOfPersons();
        whatOneMayAskOfMissing();
        chancesOfNoTrial();
        chancesOfNoneAndAllOfTen();
        chancesOfSixTrials();
        chancesThatCanNotBe();
        chancesInLowestTerms();
        chancesThatMayBeAsked();
        pledgesOfNobody();
        aPledgeThatRests();
        noPledgeThatRests();
        theLastOfAllPledges();
        whatOneMayAskOfPledges();
        noGain();
        moreThanAsMuch();
        fewestExchanges();
        firstExchanges();
        whatComesBack();
        notSoMany();
        exchangesThatMayBeAsked();
        rowsOfOneDay();
        rowsLikeDaysThatGoBy();
        rowsThatMayBeAsked();
        rowsChangeNothing();
        twoKept();
        restoredAsKept();
        nothingUndoneWhenRestored();
        keptIsNotUndone();
        countsThatMayBeAsked();
        System.out.println(wrong == 0 ? "all boundaries of pledges hold" : wrong + " answers are not as due");
        if (wrong != 0) {
            System.exit(1);
        }
    }

    /** How many, the lowest, the things in all of these. */
    private static void missingIs(RibbonOfLacks x, int persons, int p, int many, int lowest, int inAll) {
        String call = "missing " + persons + " " + p;
        due(call + " how many", x.missing(persons, p, 0), many);
        due(call + " the lowest", x.missing(persons, p, 1), lowest);
        due(call + " in all", x.missing(persons, p, 2), inAll);
    }

    /** "such that just those PERSONS miss something" */
    private static void justThosePersons() {
        RibbonOfLacks x = laid("t5,0;t5,0;t5,0;p0,1;p1,2;y1,0;b1;");
        missingIs(x, 1, 0, 0, NONE, NONE);
        missingIs(x, 2, 0, 2, 2, 2);
        missingIs(x, 3, 0, 4, 1, 1);
        missingIs(x, 3, 10, 3, 3, 1);
        missingIs(x, 0, 1, 1, 4, 4);
        RibbonOfLacks same = laid("t5,0;t5,0;p0,1;p0,9;b1;");
        missingIs(same, 1, 0, 0, NONE, NONE);
        missingIs(same, 3, 0, 2, 1, 1);
        RibbonOfLacks late = laid("t5,3;t5,2;p0,1;p1,1;b1;");
        missingIs(late, 1, 0, 1, 1, 1);
        missingIs(late, 3, 0, 1, 3, 3);
    }

    /** "of any THINGS (none, too)" */
    private static void ribbonsOfNothing() {
        RibbonOfLacks x = laid("t5,0;t0,0;p0,1;b1;");
        missingIs(x, 0, 0, 2, 0, 0);
        missingIs(x, 0, 1, 0, NONE, NONE);
        RibbonOfLacks nobody = laid("t5,0;t0,0;b1;");
        missingIs(nobody, 0, 0, 4, 0, 0);
        missingIs(nobody, 0, 1, 2, 1, 1);
        RibbonOfLacks all = laid("t5,0;p0,1;b1;");
        missingIs(all, 0, 0, 1, 0, 0);
        missingIs(all, 1, 0, 1, 1, 1);
    }

    /** "the THINGS that are in all of these" */
    private static void thingsInAllOfThese() {
        RibbonOfLacks x = laid("t4,0;t4,0;t4,0;t4,0;p3,1;b1;");
        missingIs(x, 1, 4, 8, 8, 8);
        missingIs(x, 1, 8, 7, 9, 8);
        missingIs(x, 1, 16, 1, 15, 15);
        missingIs(x, 0, 4, 7, 1, 0);
        missingIs(x, 0, 12, 1, 7, 7);
        RibbonOfLacks ten = laid("t9,0;".repeat(10) + "p9,1;b1;");
        missingIs(ten, 1, 90, 1, 1023, 1023);
        missingIs(ten, 1, 81, 10, 767, 512);
        missingIs(ten, 0, 81, 1, 511, 511);
        missingIs(ten, 0, 0, 512, 0, 0);
    }

    private static void noRibbonOfThat() {
        RibbonOfLacks x = laid("t5,0;t5,0;p0,1;b1;");
        missingIs(x, 1, 10, 1, 3, 3);
        missingIs(x, 1, 11, 0, NONE, NONE);
        due("none, nothing to be asked", x.missing(1, 11, 3), BAD);
        due("none, no persons", x.missing(2, 11, 1), BAD);
    }

    /** "nothing else being GONE" */
    private static void nothingElseBeingGone() {
        RibbonOfLacks x = laid("t5,0;t5,0;p0,1;p1,1;b5;b5;");
        missingIs(x, 2, 5, 1, 2, 2);
        x.bind(0, 1);
        missingIs(x, 2, 5, 1, 2, 2);
        missingIs(x, 1, 5, 1, 1, 1);
        missingIs(x, 0, 0, 1, 0, 0);
    }

    /** "a PULL p (0 to 90)" */
    private static void pullsOfWhatIsMissing() {
        RibbonOfLacks x = laid("t20,1;t20,1;t10,0;b1;");
        missingIs(x, 0, 0, 8, 0, 0);
        missingIs(x, 0, 1, 7, 1, 0);
        missingIs(x, 0, 80, 2, 3, 3);
        missingIs(x, 0, 81, 1, 7, 7);
        missingIs(x, 0, 90, 1, 7, 7);
        missingIs(laid("t20,1;t20,1;t9,0;b1;"), 0, 90, 0, NONE, NONE);
        for (int p : new int[] {-1, 91, 256, 65536, MIN, MAX}) {
            for (int what = -1; what <= 3; what++) {
                due("missing by no pull " + p, x.missing(0, p, what), BAD);
            }
        }
    }

    /** "bits of PERSONS": "such as there are; sets .. 0, too" */
    private static void bitsOfPersons() {
        for (int n = 0; n <= 8; n++) {
            RibbonOfLacks x = laid("t5,0;b1;" + "p0,1;".repeat(n));
            missingIs(x, (1 << n) - 1, 5, 1, 1, 1);
            for (int persons : new int[] {-1, 1 << n, (1 << n) + 1, 1 << 16, MIN, MAX}) {
                for (int what = -1; what <= 3; what++) {
                    due("missing to no persons " + persons, x.missing(persons, 0, what), BAD);
                }
            }
        }
    }

    private static void whatOneMayAskOfMissing() {
        RibbonOfLacks x = laid("t5,0;p0,1;b1;");
        for (int what : new int[] {-1, 3, 256, 65536, MIN, MAX}) {
            due("missing, nothing to be asked: " + what, x.missing(1, 0, what), BAD);
        }
    }

    private static void chanceIs(int a, int f, int n, long above, long below) {
        RibbonOfLacks x = new RibbonOfLacks();
        String call = "trial " + a + " " + f + " " + n;
        due(call + " above", x.trial(a, f, n, 0), above);
        due(call + " below", x.trial(a, f, n, 1), below);
    }

    /** "n trials (0 to 6) having shown nothing": none of them tells nothing. */
    private static void chancesOfNoTrial() {
        int[][] tenths = {{0, 1}, {1, 10}, {1, 5}, {3, 10}, {2, 5}, {1, 2}, {3, 5}, {7, 10}, {4, 5}, {9, 10}, {1, 1}};
        for (int a = 0; a <= 10; a++) {
            for (int f = 0; f <= 10; f++) {
                chanceIs(a, f, 0, tenths[a][0], tenths[a][1]);
            }
        }
    }

    /** "a (0 to 10) of ten .. x (0 to 10) of ten" */
    private static void chancesOfNoneAndAllOfTen() {
        for (int n = 1; n <= 6; n++) {
            chanceIs(10, 0, n, 1, 1);
            chanceIs(10, 10, n, 1, 1);
            chanceIs(10, 5, n, 1, 1);
            chanceIs(0, 0, n, 0, 1);
            chanceIs(0, 9, n, 0, 1);
            chanceIs(1, 10, n, 1, 1);
            chanceIs(9, 10, n, 1, 1);
            chanceIs(1, 0, n, 1, 10);
            chanceIs(9, 0, n, 9, 10);
            chanceIs(5, 0, n, 1, 2);
        }
    }

    private static void chancesOfSixTrials() {
        chanceIs(5, 5, 6, 64, 65);
        chanceIs(5, 5, 5, 32, 33);
        chanceIs(1, 9, 6, 1000000, 1000009);
        chanceIs(1, 9, 5, 100000, 100009);
        chanceIs(3, 7, 6, 1000000, 1001701);
        chanceIs(1, 1, 6, 1000000, 5782969);
        chanceIs(9, 1, 1, 10, 11);
        chanceIs(9, 9, 1, 90, 91);
    }

    /** "none (that can not be)" */
    private static void chancesThatCanNotBe() {
        for (int n = 1; n <= 6; n++) {
            chanceIs(0, 10, n, NONE, NONE);
        }
        RibbonOfLacks x = new RibbonOfLacks();
        due("can not be, nothing to be asked", x.trial(0, 10, 6, 2), BAD);
        due("can not be, nothing to be asked", x.trial(0, 10, 1, -1), BAD);
        due("can not be, too many", x.trial(0, 10, 7, 0), BAD);
    }

    /** "in lowest terms" */
    private static void chancesInLowestTerms() {
        RibbonOfLacks x = new RibbonOfLacks();
        for (int a = 0; a <= 10; a++) {
            for (int f = 0; f <= 10; f++) {
                for (int n = 0; n <= 6; n++) {
                    BigInteger isTrue = BigInteger.TEN.pow(n).multiply(BigInteger.valueOf(a));
                    BigInteger isFalse = BigInteger.valueOf(10 - f).pow(n).multiply(BigInteger.valueOf(10 - a));
                    BigInteger both = isTrue.add(isFalse);
                    if (both.signum() > 0) {
                        BigInteger common = isTrue.gcd(both);
                        chanceIs(a, f, n, isTrue.divide(common).longValueExact(), both.divide(common).longValueExact());
                    } else {
                        due("can not be", x.trial(a, f, n, 0), NONE);
                    }
                }
            }
        }
    }

    private static void chancesThatMayBeAsked() {
        RibbonOfLacks x = new RibbonOfLacks();
        for (int none : new int[] {-1, 11, 256, 65536, MIN, MAX}) {
            due("no a " + none, x.trial(none, 5, 3, 0), BAD);
            due("no x " + none, x.trial(5, none, 3, 0), BAD);
            due("no n " + none, x.trial(5, 5, none, 0), BAD);
            due("no part " + none, x.trial(5, 5, 3, none), BAD);
        }
        due("seven trials", x.trial(5, 5, 7, 0), BAD);
        due("six trials", x.trial(5, 5, 6, 0), 64);
        due("part 2", x.trial(5, 5, 3, 2), BAD);
        due("a long and wrong", x.trial(5, 5, 3, -1), -1L);
    }

    private static void pledgeIs(String persons, int rests, int first) {
        RibbonOfLacks x = laid("t1,0;b1;" + persons);
        due("rests of " + persons, x.pledge(0), rests);
        due("first of " + persons, x.pledge(1), first);
    }

    private static void pledgesOfNobody() {
        pledgeIs("", 0, NONE);
        pledgeIs("p0,1;", 1, 0);
        pledgeIs("p0,9;", 1, 0);
    }

    /** "RESTS: in how many (i, j) neither would do better alone by another one (he loses less, it has more)" */
    private static void aPledgeThatRests() {
        pledgeIs("p0,1;p0,3;", 1, 0);
        pledgeIs("p0,3;p0,1;", 1, 9);
        pledgeIs("p0,1;p0,4;", 1, 0);
        pledgeIs("p0,3;p0,9;p0,9;", 1, 0);
        pledgeIs("p0,9;p0,3;p0,9;", 1, 9);
        pledgeIs("p0,9;p0,9;p0,3;", 1, 18);
    }

    /** "none" */
    private static void noPledgeThatRests() {
        pledgeIs("p0,1;p0,2;", 0, NONE);
        pledgeIs("p0,1;p0,1;", 0, NONE);
        pledgeIs("p0,3;p0,8;", 0, NONE);
        pledgeIs("p0,3;p0,9;p0,8;", 0, NONE);
        pledgeIs("p0,1;p0,9;p0,1;", 0, NONE);
        pledgeIs("p0,5;".repeat(8), 0, NONE);
    }

    /** "as 8 times i and j" */
    private static void theLastOfAllPledges() {
        for (int i = 0; i < 8; i++) {
            pledgeIs("p0,9;".repeat(i) + "p0,3;" + "p0,9;".repeat(7 - i), 1, 9 * i);
        }
        pledgeIs("p0,9;".repeat(7) + "p0,4;", 0, NONE);
    }

    private static void whatOneMayAskOfPledges() {
        RibbonOfLacks x = new RibbonOfLacks();
        RibbonOfLacks rests = laid("t1,0;b1;p0,1;");
        for (int what : new int[] {-1, 2, 256, 65536, MIN, MAX}) {
            due("pledge, nothing to be asked: " + what, x.pledge(what), BAD);
            due("one rests, nothing to be asked: " + what, rests.pledge(what), BAD);
        }
    }

    /** How many, above, below, then the exchanges; or NONE alone. */
    private static void gainIs(String text, int... want) {
        RibbonOfLacks x = laid(text);
        boolean none = want.length == 1;
        due("gain's length in " + text, x.gain(-1), want[0]);
        due("gain above in " + text, x.gain(-2), none ? NONE : want[1]);
        due("gain below in " + text, x.gain(-3), none ? NONE : want[2]);
        for (int k = 0; k <= 5; k++) {
            boolean has = !none && k + 3 < want.length;
            due("gain " + k + " in " + text, x.gain(k), has ? want[k + 3] : NONE);
        }
        due("gain 6 in " + text, x.gain(6), BAD);
        due("gain -4 in " + text, x.gain(-4), BAD);
    }

    /** "none" */
    private static void noGain() {
        gainIs("t1,0;b1;", NONE);
        gainIs(THREE + "x0,1,1,9;", NONE);
        gainIs(THREE + "x0,1,1,9;x1,2,1,9;", NONE);
        gainIs(THREE + "x0,1,1,9;x0,1,1,9;", NONE);
        gainIs(THREE + "x0,1,1,9;x2,1,1,9;x0,2,1,9;", NONE);
    }

    /** "by which more than as much of it comes back" */
    private static void moreThanAsMuch() {
        gainIs(THREE + "x0,1,1,2;x1,0,2,1;", NONE);
        gainIs(THREE + "x0,1,8,9;x1,0,9,8;", NONE);
        gainIs(THREE + "x0,1,8,9;x1,0,8,8;", 2, 9, 8, 0, 1);
        gainIs(THREE + "x0,1,8,9;x1,0,8,7;", NONE);
        gainIs(THREE + "x0,1,7,8;x1,0,8,9;", 2, 9, 7, 0, 1);
        gainIs(THREE + "x0,1,1,2;x1,2,1,2;x2,0,4,1;", NONE);
        gainIs(THREE + "x0,1,1,2;x1,2,1,2;x2,0,3,1;", 3, 4, 3, 0, 1, 2);
    }

    /** "of fewest exchanges" */
    private static void fewestExchanges() {
        gainIs(THREE + "x0,1,1,9;x1,2,1,9;x2,0,1,9;x2,1,9,2;", 2, 2, 1, 1, 3);
        gainIs(THREE + "x0,1,1,9;x1,2,1,9;x2,0,1,9;x2,1,9,1;", 3, 729, 1, 0, 1, 2);
        String six = "t1,0;t1,0;t1,0;t1,0;t1,0;t1,0;b1;";
        gainIs(six + "x5,0,1,9;x0,1,1,9;x1,2,1,9;x2,3,1,9;x3,4,1,9;x4,5,1,9;", 6, 531441, 1, 0, 1, 2, 3, 4, 5);
        gainIs(six + "x0,1,9,1;x1,2,9,1;x2,3,9,1;x3,4,9,1;x4,5,9,1;x5,0,9,1;", NONE);
        gainIs(six + "x0,1,1,1;x1,2,1,1;x2,3,1,1;x3,4,1,1;x4,5,1,1;x5,0,1,1;", NONE);
        gainIs(six + "x0,1,1,1;x1,2,1,1;x2,3,1,1;x3,4,1,1;x4,5,1,1;x5,0,8,9;", 6, 9, 8, 0, 1, 2, 3, 4, 5);
        gainIs(six + "x0,1,1,1;x1,2,1,1;x2,3,1,1;x3,4,1,1;x4,0,1,2;x4,5,1,9;", 5, 2, 1, 0, 1, 2, 3, 4);
        gainIs(six + "x3,0,1,2;x0,1,1,1;x4,5,1,9;x1,2,1,1;x2,3,1,1;x5,3,1,9;", 4, 2, 1, 0, 1, 3, 4);
    }

    /** "of several the first (by the first exchange, then the second, ..)" */
    private static void firstExchanges() {
        gainIs(THREE + "x1,0,1,2;x0,1,1,1;", 2, 2, 1, 0, 1);
        gainIs(THREE + "x0,1,1,2;x1,0,3,1;x0,2,1,2;x2,0,3,1;x0,2,1,9;", 2, 3, 1, 3, 4);
        gainIs(THREE + "x0,1,1,2;x0,1,1,3;x1,0,1,1;", 2, 2, 1, 0, 2);
        gainIs(THREE + "x1,0,1,2;x0,1,1,1;x0,1,1,9;", 2, 2, 1, 0, 1);
        gainIs(THREE + "x2,0,1,2;x1,2,1,2;x0,1,1,2;", 3, 8, 1, 0, 2, 1);
        gainIs(THREE + "x0,1,1,1;x1,2,1,1;x1,2,1,2;x2,0,1,1;", 3, 2, 1, 0, 2, 3);
        gainIs(THREE + "x0,2,1,1;x2,0,1,1;x0,1,1,1;x1,0,1,2;", 2, 2, 1, 2, 3);
    }

    /** "what comes back for 1, in lowest terms" */
    private static void whatComesBack() {
        gainIs(THREE + "x0,1,2,4;x1,0,3,6;", 2, 4, 1, 0, 1);
        gainIs(THREE + "x0,1,6,9;x1,0,4,4;", 2, 3, 2, 0, 1);
        gainIs(THREE + "x0,1,5,7;x1,0,9,8;", 2, 56, 45, 0, 1);
        gainIs(THREE + "x0,1,9,9;x1,0,8,9;", 2, 9, 8, 0, 1);
    }

    /** "NONE (also not so many)" */
    private static void notSoMany() {
        RibbonOfLacks x = laid(THREE + "x0,1,1,2;x1,0,1,2;x0,1,1,2;x1,0,1,2;x0,1,1,2;x1,0,1,2;");
        due("two of six", x.gain(-1), 2);
        due("the first", x.gain(0), 0);
        due("the second", x.gain(1), 1);
        for (int k = 2; k <= 5; k++) {
            due("not so many: " + k, x.gain(k), NONE);
        }
    }

    /** "BAD (k -3 to 5)" */
    private static void exchangesThatMayBeAsked() {
        RibbonOfLacks x = laid(THREE + "x0,1,1,2;x1,0,1,2;");
        RibbonOfLacks none = laid(THREE);
        for (int k : new int[] {-4, 6, 256, 65536, MIN, MAX}) {
            due("no exchange " + k, x.gain(k), BAD);
            due("no gain, no exchange " + k, none.gain(k), BAD);
        }
        for (int k = -3; k <= 5; k++) {
            due("no gain " + k, none.gain(k), NONE);
        }
    }

    private static int draw(int z, int k) {
        BigInteger x = BigInteger.valueOf(7919L * z + 6151L * k + 1);
        return x.multiply(x).mod(BigInteger.valueOf(65521)).intValueExact();
    }

    /** Each beast's least ribbon is missed by another sum: so one sees who was bound. */
    private static void rowsOfOneDay() {
        RibbonOfLacks x = laid("t1,0;t2,0;t3,0;t4,0;p0,1;p1,2;p2,4;p3,8;b1;b2;b3;b4;");
        int[] costs = {1, 2, 3, 5};
        for (int b = 0; b < 4; b++) {
            due("least cost of " + b, x.least(b, 1), costs[b]);
        }
        for (int z = 0; z <= 9999; z += z < 9900 ? 33 : 1) {
            due("row of one day " + z, x.row(z, 1, 0), costs[draw(z, 0) % 4]);
            due("row of one day, escaped " + z, x.row(z, 1, 1), 0);
        }
    }

    /** What a row tells is what would be, were its bindings, loosenings and days done. */
    private static void rowsLikeDaysThatGoBy() {
        String[] texts = {
            "t5,1;t4,1;t6,0;t9,2;t7,3;y2,0;y4,2;p0,3;p2,5;p3,1;p4,2;b12;b16;",
            "t5,2;t5,2;t5,3;t5,0;t2,1;t2,1;p0,1;p1,2;p2,4;p3,8;p4,9;b5;b9;b13;",
            "t20,2;p0,7;b20;", "t1,0;p0,1;b2;", "t3,3;t3,2;t3,2;t3,2;p0,1;p1,2;p2,3;p3,4;b3;b3;b3;b3;"};
        for (String text : texts) {
            for (int before = 0; before <= 4; before++) {
                for (int z : new int[] {0, 1, 2, 77, 4999, 9998, 9999}) {
                    rowIsLikeDays(text, before, z);
                }
            }
        }
    }

    /** "from now on": now being some days after all were bound with lent ones, some of whom escaped. */
    private static void rowIsLikeDays(String text, int before, int z) {
        RibbonOfLacks x = someDaysLater(text, before);
        RibbonOfLacks y = someDaysLater(text, before);
        int escaped = 0;
        for (int day = 0; day < 40; day++) {
            act(y, draw(z, day));
            escaped += y.days(1);
            String call = "row " + z + " of " + (day + 1) + ", " + before + " days later in " + text;
            due(call + ", missed", x.row(z, day + 1, 0), y.missed());
            due(call + ", escaped", x.row(z, day + 1, 1), escaped);
        }
    }

    private static RibbonOfLacks someDaysLater(String text, int days) {
        RibbonOfLacks x = laid(text);
        if (days > 0) {
            for (int b = 0; b < x.count(3); b++) {
                x.bind(b, x.least(b, 0));
            }
            x.days(days);
        }
        return x;
    }

    private static void act(RibbonOfLacks y, int drawn) {
        int b = drawn % y.count(3);
        if (y.beast(b, 1) == 0) {
            y.bind(b, y.least(b, 0));
        } else if (drawn / 8 % 4 == 0) {
            y.loosen(b);
        }
    }

    /** "z (0 to 9999) of n (1 to 40) days" */
    private static void rowsThatMayBeAsked() {
        RibbonOfLacks x = new RibbonOfLacks();
        for (int z : new int[] {-1, 10000, 65536, MIN, MAX}) {
            due("no row " + z, x.row(z, 1, 0), BAD);
        }
        for (int n : new int[] {0, 41, -1, 256 + 1, 65536 + 1, MIN, MAX}) {
            due("no days " + n, x.row(0, n, 0), BAD);
        }
        for (int what : new int[] {-1, 2, 256, 65536, MIN, MAX}) {
            due("row, nothing to be asked: " + what, x.row(0, 1, what), BAD);
        }
        due("z 0, one day", x.row(0, 1, 0), 1);
        due("z 9999, one day", x.row(9999, 1, 0), 1);
        due("z 0, forty days", Math.min(0, x.row(0, 40, 0)), 0);
        due("z 9999, forty days", x.row(9999, 40, 1), 5);
    }

    private static void rowsChangeNothing() {
        RibbonOfLacks x = new RibbonOfLacks();
        x.bind(0, 20);
        x.days(1);
        x.keep();
        int first = x.row(5, 40, 0);
        int escaped = x.row(5, 40, 1);
        due("the same once more", x.row(5, 40, 0), first);
        due("the same once more, escaped", x.row(5, 40, 1), escaped);
        due("days gone by", x.count(5), 1);
        due("that can be undone", x.count(6), 2);
        due("kept", x.count(7), 1);
        due("bound", x.beast(0, 1), 20);
        due("as old", x.beast(0, 2), 1);
        due("escaped", x.beast(0, 3) + x.beast(1, 3), 0);
        for (int i = 0; i < 24; i++) {
            x.days(40);
        }
        x.days(38);
        due("999 days", x.count(5), 999);
        due("rows go on from there", Math.min(0, x.row(0, 40, 0)), 0);
    }

    /** "2 at most" */
    private static void twoKept() {
        RibbonOfLacks x = new RibbonOfLacks();
        due("none kept", x.restore(), NO);
        due("one", x.keep(), 1);
        due("two", x.keep(), 2);
        due("no third", x.keep(), FULL);
        due("two kept", x.count(7), 2);
        due("one restored", x.restore(), 1);
        due("room again", x.keep(), 2);
        due("and no more", x.keep(), FULL);
        due("one restored", x.restore(), 1);
        due("the other", x.restore(), 0);
        due("none is left", x.restore(), NO);
        due("none kept", x.count(7), 0);
    }

    /** "As KEPT last (it is KEPT no more then)": "RIBBONS, days, ESCAPES" */
    private static void restoredAsKept() {
        RibbonOfLacks x = new RibbonOfLacks();
        x.bind(0, 10);
        x.days(3);
        x.bind(0, 20);
        x.days(1);
        x.keep();
        x.bind(1, 11);
        x.days(2);
        x.keep();
        x.loosen(0);
        x.days(30);
        due("a third is not kept", x.keep(), FULL);
        due("the last", x.restore(), 1);
        stands(x, 6, 20, 3, 11, 2, 1, 0);
        x.loosen(1);
        x.days(40);
        due("the one before", x.restore(), 0);
        stands(x, 4, 20, 1, 0, NONE, 1, 0);
        x.days(5);
        due("none", x.restore(), NO);
        stands(x, 9, 20, 6, 0, NONE, 1, 0);
    }

    private static void stands(RibbonOfLacks x, int days, int ribbon, int age, int other, int otherAge, int escapes, int more) {
        due("days", x.count(5), days);
        due("ribbon of 0", x.beast(0, 1), ribbon);
        due("age of 0", x.beast(0, 2), age);
        due("ribbon of 1", x.beast(1, 1), other);
        due("age of 1", x.beast(1, 2), otherAge);
        due("escapes of 0", x.beast(0, 3), escapes);
        due("escapes of 1", x.beast(1, 3), more);
    }

    /** "nothing is UNDONE then" */
    private static void nothingUndoneWhenRestored() {
        RibbonOfLacks x = new RibbonOfLacks();
        x.bind(0, 20);
        x.keep();
        x.days(1);
        due("two can be undone", x.count(6), 2);
        due("restore", x.restore(), 0);
        due("none can be undone", x.count(6), 0);
        due("undo", x.undo(), NO);
        due("bound", x.beast(0, 1), 20);
        x.days(1);
        due("a restore that is refused", x.restore(), NO);
        due("leaves what can be undone", x.undo(), 0);
    }

    private static void keptIsNotUndone() {
        RibbonOfLacks x = new RibbonOfLacks();
        x.bind(0, 20);
        x.keep();
        due("keeping is no call to be undone", x.count(6), 1);
        due("undo", x.undo(), 0);
        due("kept all the same", x.count(7), 1);
        due("restore", x.restore(), 0);
        due("as it was kept", x.beast(0, 1), 20);
    }

    /** Promise 29, BAD */
    private static void countsThatMayBeAsked() {
        RibbonOfLacks x = new RibbonOfLacks();
        x.write('t');
        int[] counts = {5, 2, 4, 2, 2, 0, 0, 0, 1};
        for (int what = 0; what < counts.length; what++) {
            due("count " + what, x.count(what), counts[what]);
        }
        for (int what : new int[] {-1, 9, 256, 65536, MIN, MAX}) {
            due("no count " + what, x.count(what), BAD);
        }
        RibbonOfLacks least = laid("t1,0;b1;");
        RibbonOfLacks most = laid("t1,0;".repeat(10) + "y0,1;".repeat(12) + "p0,1;".repeat(8) + "b1;b1;b1;b1;");
        int[] leastCounts = {1, 0, 0, 1, 0, 0, 0, 0, 8};
        int[] mostCounts = {10, 12, 8, 4, 0, 0, 0, 0, 162};
        for (int what = 0; what < 9; what++) {
            due("the least count " + what, least.count(what), leastCounts[what]);
            due("the most count " + what, most.count(what), mostCounts[what]);
        }
    }
}
