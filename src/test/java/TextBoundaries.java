/**
 * The boundaries that part 1 of the document's terms names, a test for each: what a text may tell,
 * where its fault is, what is laid. Promises 1 to 5.
 */
public final class TextBoundaries {
    private static final int BAD = -1, NO = -2, FULL = -3, NONE = -4;
    private static final String TWO = "t1,0;t2,0;";
    private static final String TEN = "t1,0;".repeat(10);

    private static int wrong = 0;

    private static void due(String what, long got, long want) {
        if (got != want) {
            wrong++;
            System.out.println(what + " answered " + got + ", due is " + want);
        }
    }

    private static RibbonOfLacks written(String text) {
        RibbonOfLacks x = new RibbonOfLacks();
        write(x, text);
        return x;
    }

    private static void write(RibbonOfLacks x, String text) {
        for (int i = 0; i < text.length(); i++) {
            due("letter " + i + " of " + text, x.write(text.charAt(i)), x.count(8));
        }
    }

    private static void isSo(String text) {
        due("fault of " + text, written(text).fault(), NONE);
    }

    /** The items ahead are so, the last one is not. */
    private static void isNotSo(String ahead, String item) {
        isSo(ahead);
        due("fault of " + ahead + item, written(ahead + item).fault(), ahead.length());
        due("fault is not laid: " + ahead + item, written(ahead + item).lay(), NO);
    }

    public static void main(String[] args) {
        whatIsLaidAtFirst();
        lettersFrom32To126();
        twoHundredLettersAtMost();
        aTextOf200Letters();
        wipingAnyLength();
        eachItemALetter();
        numbersPartedByCommas();
        aSemicolonBehindTheLastNumber();
        oneOrTwoFigures();
        strengthFrom0To20();
        kindFrom0To3();
        tenThings();
        needsOfWhatIsToldAhead();
        needsOfUnlikeThings();
        twelveNeeds();
        personsOfWhatIsToldAhead();
        weightFrom1To9();
        eightPersons();
        pullFrom1To90();
        fourBeasts();
        exchangesOfWhatIsToldAhead();
        exchangesOfUnlikeThings();
        amountsFrom1To9();
        sixExchanges();
        theFirstItemThatIsNotSo();
        noFaultInNothing();
        aThingAndABeastAtLeast();
        aTextWithAFaultIsNotLaid();
        layTellsHowManyThings();
        layBeginsAnew();
        kindsOfWhatWasLaidBefore();
        theTextStays();
        System.out.println(wrong == 0 ? "all boundaries of texts hold" : wrong + " answers are not as due");
        if (wrong != 0) {
            System.exit(1);
        }
    }

    /** "at first t5,1;t4,1;t6,0;t9,2;t7,3;y2,0;y4,2;p0,3;p2,5;p3,1;p4,2;b12;b16;x0,2,1,2;x2,0,2,1;" */
    private static void whatIsLaidAtFirst() {
        RibbonOfLacks x = new RibbonOfLacks();
        RibbonOfLacks same = written("t5,1;t4,1;t6,0;t9,2;t7,3;y2,0;y4,2;p0,3;p2,5;p3,1;p4,2;b12;b16;x0,2,1,2;x2,0,2,1;");
        due("lay of the first text", same.lay(), 5);
        for (int what = 0; what < 8; what++) {
            due("count at first " + what, x.count(what), same.count(what));
        }
        due("the text at first", x.count(8), 0);
        due("letter behind the text at first", x.write('t'), 1);
        for (int set = 0; set < 32; set++) {
            due("strength at first of " + set, x.strength(set), same.strength(set));
            due("follows at first " + set, x.follows(set), same.follows(set));
            due("cost at first of " + set, x.cost(set), same.cost(set));
        }
        due("first of the set that is none", x.strength(32), BAD);
        for (int b = 0; b < 2; b++) {
            due("loose at first", x.beast(b, 1), 0);
            due("not old at first", x.beast(b, 2), NONE);
            due("not escaped at first", x.beast(b, 3), 0);
        }
        due("missed at first", x.missed(), 0);
        due("nothing undone at first", x.undo(), NO);
        due("nothing kept at first", x.restore(), NO);
    }

    /** "A letter (32 to 126, as in ASCII)" */
    private static void lettersFrom32To126() {
        RibbonOfLacks x = new RibbonOfLacks();
        int[] none = {31, 127, 0, -1, -84, 128, 256 + 't', 65536 + 't', -65536 + 't', Integer.MIN_VALUE, Integer.MAX_VALUE};
        for (int letter : none) {
            due("write " + letter, x.write(letter), BAD);
            due("nothing written", x.count(8), 0);
        }
        for (int letter = 32; letter <= 126; letter++) {
            due("write " + letter, x.write(letter), letter - 31);
        }
        for (int letter : none) {
            due("write behind others " + letter, x.write(letter), BAD);
        }
        due("95 letters", x.count(8), 95);
    }

    /** "letters (200 at most)" */
    private static void twoHundredLettersAtMost() {
        RibbonOfLacks x = written("b".repeat(199));
        due("the last letter", x.write('t'), 200);
        due("one too many", x.write('t'), FULL);
        due("no letter, and full", x.write(127), BAD);
        due("still 200", x.count(8), 200);
        due("wiped", x.wipe(), 200);
        due("room again", x.write('t'), 1);
    }

    private static void aTextOf200Letters() {
        String ahead = "t20,1;".repeat(10) + "y0,1;".repeat(12) + "p0,1;".repeat(8) + "b90;b9;b9;b9;" + "x0,1,1,1;".repeat(2);
        RibbonOfLacks x = written(ahead + "x9,8,1,1");
        due("letters ahead of the last one", x.count(8), 199);
        due("not laid without the last letter", x.lay(), NO);
        due("fault without the last letter", x.fault(), 191);
        due("the last letter", x.write(';'), 200);
        due("no fault with the last letter", x.fault(), NONE);
        due("laid with the last letter", x.lay(), 10);
        int[] counts = {10, 12, 8, 4, 3, 0, 0, 0, 200};
        for (int what = 0; what < counts.length; what++) {
            due("count " + what + " of 200 letters", x.count(what), counts[what]);
        }
        RibbonOfLacks longer = written(ahead + "x9,8,01,1");
        due("no room for the last letter", longer.write(';'), FULL);
        due("so the last item is not so", longer.fault(), 191);
    }

    /** "THE TEXT is empty: how long it was." */
    private static void wipingAnyLength() {
        for (int length : new int[] {0, 1, 5, 199, 200}) {
            RibbonOfLacks x = written("x".repeat(length));
            due("wipe", x.wipe(), length);
            due("empty", x.count(8), 0);
            due("no fault in nothing", x.fault(), NONE);
            due("wipe again", x.wipe(), 0);
        }
    }

    /** "ITEMS one behind the other, each a letter" */
    private static void eachItemALetter() {
        String two = TWO + "b5;";
        isSo(two + "t1,1;y1,0;p1,1;b1;x0,1,1,1;");
        for (char letter = ' '; letter <= '~'; letter++) {
            boolean isLetter = "typbx".indexOf(letter) >= 0;
            if (!isLetter) {
                isNotSo(two, letter + "1,0;");
                isNotSo("", letter + "1;");
                isNotSo(two, letter + "0,1,1,1;");
            }
        }
        isNotSo(two, ";");
        isNotSo(two, "1,0;");
        isNotSo(two, " t1,0;");
        isNotSo("", "tt1,0;");
        isNotSo(two, "t");
        isNotSo(two, "b");
        isNotSo(two, "x");
    }

    /** "then numbers (one or two figures) parted by ," */
    private static void numbersPartedByCommas() {
        for (String item : new String[] {"t1;", "t1,;", "t,1;", "t1,1,1;", "t1,,1;", "t1.1;", "t1 1;", "t 1,1;", "t1, 1;",
                "t1 ,1;", "t-1,1;", "t1,-1;", "t+1,1;", "t;", "t,;", "t1;1;", "t1a,1;", "t1,1a;", "ta,1;", "t/,1;", "t:,1;"}) {
            isNotSo(TWO, item);
        }
        for (String item : new String[] {"y1;", "y1,0,0;", "y1,,0;", "y,0;", "y1,;", "y;"}) {
            isNotSo(TWO, item);
        }
        for (String item : new String[] {"p1;", "p1,1,1;", "p,1;", "p1,;", "p;"}) {
            isNotSo(TWO, item);
        }
        for (String item : new String[] {"b;", "b1,1;", "b,1;", "b1,;", "b 1;", "b1 ;"}) {
            isNotSo(TWO, item);
        }
        for (String item : new String[] {"x0,1,1;", "x0,1,1,1,1;", "x0,1,,1;", "x0,1,1,;", "x,1,1,1;", "x0,1;", "x;"}) {
            isNotSo(TWO, item);
        }
    }

    /** "and a ; behind the last one" */
    private static void aSemicolonBehindTheLastNumber() {
        for (String item : new String[] {"t1,1", "y0,1", "p0,1", "b1", "x0,1,1,1"}) {
            isSo(TWO + item + ";");
            isNotSo(TWO, item);
            isNotSo(TWO, item + ":");
            isNotSo(TWO, item + ",");
            isNotSo(TWO, item + item + ";");
            isNotSo(TWO + item + ";", ";");
        }
    }

    /** "one or two figures" */
    private static void oneOrTwoFigures() {
        String[] so = {"t1,1;", "t10,1;", "t01,01;", "t00,00;", "y01,00;", "p01,01;", "b01;", "b10;", "x00,01,01,01;"};
        for (String item : so) {
            isSo(TWO + item);
        }
        String[] notSo = {"t001,1;", "t1,001;", "t010,1;", "y001,0;", "y1,000;", "p001,1;", "p1,001;", "b001;", "b010;",
            "b100;", "x000,1,1,1;", "x0,001,1,1;", "x0,1,001,1;", "x0,1,1,001;", "t4294967297,1;", "b4294967297;"};
        for (String item : notSo) {
            isNotSo(TWO, item);
        }
        RibbonOfLacks x = written("t09,02;t19,0;y01,00;p01,09;b08;");
        due("lay of two figures", x.lay(), 2);
        due("09 is 9", x.thing(0, 0), 9);
        due("19 is 19", x.thing(1, 0), 19);
        due("02 is 2", x.thing(0, 1), 2);
        due("01 needs 00", x.follows(1), 3);
        due("p01", x.person(0, 0), 1);
        due("09 of W", x.person(0, 1), 9);
        due("08 is 8", x.beast(0, 0), 8);
    }

    /** "STRENGTH G (0 to 20)" */
    private static void strengthFrom0To20() {
        for (int g = 0; g <= 20; g++) {
            RibbonOfLacks x = written("t" + g + ",0;b1;");
            due("lay with G " + g, x.lay(), 1);
            due("G " + g, x.thing(0, 0), g);
            due("strength by G " + g, x.strength(1), g);
        }
        for (int g = 21; g <= 99; g++) {
            isNotSo(TWO, "t" + g + ",0;");
        }
    }

    /** "of KIND K (0 PLAIN, 1 SOUND, 2 LENT, 3 LATE)" */
    private static void kindFrom0To3() {
        for (int k = 0; k <= 3; k++) {
            RibbonOfLacks x = written("t1," + k + ";b1;");
            due("lay with K " + k, x.lay(), 1);
            due("K " + k, x.thing(0, 1), k);
        }
        for (int k = 4; k <= 99; k++) {
            isNotSo(TWO, "t1," + k + ";");
        }
    }

    /** "10 at most, 0, 1, .." */
    private static void tenThings() {
        isSo(TEN);
        isNotSo(TEN, "t1,0;");
        isNotSo(TEN + "b1;", "t1,0;");
        RibbonOfLacks x = written("t0,0;t1,0;t2,0;t3,0;t4,0;t5,0;t6,0;t7,0;t8,0;t9,0;b1;");
        due("lay of ten", x.lay(), 10);
        for (int t = 0; t < 10; t++) {
            due("the thing " + t, x.thing(t, 0), t);
        }
        due("the thing 10", x.thing(10, 0), BAD);
        due("all of ten", x.strength(1023), 45);
        due("a set of eleven", x.strength(1024), BAD);
    }

    /** "THING T needs THING A (both told ahead, ..)" */
    private static void needsOfWhatIsToldAhead() {
        isSo(TWO + "y1,0;");
        isSo(TWO + "y0,1;");
        isNotSo(TWO, "y2,0;");
        isNotSo(TWO, "y0,2;");
        isNotSo(TWO, "y2,3;");
        isNotSo(TWO, "y1,99;");
        isNotSo(TWO, "y99,1;");
        isNotSo("t1,0;", "y1,0;t1,0;");
        isNotSo("t1,0;", "y0,1;t1,0;");
        isNotSo("", "y0,1;t1,0;t1,0;");
        isSo(TEN + "y9,0;y0,9;");
        isNotSo(TEN, "y10,0;");
        isNotSo(TEN, "y0,10;");
    }

    /** "(both told ahead, unlike)" */
    private static void needsOfUnlikeThings() {
        isNotSo(TWO, "y0,0;");
        isNotSo(TWO, "y1,1;");
        isNotSo(TWO, "y01,1;");
        isNotSo(TEN, "y9,9;");
    }

    /** "12 at most (the same again as well)" */
    private static void twelveNeeds() {
        isSo(TWO + "y0,1;y0,1;y1,0;");
        isSo(TWO + "y0,1;".repeat(12));
        isNotSo(TWO + "y0,1;".repeat(12), "y0,1;");
        isNotSo(TWO + "y0,1;".repeat(12), "y1,0;");
        String eleven = "y0,1;y0,2;y0,3;y0,4;y0,5;y0,6;y0,7;y0,8;y0,9;y1,2;y1,3;";
        isSo(TEN + eleven + "y8,9;");
        isNotSo(TEN + eleven + "y8,9;", "y7,9;");
        RibbonOfLacks x = written(TEN + "b1;" + eleven + "y8,9;");
        x.lay();
        due("twelve needs", x.count(1), 12);
        due("the twelfth need counts", x.follows(512), 512 + 256 + 1);
        RibbonOfLacks again = written(TWO + "b1;" + "y0,1;".repeat(12));
        again.lay();
        due("the same twelve times", again.count(1), 12);
        due("the same again is no other need", again.follows(2), 3);
    }

    /** "a PERSON who misses THING T (told ahead)" */
    private static void personsOfWhatIsToldAhead() {
        isSo(TWO + "p0,1;p1,1;");
        isNotSo(TWO, "p2,1;");
        isNotSo(TWO, "p2,1;t1,0;");
        isNotSo("", "p0,1;t1,0;");
        isSo(TEN + "p9,1;");
        isNotSo(TEN, "p10,1;");
        isNotSo(TEN, "p99,1;");
    }

    /** "by W (1 to 9)" */
    private static void weightFrom1To9() {
        for (int w = 1; w <= 9; w++) {
            RibbonOfLacks x = written("t1,0;b1;p0," + w + ";");
            due("lay with W " + w, x.lay(), 1);
            due("W " + w, x.person(0, 1), w);
            due("cost by W " + w, x.cost(1), w);
        }
        isNotSo(TWO, "p0,0;");
        for (int w = 10; w <= 99; w++) {
            isNotSo(TWO, "p0," + w + ";");
        }
    }

    /** "8 at most, 0, 1, .." */
    private static void eightPersons() {
        isSo(TWO + "p0,1;".repeat(8));
        isNotSo(TWO + "p0,1;".repeat(8), "p0,1;");
        RibbonOfLacks x = written(TWO + "b1;p0,1;p0,2;p0,3;p0,4;p0,5;p0,6;p0,7;p1,8;");
        x.lay();
        due("eight persons", x.count(2), 8);
        for (int i = 0; i < 8; i++) {
            due("W of person " + i, x.person(i, 1), i + 1);
            due("thing of person " + i, x.person(i, 0), i / 7);
        }
        due("person 8", x.person(8, 0), BAD);
    }

    /** "a BEAST of PULL P (1 to 90)" */
    private static void pullFrom1To90() {
        for (int p = 1; p <= 90; p++) {
            RibbonOfLacks x = written("t1,0;b" + p + ";");
            due("lay with P " + p, x.lay(), 1);
            due("P " + p, x.beast(0, 0), p);
        }
        isNotSo(TWO, "b0;");
        isNotSo(TWO, "b00;");
        for (int p = 91; p <= 99; p++) {
            isNotSo(TWO, "b" + p + ";");
        }
    }

    /** "4 at most, 0, 1, .." */
    private static void fourBeasts() {
        isSo("b1;b1;b1;b1;");
        isNotSo("b1;b1;b1;b1;", "b1;");
        RibbonOfLacks x = written("b1;b2;b3;b4;t1,0;");
        due("beasts ahead of things", x.lay(), 1);
        due("four beasts", x.count(3), 4);
        for (int b = 0; b < 4; b++) {
            due("pull of " + b, x.beast(b, 0), b + 1);
        }
        due("beast 4", x.beast(4, 0), BAD);
    }

    /** "of the absence of THING A one is given Q of that of B (both told ahead, ..)" */
    private static void exchangesOfWhatIsToldAhead() {
        isSo(TWO + "x0,1,1,1;x1,0,1,1;");
        isNotSo(TWO, "x2,0,1,1;");
        isNotSo(TWO, "x0,2,1,1;");
        isNotSo(TWO, "x0,99,1,1;");
        isNotSo("t1,0;", "x0,1,1,1;t1,0;");
        isNotSo("t1,0;", "x1,0,1,1;t1,0;");
        isNotSo("", "x0,1,1,1;t1,0;t1,0;");
        isSo(TEN + "x9,0,1,1;x0,9,1,1;");
        isNotSo(TEN, "x10,0,1,1;");
        isNotSo(TEN, "x0,10,1,1;");
    }

    /** "(both told ahead, unlike)" */
    private static void exchangesOfUnlikeThings() {
        isNotSo(TWO, "x0,0,1,1;");
        isNotSo(TWO, "x1,1,1,2;");
        isNotSo(TWO, "x1,01,1,2;");
        isNotSo(TEN, "x9,9,1,1;");
    }

    /** "for P (1 to 9) .. one is given Q (1 to 9)" */
    private static void amountsFrom1To9() {
        for (int n = 1; n <= 9; n++) {
            isSo(TWO + "x0,1," + n + ",1;");
            isSo(TWO + "x0,1,1," + n + ";");
        }
        isNotSo(TWO, "x0,1,0,1;");
        isNotSo(TWO, "x0,1,1,0;");
        isNotSo(TWO, "x0,1,0,0;");
        for (int n = 10; n <= 99; n += n == 10 ? 1 : 8) {
            isNotSo(TWO, "x0,1," + n + ",1;");
            isNotSo(TWO, "x0,1,1," + n + ";");
        }
    }

    /** "6 at most" */
    private static void sixExchanges() {
        isSo(TWO + "x0,1,1,1;".repeat(6));
        isNotSo(TWO + "x0,1,1,1;".repeat(6), "x0,1,1,1;");
        RibbonOfLacks x = written(TWO + "b1;" + "x0,1,1,1;".repeat(5) + "x1,0,1,2;");
        x.lay();
        due("six exchanges", x.count(4), 6);
        due("the sixth counts", x.gain(1), 5);
    }

    /** "the place of the first letter of the first ITEM that is not so" */
    private static void theFirstItemThatIsNotSo() {
        due("the first of two", written("t1,0;b0;t1,0;b91;").fault(), 5);
        due("ahead of what is so", written("q;t1,0;b1;").fault(), 0);
        due("between", written("t1,0;t21,0;b1;").fault(), 5);
        due("an item as the place, not the wrong letter in it", written("t1,0;b1;x0,1,1,1;").fault(), 8);
        due("the thing too many ahead of another fault", written(TEN + "t1,0;q").fault(), 50);
        due("a fault ahead of the thing too many", written("q" + TEN + "t1,0;").fault(), 0);
        RibbonOfLacks x = written("t1,0;b1;t1,");
        due("what is not told out", x.fault(), 8);
        write(x, "0;");
        due("told out", x.fault(), NONE);
        write(x, "u");
        due("and then not so", x.fault(), 13);
        due("fault changes nothing", x.fault(), 13);
        due("fault leaves what is laid", x.count(0), 5);
    }

    private static void noFaultInNothing() {
        due("fault of a new object", new RibbonOfLacks().fault(), NONE);
        isSo("");
    }

    /** "LAID is a TEXT without FAULT, of a THING and a BEAST at least (NO else)" */
    private static void aThingAndABeastAtLeast() {
        due("lay of nothing", written("").lay(), NO);
        due("lay without a beast", written("t1,0;").lay(), NO);
        due("lay of all but a beast", written(TEN + "y0,1;p0,1;x0,1,1,1;").lay(), NO);
        due("lay without a thing", written("b1;").lay(), NO);
        due("lay of four beasts alone", written("b1;b1;b1;b1;").lay(), NO);
        due("lay of both", written("t0,0;b1;").lay(), 1);
        due("lay of both, the beast ahead", written("b90;t20,3;").lay(), 1);
    }

    private static void aTextWithAFaultIsNotLaid() {
        due("lay with a fault behind", written("t1,0;b1;b").lay(), NO);
        due("lay with a fault ahead", written("qt1,0;b1;").lay(), NO);
        due("lay with a beast too many", written("t1,0;b1;b1;b1;b1;b1;").lay(), NO);
        RibbonOfLacks x = new RibbonOfLacks();
        x.bind(0, 10);
        x.days(1);
        x.keep();
        write(x, "t1,0;t1,0;t1,0;y0,1;p0,9;b3;b91;");
        due("not laid", x.lay(), NO);
        int[] counts = {5, 2, 4, 2, 2, 1, 2, 1, 32};
        for (int what = 0; what < counts.length; what++) {
            due("count " + what + " when not laid", x.count(what), counts[what]);
        }
        due("still bound", x.beast(0, 1), 10);
        due("still of pull 12", x.beast(0, 0), 12);
        due("still as strong", x.strength(31), 40);
        due("still followed", x.follows(1), 21);
        due("still missed", x.missed(), 1);
        due("still undone", x.undo(), 1);
        due("still kept", x.restore(), 0);
    }

    /** "LAID: how many THINGS" */
    private static void layTellsHowManyThings() {
        for (int n = 1; n <= 10; n++) {
            RibbonOfLacks x = written("t1,0;".repeat(n) + "b1;");
            due("lay of " + n, x.lay(), n);
            due("things", x.count(0), n);
            due("the last one", x.thing(n - 1, 0), 1);
            due("none behind it", x.thing(n, 0), BAD);
            due("all", x.strength((1 << n) - 1), n);
            due("more than all", x.strength(1 << n), BAD);
        }
    }

    /** "no day gone by, nothing GONE, UNDONE, KEPT" */
    private static void layBeginsAnew() {
        RibbonOfLacks x = new RibbonOfLacks();
        x.bind(0, 8 + 2);
        x.days(3);
        x.bind(0, 20);
        x.bind(1, 11);
        x.keep();
        x.keep();
        write(x, "t5,1;t4,1;t6,0;t9,2;t7,3;b12;b16;");
        due("laid", x.lay(), 5);
        int[] counts = {5, 0, 0, 2, 0, 0, 0, 0, 33};
        for (int what = 0; what < counts.length; what++) {
            due("count " + what + " when laid", x.count(what), counts[what]);
        }
        for (int b = 0; b < 2; b++) {
            due("no ribbon", x.beast(b, 1), 0);
            due("no age", x.beast(b, 2), NONE);
            due("no escapes", x.beast(b, 3), 0);
        }
        for (int t = 0; t < 5; t++) {
            due("there", x.thing(t, 2), 1);
            due("in no ribbon", x.thing(t, 3), NONE);
        }
        due("nobody left of the persons", x.person(0, 0), BAD);
        due("nothing follows as before", x.follows(1), 1);
        due("nothing missed", x.missed(), 0);
        due("nothing undone", x.undo(), NO);
        due("nothing kept", x.restore(), NO);
        due("room to keep", x.keep(), 1);
    }

    /** Neither what was read before nor what was laid before is left in what is laid. */
    private static void kindsOfWhatWasLaidBefore() {
        String[] kinds = {"t5,1;t5,1;t1,0;p0,3;b5;", "t5,2;t5,2;t1,2;p0,3;b5;", "t5,3;t5,3;t1,3;p0,3;b5;"};
        for (String before : kinds) {
            RibbonOfLacks x = written(before);
            x.lay();
            x.wipe();
            write(x, before);
            x.lay();
            x.fault();
            x.wipe();
            write(x, "t5,0;t5,0;t1,0;p0,3;b5;");
            x.lay();
            due("no sounds left", x.strength(3), 10);
            x.bind(0, 1);
            due("no late ones left", x.missed(), 3);
            due("no lent ones left", x.days(3), 0);
            due("still bound", x.beast(0, 1), 1);
            due("kind", x.thing(0, 1), 0);
        }
    }

    /** "(THE TEXT stays)" */
    private static void theTextStays() {
        RibbonOfLacks x = written("t1,0;b1;");
        due("lay", x.lay(), 1);
        due("how long", x.count(8), 8);
        due("laid again", x.lay(), 1);
        write(x, "t1,0;");
        due("laid with more", x.lay(), 2);
        due("wipe", x.wipe(), 13);
        due("nothing to lay", x.lay(), NO);
        due("what was laid stays", x.count(0), 2);
    }
}
