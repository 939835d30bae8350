/**
 * Ribbons that hold beasts, made of things that are then no more in the world.
 * What each call answers is told by ../shared/DOC.md, promise by promise.
 *
 * All rows are made in the constructors and used again: no call makes an object.
 */
public final class RibbonOfLacks {
    public static final int BAD = -1, NO = -2, FULL = -3, NONE = -4;

    private static final String FIRST_TEXT =
        "t5,1;t4,1;t6,0;t9,2;t7,3;y2,0;y4,2;p0,3;p2,5;p3,1;p4,2;b12;b16;x0,2,1,2;x2,0,2,1;";
    private static final int MOST_DAYS = 999;
    private static final int MOST_DAYS_AT_ONCE = 40;
    private static final int MOST_PULL = 90;
    private static final int MOST_UNDOABLE = 8;
    private static final int MOST_KEPT = 2;

    private final Letters text;
    private final Reader reader;
    private World laid;
    private World draft;
    private final Tables tables;
    private final State now;
    private final State imagined;
    private final Pile undoable;
    private final Pile keptOnes;
    private final Planner planner;
    private final GainSearch gains;

    public RibbonOfLacks() {
        text = new Letters();
        reader = new Reader(text);
        laid = new World();
        draft = new World();
        tables = new Tables();
        now = new State();
        imagined = new State();
        undoable = new Pile(MOST_UNDOABLE);
        keptOnes = new Pile(MOST_KEPT);
        planner = new Planner(tables);
        gains = new GainSearch();
        for (int i = 0; i < FIRST_TEXT.length(); i++) {
            text.append(FIRST_TEXT.charAt(i));
        }
        layTheText();
        text.clear();
    }

    // ---- worlds

    public int write(int letter) {
        if (letter < 32 || letter > 126) {
            return BAD;
        }
        return text.append(letter) ? text.size() : FULL;
    }

    public int wipe() {
        int before = text.size();
        text.clear();
        return before;
    }

    public int fault() {
        return reader.readInto(draft);
    }

    public int lay() {
        return layTheText() ? laid.things : NO;
    }

    private boolean layTheText() {
        if (reader.readInto(draft) != NONE || draft.things < 1 || draft.beasts < 1) {
            return false;
        }
        World before = laid;
        laid = draft;
        draft = before;
        tables.fillFrom(laid);
        now.clear();
        undoable.clear();
        keptOnes.clear();
        return true;
    }

    public int thing(int t, int what) {
        if (!isThing(t)) {
            return BAD;
        }
        switch (what) {
            case 0: return laid.strengthOfThing(t);
            case 1: return laid.kindOfThing(t);
            case 2: return isThere(t) ? 1 : 0;
            case 3: return now.beastWith(t);
            default: return BAD;
        }
    }

    public int person(int i, int what) {
        if (i < 0 || i >= laid.persons) {
            return BAD;
        }
        switch (what) {
            case 0: return laid.thingOfPerson(i);
            case 1: return laid.weightOfPerson(i);
            case 2: return tables.missersOf(now.found(laid.lateThings)) >> i & 1;
            default: return BAD;
        }
    }

    public int beast(int b, int what) {
        if (!isBeast(b)) {
            return BAD;
        }
        switch (what) {
            case 0: return laid.pullOfBeast(b);
            case 1: return now.ribbonOf(b);
            case 2: return now.isBound(b) ? now.ageOf(b) : NONE;
            case 3: return now.escapesOf(b);
            default: return BAD;
        }
    }

    public int strength(int set) {
        return tables.isSet(set) ? tables.strengthOf(set) : BAD;
    }

    public int follows(int set) {
        return tables.isSet(set) ? tables.followersOf(set) : BAD;
    }

    public int missed() {
        return missedIn(now);
    }

    // ---- ribbons

    public int bind(int b, int set) {
        if (!isBeast(b) || !tables.isSet(set)) {
            return BAD;
        }
        boolean allThere = (set & ~tables.thereBesides(now.gone())) == 0;
        if (now.isBound(b) || !allThere || tables.strengthOf(set) < laid.pullOfBeast(b)) {
            return NO;
        }
        undoable.push(now);
        now.tie(b, set);
        return tables.strengthOf(set);
    }

    public int loosen(int b) {
        if (!isBeast(b)) {
            return BAD;
        }
        if (!now.isBound(b)) {
            return NO;
        }
        undoable.push(now);
        int used = Integer.bitCount(now.ribbonOf(b));
        now.untie(b);
        return used;
    }

    public int days(int n) {
        if (n < 1 || n > MOST_DAYS_AT_ONCE) {
            return BAD;
        }
        if (now.days + n > MOST_DAYS) {
            return NO;
        }
        undoable.push(now);
        int escaped = 0;
        for (int k = 0; k < n; k++) {
            escaped += now.passDay(laid, tables);
        }
        return escaped;
    }

    public int undo() {
        return undoable.popInto(now) ? undoable.size() : NO;
    }

    // ---- what is best

    public int cost(int set) {
        return tables.isSet(set) ? tables.costOf(set, now.gone()) : BAD;
    }

    public int least(int b, int what) {
        if (!isBeast(b) || what < 0 || what > 1) {
            return BAD;
        }
        if (!planner.findLeast(laid.pullOfBeast(b), now.gone())) {
            return NONE;
        }
        return what == 0 ? planner.leastRibbon : planner.leastCost;
    }

    public int all(int b) {
        if (b < -2 || b >= laid.beasts) {
            return BAD;
        }
        if (!planner.findAll(laid, now)) {
            return NONE;
        }
        switch (b) {
            case -2: return planner.allCost;
            case -1: return planner.allUsed;
            default: return planner.ribbonInAll(b);
        }
    }

    public int more(int p) {
        if (p < 1 || p > MOST_PULL) {
            return BAD;
        }
        return planner.mostBound(p, tables.thereBesides(now.gone()));
    }

    public int worst(int what) {
        if (what < 0 || what > 1) {
            return BAD;
        }
        int there = tables.thereBesides(now.gone());
        int worstThing = NONE;
        int most = NONE;
        for (int t = 0; t < laid.things; t++) {
            if ((there >> t & 1) == 0) {
                continue;
            }
            int others = Integer.bitCount(tables.followersOf(1 << t) & there & ~(1 << t));
            if (others > most) {
                worstThing = t;
                most = others;
            }
        }
        return what == 0 ? worstThing : most;
    }

    public int back(int t) {
        if (!isThing(t)) {
            return BAD;
        }
        int gone = now.gone();
        int needed = 0;
        for (int g = 0; g < laid.things; g++) {
            boolean isGone = (gone >> g & 1) == 1;
            if (isGone && (tables.followersOf(1 << g) >> t & 1) == 1) {
                needed |= 1 << g;
            }
        }
        return needed;
    }

    // ---- what it was of

    public int missing(int persons, int p, int what) {
        boolean arePersons = persons >= 0 && persons < 1 << laid.persons;
        if (!arePersons || p < 0 || p > MOST_PULL || what < 0 || what > 2) {
            return BAD;
        }
        int ribbons = 0;
        int lowest = NONE;
        int inAll = -1;
        for (int set = 0; set < tables.size; set++) {
            if (tables.missersOf(set) != persons || tables.strengthOf(set) < p) {
                continue;
            }
            if (ribbons == 0) {
                lowest = set;
            }
            ribbons++;
            inAll &= set;
        }
        if (what == 0) {
            return ribbons;
        }
        if (ribbons == 0) {
            return NONE;
        }
        return what == 1 ? lowest : inAll;
    }

    public long trial(int a, int x, int n, int part) {
        boolean areChances = a >= 0 && a <= 10 && x >= 0 && x <= 10;
        if (!areChances || n < 0 || n > 6 || part < 0 || part > 1) {
            return BAD;
        }
        long whenTrue = a * power(10, n);
        long whenFalse = (10 - a) * power(10 - x, n);
        long ways = whenTrue + whenFalse;
        if (ways == 0) {
            return NONE;
        }
        long common = commonDivisor(whenTrue, ways);
        return (part == 0 ? whenTrue : ways) / common;
    }

    // ---- pledges, gains

    public int pledge(int what) {
        if (what < 0 || what > 1) {
            return BAD;
        }
        int rests = 0;
        int first = NONE;
        for (int i = 0; i < laid.persons; i++) {
            for (int j = 0; j < laid.persons; j++) {
                if (!pledgeRests(i, j)) {
                    continue;
                }
                if (rests == 0) {
                    first = 8 * i + j;
                }
                rests++;
            }
        }
        return what == 0 ? rests : first;
    }

    private boolean pledgeRests(int given, int bitten) {
        int loss = pledgeLoss(given, bitten);
        for (int other = 0; other < laid.persons; other++) {
            if (pledgeLoss(other, bitten) < loss || pledgeLoss(given, other) > loss) {
                return false;
            }
        }
        return true;
    }

    private int pledgeLoss(int given, int bitten) {
        return (given == bitten ? 3 : 1) * laid.weightOfPerson(given);
    }

    public int gain(int k) {
        if (k < -3 || k > 5) {
            return BAD;
        }
        if (!gains.find(laid)) {
            return NONE;
        }
        switch (k) {
            case -3: return gains.below();
            case -2: return gains.above();
            case -1: return gains.length;
            default: return gains.exchangeAt(k);
        }
    }

    public int row(int z, int n, int what) {
        boolean isRow = z >= 0 && z <= 9999 && n >= 1 && n <= MOST_DAYS_AT_ONCE;
        if (!isRow || what < 0 || what > 1) {
            return BAD;
        }
        imagined.copyFrom(now);
        int escaped = 0;
        for (int k = 0; k < n; k++) {
            actByDraw(imagined, draw(z, k));
            escaped += imagined.passDay(laid, tables);
        }
        return what == 0 ? missedIn(imagined) : escaped;
    }

    private void actByDraw(State state, int drawn) {
        if (laid.beasts < 1) {
            return;
        }
        int b = drawn % laid.beasts;
        if (!state.isBound(b)) {
            if (planner.findLeast(laid.pullOfBeast(b), state.gone())) {
                state.tie(b, planner.leastRibbon);
            }
        } else if (drawn / 8 % 4 == 0) {
            state.untie(b);
        }
    }

    // ---- kept

    public int keep() {
        if (keptOnes.size() >= MOST_KEPT) {
            return FULL;
        }
        keptOnes.push(now);
        return keptOnes.size();
    }

    public int restore() {
        if (!keptOnes.popInto(now)) {
            return NO;
        }
        undoable.clear();
        return keptOnes.size();
    }

    public int count(int what) {
        switch (what) {
            case 0: return laid.things;
            case 1: return laid.needs;
            case 2: return laid.persons;
            case 3: return laid.beasts;
            case 4: return laid.exchanges;
            case 5: return now.days;
            case 6: return undoable.size();
            case 7: return keptOnes.size();
            case 8: return text.size();
            default: return BAD;
        }
    }

    private boolean isThing(int t) {
        return t >= 0 && t < laid.things;
    }

    private boolean isBeast(int b) {
        return b >= 0 && b < laid.beasts;
    }

    private boolean isThere(int t) {
        return (tables.thereBesides(now.gone()) >> t & 1) == 1;
    }

    private int missedIn(State state) {
        return tables.lossOf(state.found(laid.lateThings));
    }

    private static int draw(int z, int k) {
        long x = 7919L * z + 6151L * k + 1;
        return (int) (x * x % 65521);
    }

    private static long power(int base, int exponent) {
        long product = 1;
        for (int i = 0; i < exponent; i++) {
            product *= base;
        }
        return product;
    }

    /** At least 1, so that one may always divide by it. */
    private static long commonDivisor(long a, long b) {
        long greater = a;
        long smaller = b;
        for (int step = 0; step < 200 && smaller != 0; step++) {
            long rest = greater % smaller;
            greater = smaller;
            smaller = rest;
        }
        return Math.max(1, greater);
    }

    /** The text as it is written. */
    private static final class Letters {
        private static final int MOST = 200;

        private final int[] signs = new int[MOST];
        private int length = 0;

        boolean append(int sign) {
            if (length < 0 || length >= MOST) {
                return false;
            }
            signs[length] = sign;
            length++;
            return true;
        }

        void clear() {
            length = 0;
        }

        int size() {
            return length;
        }

        /** Behind the last letter there is -1, which is no letter. */
        int signAt(int place) {
            return place >= 0 && place < length && place < MOST ? signs[place] : -1;
        }
    }

    /** Reads the text item by item into a world. */
    private static final class Reader {
        private static final int MOST_NUMBERS = 4;

        private final Letters source;
        private final int[] numbers = new int[MOST_NUMBERS];
        private int place = 0;

        Reader(Letters source) {
            this.source = source;
        }

        /** Where the first item begins that is not so; NONE: all are. */
        int readInto(World world) {
            world.clear();
            place = 0;
            for (int items = 0; items < Letters.MOST && place < source.size(); items++) {
                int start = place;
                if (!readItem(world)) {
                    return start;
                }
            }
            return NONE;
        }

        private boolean readItem(World world) {
            int letter = source.signAt(place);
            int wanted = numbersBehind(letter);
            if (wanted == 0) {
                return false;
            }
            place++;
            for (int i = 0; i < wanted && i < MOST_NUMBERS; i++) {
                int number = readNumber();
                int end = i < wanted - 1 ? ',' : ';';
                if (number < 0 || source.signAt(place) != end) {
                    return false;
                }
                numbers[i] = number;
                place++;
            }
            return world.take(letter, numbers[0], numbers[1], numbers[2], numbers[3]);
        }

        private static int numbersBehind(int letter) {
            switch (letter) {
                case 't':
                case 'y':
                case 'p': return 2;
                case 'b': return 1;
                case 'x': return 4;
                default: return 0;
            }
        }

        /** One or two figures; -1: there is none. */
        private int readNumber() {
            int first = figureAt(place);
            if (first < 0) {
                return -1;
            }
            place++;
            int second = figureAt(place);
            if (second < 0) {
                return first;
            }
            place++;
            return 10 * first + second;
        }

        private int figureAt(int at) {
            int sign = source.signAt(at);
            return sign >= '0' && sign <= '9' ? sign - '0' : -1;
        }
    }

    /** What a text tells: things, needs, persons, beasts, exchanges. */
    private static final class World {
        private static final int MOST_THINGS = 10;
        private static final int MOST_NEEDS = 12;
        private static final int MOST_PERSONS = 8;
        private static final int MOST_BEASTS = 4;
        private static final int MOST_EXCHANGES = 6;
        private static final int SOUND = 1;
        private static final int LENT = 2;
        private static final int LATE = 3;

        int things = 0;
        int needs = 0;
        int persons = 0;
        int beasts = 0;
        int exchanges = 0;
        int soundThings = 0;
        int lentThings = 0;
        int lateThings = 0;
        private final int[] strengths = new int[MOST_THINGS];
        private final int[] kinds = new int[MOST_THINGS];
        private final int[] needers = new int[MOST_NEEDS];
        private final int[] needed = new int[MOST_NEEDS];
        private final int[] missedThings = new int[MOST_PERSONS];
        private final int[] weights = new int[MOST_PERSONS];
        private final int[] pulls = new int[MOST_BEASTS];
        private final int[] taken = new int[MOST_EXCHANGES];
        private final int[] given = new int[MOST_EXCHANGES];
        private final int[] takenMuch = new int[MOST_EXCHANGES];
        private final int[] givenMuch = new int[MOST_EXCHANGES];

        void clear() {
            things = 0;
            needs = 0;
            persons = 0;
            beasts = 0;
            exchanges = 0;
            soundThings = 0;
            lentThings = 0;
            lateThings = 0;
        }

        /** Takes an item, with as many of the numbers as its letter has; false: it is not so. */
        boolean take(int letter, int first, int second, int third, int fourth) {
            switch (letter) {
                case 't': return takeThing(first, second);
                case 'y': return takeNeed(first, second);
                case 'p': return takePerson(first, second);
                case 'b': return takeBeast(first);
                case 'x': return takeExchange(first, second, third, fourth);
                default: return false;
            }
        }

        private boolean takeThing(int strength, int kind) {
            if (things < 0 || things >= MOST_THINGS || strength > 20 || kind > 3) {
                return false;
            }
            strengths[things] = strength;
            kinds[things] = kind;
            int bit = 1 << things;
            soundThings |= kind == SOUND ? bit : 0;
            lentThings |= kind == LENT ? bit : 0;
            lateThings |= kind == LATE ? bit : 0;
            things++;
            return true;
        }

        private boolean takeNeed(int needer, int what) {
            if (needs < 0 || needs >= MOST_NEEDS || !areTwoThings(needer, what)) {
                return false;
            }
            needers[needs] = needer;
            needed[needs] = what;
            needs++;
            return true;
        }

        private boolean takePerson(int missedThing, int weight) {
            boolean hasRoom = persons >= 0 && persons < MOST_PERSONS;
            if (!hasRoom || missedThing >= things || !isOneFigure(weight)) {
                return false;
            }
            missedThings[persons] = missedThing;
            weights[persons] = weight;
            persons++;
            return true;
        }

        private boolean takeBeast(int pull) {
            if (beasts < 0 || beasts >= MOST_BEASTS || pull < 1 || pull > MOST_PULL) {
                return false;
            }
            pulls[beasts] = pull;
            beasts++;
            return true;
        }

        private boolean takeExchange(int takes, int gives, int takesMuch, int givesMuch) {
            boolean hasRoom = exchanges >= 0 && exchanges < MOST_EXCHANGES;
            boolean areAmounts = isOneFigure(takesMuch) && isOneFigure(givesMuch);
            if (!hasRoom || !areAmounts || !areTwoThings(takes, gives)) {
                return false;
            }
            taken[exchanges] = takes;
            given[exchanges] = gives;
            takenMuch[exchanges] = takesMuch;
            givenMuch[exchanges] = givesMuch;
            exchanges++;
            return true;
        }

        private boolean areTwoThings(int a, int b) {
            return a < things && b < things && a != b;
        }

        private static boolean isOneFigure(int amount) {
            return amount >= 1 && amount <= 9;
        }

        private static int entry(int[] list, int i) {
            return i >= 0 && i < list.length ? list[i] : 0;
        }

        int strengthOfThing(int t) {
            return entry(strengths, t);
        }

        int kindOfThing(int t) {
            return entry(kinds, t);
        }

        int neederOf(int need) {
            return entry(needers, need);
        }

        int neededOf(int need) {
            return entry(needed, need);
        }

        int thingOfPerson(int i) {
            return entry(missedThings, i);
        }

        int weightOfPerson(int i) {
            return entry(weights, i);
        }

        int pullOfBeast(int b) {
            return entry(pulls, b);
        }

        int takenBy(int exchange) {
            return entry(taken, exchange);
        }

        int givenBy(int exchange) {
            return entry(given, exchange);
        }

        int takenMuchBy(int exchange) {
            return entry(takenMuch, exchange);
        }

        int givenMuchBy(int exchange) {
            return entry(givenMuch, exchange);
        }
    }

    /** For each set of things what does not change with the days. */
    private static final class Tables {
        private static final int MOST_SETS = 1 << World.MOST_THINGS;

        int size = 1;
        private final int[] strengths = new int[MOST_SETS];
        private final int[] followers = new int[MOST_SETS];
        private final int[] missers = new int[MOST_SETS];
        private final int[] losses = new int[MOST_SETS];

        void fillFrom(World world) {
            size = Math.min(MOST_SETS, 1 << world.things);
            for (int set = 0; set < size && set < MOST_SETS; set++) {
                strengths[set] = sumOfStrength(world, set);
                followers[set] = set == 0 || Integer.bitCount(set) == 1
                    ? spread(world, set)
                    : followersOf(set & -set) | followersOf(set & set - 1);
                missers[set] = thoseWhoMiss(world, followers[set]);
                losses[set] = sumOfWeights(world, missers[set]);
            }
        }

        private static int sumOfStrength(World world, int set) {
            int sounds = set & world.soundThings;
            boolean soundsTwice = Integer.bitCount(sounds) > 1;
            int sum = 0;
            for (int t = 0; t < world.things; t++) {
                if ((set >> t & 1) == 1) {
                    boolean twice = soundsTwice && (sounds >> t & 1) == 1;
                    sum += (twice ? 2 : 1) * world.strengthOfThing(t);
                }
            }
            return sum;
        }

        /** As many rounds as there are things: each round but the last one adds a thing. */
        private static int spread(World world, int set) {
            int reached = set;
            for (int round = 0; round < world.things; round++) {
                for (int need = 0; need < world.needs; need++) {
                    if ((reached >> world.neededOf(need) & 1) == 1) {
                        reached |= 1 << world.neederOf(need);
                    }
                }
            }
            return reached;
        }

        private static int thoseWhoMiss(World world, int notThere) {
            int persons = 0;
            for (int i = 0; i < world.persons; i++) {
                persons |= (notThere >> world.thingOfPerson(i) & 1) << i;
            }
            return persons;
        }

        private static int sumOfWeights(World world, int persons) {
            int sum = 0;
            for (int i = 0; i < world.persons; i++) {
                sum += (persons >> i & 1) * world.weightOfPerson(i);
            }
            return sum;
        }

        boolean isSet(int set) {
            return set >= 0 && set < size;
        }

        int strengthOf(int set) {
            return set >= 0 && set < MOST_SETS ? strengths[set] : 0;
        }

        int followersOf(int set) {
            return set >= 0 && set < MOST_SETS ? followers[set] : 0;
        }

        int missersOf(int set) {
            return set >= 0 && set < MOST_SETS ? missers[set] : 0;
        }

        int lossOf(int set) {
            return set >= 0 && set < MOST_SETS ? losses[set] : 0;
        }

        int costOf(int set, int gone) {
            return lossOf(gone | set) - lossOf(gone);
        }

        int thereBesides(int gone) {
            return size - 1 & ~followersOf(gone);
        }
    }

    /** How things stand on a day: ribbons with their age, escapes. */
    private static final class State {
        private static final int MOST = World.MOST_BEASTS;
        private static final int AGE_LENT_GOES = 3;
        private static final int AGE_LATE_IS_FOUND = 2;

        int days = 0;
        private final int[] ribbons = new int[MOST];
        private final int[] ages = new int[MOST];
        private final int[] escapes = new int[MOST];

        void clear() {
            days = 0;
            for (int b = 0; b < MOST; b++) {
                ribbons[b] = 0;
                ages[b] = 0;
                escapes[b] = 0;
            }
        }

        void copyFrom(State other) {
            days = other.days;
            for (int b = 0; b < MOST; b++) {
                ribbons[b] = other.ribbons[b];
                ages[b] = other.ages[b];
                escapes[b] = other.escapes[b];
            }
        }

        boolean isBound(int b) {
            return ribbonOf(b) != 0;
        }

        int ribbonOf(int b) {
            return b >= 0 && b < MOST ? ribbons[b] : 0;
        }

        int ageOf(int b) {
            return b >= 0 && b < MOST ? ages[b] : 0;
        }

        int escapesOf(int b) {
            return b >= 0 && b < MOST ? escapes[b] : 0;
        }

        void tie(int b, int set) {
            if (b >= 0 && b < MOST) {
                ribbons[b] = set;
                ages[b] = 0;
            }
        }

        void untie(int b) {
            tie(b, 0);
        }

        int beastWith(int t) {
            for (int b = 0; b < MOST; b++) {
                if ((ribbons[b] >> t & 1) == 1) {
                    return b;
                }
            }
            return NONE;
        }

        int gone() {
            int gone = 0;
            for (int b = 0; b < MOST; b++) {
                gone |= ribbons[b];
            }
            return gone;
        }

        int found(int lateThings) {
            int found = 0;
            for (int b = 0; b < MOST; b++) {
                boolean hidesLate = ages[b] < AGE_LATE_IS_FOUND;
                found |= hidesLate ? ribbons[b] & ~lateThings : ribbons[b];
            }
            return found;
        }

        /** How many escaped. */
        int passDay(World world, Tables tables) {
            int escaped = 0;
            days++;
            for (int b = 0; b < MOST; b++) {
                if (ribbons[b] == 0) {
                    continue;
                }
                ages[b]++;
                if (ages[b] != AGE_LENT_GOES) {
                    continue;
                }
                ribbons[b] &= ~world.lentThings;
                if (tables.strengthOf(ribbons[b]) < world.pullOfBeast(b)) {
                    untie(b);
                    escapes[b]++;
                    escaped++;
                }
            }
            return escaped;
        }
    }

    /** States laid one upon the other; the oldest makes room for one too many. */
    private static final class Pile {
        private final State[] states;
        private int height = 0;

        Pile(int room) {
            states = new State[Math.max(1, room)];
            for (int i = 0; i < states.length; i++) {
                states[i] = new State();
            }
        }

        int size() {
            return height;
        }

        void clear() {
            height = 0;
        }

        void push(State state) {
            if (height >= states.length) {
                forgetOldest();
            }
            if (height >= 0 && height < states.length && states[height] != null) {
                states[height].copyFrom(state);
                height++;
            }
        }

        private void forgetOldest() {
            if (states.length < 1) {
                return;
            }
            State oldest = states[0];
            for (int i = 1; i < states.length; i++) {
                states[i - 1] = states[i];
            }
            states[states.length - 1] = oldest;
            height = states.length - 1;
        }

        /** false: there is none. */
        boolean popInto(State state) {
            int top = height - 1;
            if (top < 0 || top >= states.length || states[top] == null) {
                return false;
            }
            state.copyFrom(states[top]);
            height = top;
            return true;
        }
    }

    /** Which ribbons are best: for one beast, for all, as many as can be. */
    private static final class Planner {
        private static final int MOST_SETS = Tables.MOST_SETS;
        private static final int MOST_BEASTS = World.MOST_BEASTS;

        int leastRibbon = 0;
        int leastCost = 0;
        int allUsed = 0;
        int allCost = 0;
        private final Tables tables;
        private final int[] allRibbons = new int[MOST_BEASTS];
        private final int[] looseBeasts = new int[MOST_BEASTS];
        private final int[] loosePulls = new int[MOST_BEASTS];
        private final int[] pullsFrom = new int[MOST_BEASTS + 1];
        /** Bit j: the loose beasts from the j-th on can be held out of the set. */
        private final int[] holds = new int[MOST_SETS];
        private final int[] most = new int[MOST_SETS];
        private int loose = 0;

        Planner(Tables tables) {
            this.tables = tables;
        }

        boolean findLeast(int pull, int gone) {
            int there = tables.thereBesides(gone);
            boolean any = false;
            for (int set = 1; set < tables.size; set++) {
                if ((set & ~there) != 0 || tables.strengthOf(set) < pull) {
                    continue;
                }
                int cost = tables.costOf(set, gone);
                if (!any || isBetter(cost, set, leastCost, leastRibbon)) {
                    any = true;
                    leastCost = cost;
                    leastRibbon = set;
                }
            }
            return any;
        }

        /** Sets come from the lowest up: of two alike the one before stays. */
        private static boolean isBetter(int cost, int set, int costBefore, int setBefore) {
            if (cost != costBefore) {
                return cost < costBefore;
            }
            return Integer.bitCount(set) < Integer.bitCount(setBefore);
        }

        int ribbonInAll(int b) {
            return b >= 0 && b < MOST_BEASTS ? allRibbons[b] : 0;
        }

        boolean findAll(World world, State state) {
            listLoose(world, state);
            int gone = state.gone();
            int there = tables.thereBesides(gone);
            boolean any = false;
            for (int set = 0; set < tables.size && set < MOST_SETS; set++) {
                if ((set & ~there) != 0) {
                    continue;
                }
                holds[set] = whoIsHeldBy(set);
                if ((holds[set] & 1) == 0) {
                    continue;
                }
                int cost = tables.costOf(set, gone);
                if (!any || isBetter(cost, set, allCost, allUsed)) {
                    any = true;
                    allCost = cost;
                    allUsed = set;
                }
            }
            if (any) {
                shareOut(allUsed);
            }
            return any;
        }

        private void listLoose(World world, State state) {
            loose = 0;
            for (int b = 0; b < world.beasts && loose < MOST_BEASTS; b++) {
                if (!state.isBound(b)) {
                    looseBeasts[loose] = b;
                    loosePulls[loose] = world.pullOfBeast(b);
                    loose++;
                }
            }
            int sum = 0;
            for (int j = MOST_BEASTS; j >= 0; j--) {
                sum += j < loose && j < MOST_BEASTS ? loosePulls[j] : 0;
                pullsFrom[j] = sum;
            }
        }

        private int whoIsHeldBy(int set) {
            int held = 1 << loose;
            for (int j = loose - 1; j >= 0; j--) {
                if (canHoldFrom(j, set)) {
                    held |= 1 << j;
                }
            }
            return held;
        }

        /** Parting a set never makes it stronger, so the pulls together are a bound. */
        private boolean canHoldFrom(int j, int set) {
            if (j < 0 || j > MOST_BEASTS || tables.strengthOf(set) < pullsFrom[j]) {
                return false;
            }
            return smallerHoldsFrom(j, set) || lowestRibbon(j, set) != 0;
        }

        private boolean smallerHoldsFrom(int j, int set) {
            for (int left = set; left > 0; left &= left - 1) {
                if (isHeldFrom(j, set ^ left & -left)) {
                    return true;
                }
            }
            return false;
        }

        private boolean isHeldFrom(int j, int set) {
            return set >= 0 && set < MOST_SETS && (holds[set] >> j & 1) == 1;
        }

        /** For the j-th loose beast, leaving enough for those behind it; 0: none. */
        private int lowestRibbon(int j, int set) {
            int pull = j >= 0 && j < MOST_BEASTS ? loosePulls[j] : 0;
            int lowest = 0;
            for (int ribbon = set; ribbon > 0; ribbon = ribbon - 1 & set) {
                if (tables.strengthOf(ribbon) >= pull && isHeldFrom(j + 1, set ^ ribbon)) {
                    lowest = ribbon;
                }
            }
            return lowest;
        }

        private void shareOut(int used) {
            for (int b = 0; b < MOST_BEASTS; b++) {
                allRibbons[b] = 0;
            }
            int left = used;
            for (int j = 0; j < loose && j < MOST_BEASTS; j++) {
                int b = looseBeasts[j];
                int ribbon = lowestRibbon(j, left);
                if (b >= 0 && b < MOST_BEASTS) {
                    allRibbons[b] = ribbon;
                }
                left ^= ribbon;
            }
        }

        int mostBound(int pull, int there) {
            for (int set = 0; set < tables.size && set < MOST_SETS; set++) {
                if ((set & ~there) == 0) {
                    most[set] = mostOutOf(set, pull);
                }
            }
            return mostKnown(there);
        }

        /** Its lowest thing is in no ribbon, or in one with some of the others. */
        private int mostOutOf(int set, int pull) {
            int lowest = set & -set;
            int others = set ^ lowest;
            if (set == 0 || pull < 1) {
                return 0;
            }
            int best = mostKnown(others);
            int bound = Math.min(best + 1, tables.strengthOf(set) / pull);
            for (int with = others; with >= 0 && best < bound; with = with == 0 ? -1 : with - 1 & others) {
                if (tables.strengthOf(with | lowest) >= pull) {
                    best = Math.max(best, 1 + mostKnown(others ^ with));
                }
            }
            return best;
        }

        private int mostKnown(int set) {
            return set >= 0 && set < MOST_SETS ? most[set] : 0;
        }
    }

    /** A row of exchanges by which more comes back than is given away. */
    private static final class GainSearch {
        private static final int MOST = World.MOST_EXCHANGES;

        int length = 0;
        private final int[] path = new int[MOST];
        private int above = 1;
        private int below = 1;

        /** The shortest first, then by exchanges from the lowest up. */
        boolean find(World world) {
            for (int wanted = 2; wanted <= world.exchanges; wanted++) {
                length = wanted;
                if (extend(this, world, 0, 0)) {
                    return true;
                }
            }
            return false;
        }

        private static boolean extend(GainSearch search, World world, int depth, int used) {
            if (depth < 0 || depth >= MOST || depth >= search.length) {
                return depth == search.length && search.isGain(world);
            }
            for (int e = 0; e < world.exchanges; e++) {
                boolean isUsed = (used >> e & 1) == 1;
                if (isUsed || depth > 0 && world.givenBy(search.exchangeAt(depth - 1)) != world.takenBy(e)) {
                    continue;
                }
                search.path[depth] = e;
                if (extend(search, world, depth + 1, used | 1 << e)) {
                    return true;
                }
            }
            return false;
        }

        private boolean isGain(World world) {
            int last = exchangeAt(length - 1);
            if (world.givenBy(last) != world.takenBy(path[0])) {
                return false;
            }
            above = 1;
            below = 1;
            for (int i = 0; i < length && i < MOST; i++) {
                above *= world.givenMuchBy(path[i]);
                below *= world.takenMuchBy(path[i]);
            }
            return above > below;
        }

        int above() {
            return (int) (above / commonDivisor(above, below));
        }

        int below() {
            return (int) (below / commonDivisor(above, below));
        }

        int exchangeAt(int k) {
            return k >= 0 && k < length && k < MOST ? path[k] : NONE;
        }
    }
}
