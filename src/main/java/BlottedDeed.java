import java.util.Arrays;
import java.util.NoSuchElementException;

/**
 * A deed with blots in it: what can stand under them, so that it adds up and is lawful, and what
 * follows from that for the heirs and the things. README.md tells how to use it.
 */
public final class BlottedDeed {
    public static final int NONE = -1;

    private static final int TAPE_BYTES = 600;
    private static final int CLAUSES = 40;
    private static final int HEIRS = 4;
    private static final int THINGS = 5;
    private static final int PARTS = 9;
    private static final int PLACES_OF_PART = 4;
    private static final int BLOTS = 8;
    private static final int ROWS = 20000;
    private static final int LETTERS = 9;
    private static final int NUMS = 100;
    private static final int COINS = 1000;
    private static final int COPIES = 12;
    private static final int HABITS = 8;
    private static final int HANDS = 4;
    private static final int SIXTEEN = 16;
    private static final int IMAGES = 3;
    private static final int MIDDLE_OF = 400;

    private static final int NUM = 0;
    private static final int HEIR = 1;
    private static final int IS = 2;

    private static final int LAW_SUM = 1;
    private static final int LAW_ONE_HEIR = 2;
    private static final int LAW_LEAST = 4;
    private static final int LAWS = 3;

    private static final int NO_INDEX = 0;
    private static final int NO_ELEMENT = 1;
    private static final int NO_ARGUMENT = 2;

    private final int[] tape;
    private int fed;
    private final Scribe scribe;
    private Deed standing;
    private Deed draft;
    private final Table table;
    private final Anew anew;
    private final Scales scales;
    private final Testimony testimony;
    private final Testimony[] images;
    private int kept;
    private int faultPlace;
    private final int[] refused;

    public BlottedDeed() {
        tape = new int[TAPE_BYTES];
        standing = new Deed();
        draft = new Deed();
        scribe = new Scribe(tape, draft);
        table = new Table(standing);
        anew = new Anew(standing);
        scales = new Scales();
        testimony = new Testimony();
        images = new Testimony[IMAGES];
        for (int i = 0; i < IMAGES; i++) {
            images[i] = new Testimony();
        }
        faultPlace = NONE;
        refused = new int[3];
    }

    public int feed(int a, int b, int c, int d, int e) {
        if (fed + 20 > TAPE_BYTES) {
            return NONE;
        }
        putBytes(a);
        putBytes(b);
        putBytes(c);
        putBytes(d);
        putBytes(e);
        return fed;
    }

    private void putBytes(int four) {
        for (int shift = 24; shift >= 0 && fed < TAPE_BYTES; shift -= 8) {
            tape[fed] = four >>> shift & 255;
            fed++;
        }
    }

    public int deed(int n) throws IllegalArgumentException {
        needArgument(n >= 0 && n <= fed);
        fed = 0;
        if (!scribe.copyOut(draft, n)) {
            faultPlace = scribe.faultPlace;
            return scribe.faultKind - 10;
        }
        faultPlace = NONE;
        Deed old = standing;
        standing = draft;
        draft = old;
        testimony.clear();
        kept = 0;
        table.gather(standing);
        return standing.blots;
    }

    public int fault() {
        return faultPlace;
    }

    public int told(int what) throws IllegalArgumentException {
        needWhat(what, 6);
        switch (what) {
            case 0:
                return standing.heirs;
            case 1:
                return standing.things;
            case 2:
                return standing.parts;
            case 3:
                return standing.blots;
            case 4:
                return standing.estate;
            case 5:
                return standing.places;
            default:
                return standing.rows;
        }
    }

    public int blot(int blot, int what) throws NoSuchElementException, IllegalArgumentException {
        needBlot(blot);
        needWhat(what, 3);
        Blot it = standing.blotAt[blot];
        switch (what) {
            case 0:
                return it.kind;
            case 1:
                return it.width;
            case 2:
                return it.size;
            default:
                return it.part;
        }
    }

    public int candidate(int blot, int i) throws NoSuchElementException {
        needBlot(blot);
        Blot it = standing.blotAt[blot];
        return i >= 0 && i < it.size ? it.values[i] : NONE;
    }

    public int readings() {
        return table.size;
    }

    public int reading(int i, int blot) throws IndexOutOfBoundsException, NoSuchElementException {
        needReading(i);
        needBlot(blot);
        return standing.blotAt[blot].values[table.digit(i, blot)];
    }

    public int alive(int blot) throws NoSuchElementException {
        needBlot(blot);
        return table.aliveUnder(blot);
    }

    public int bars() {
        return table.barring();
    }

    public int gets(int i, int heir, int what) throws IndexOutOfBoundsException, IllegalArgumentException {
        needReading(i);
        needHeir(heir);
        needWhat(what, 1);
        return what == 0 ? table.coinOf(i, heir) : table.worthOf(i, heir);
    }

    public int goes(int i, int thing) throws IndexOutOfBoundsException {
        needReading(i);
        needThing(thing);
        return table.ownerOf(i, thing);
    }

    public int often(int thing, int heir) throws IndexOutOfBoundsException {
        needThing(thing);
        needHeir(heir);
        return table.timesOwned(thing, heir);
    }

    public boolean sure(int thing, int heir) throws IndexOutOfBoundsException {
        needThing(thing);
        needHeir(heir);
        return table.size > 0 && table.timesOwned(thing, heir) == table.size;
    }

    public int coin(int heir, int what) throws IndexOutOfBoundsException, IllegalArgumentException {
        needHeir(heir);
        needWhat(what, 1);
        return what == 0 ? table.leastCoin(heir) : table.mostCoin(heir);
    }

    public int worth(int heir, int what) throws IndexOutOfBoundsException, IllegalArgumentException {
        needHeir(heir);
        needWhat(what, 3);
        int at = what == 0 || what == 2 ? table.bestFor(heir) : table.worstFor(heir);
        return what < 2 && at != NONE ? table.worthOf(at, heir) : at;
    }

    public int cleaned(int blot) throws NoSuchElementException {
        needBlot(blot);
        return table.mostLeft(blot, 0L, 0L);
    }

    public int settles() {
        return table.cleanNext(0L, 0L);
    }

    public int fewest(int thing, int what) throws IndexOutOfBoundsException, IllegalArgumentException {
        needThing(thing);
        needWhat(what, 1);
        int set = table.fewestToKnow(thing);
        return what == 0 ? Integer.bitCount(set) : set;
    }

    public int sway(int thing, int blot) throws IndexOutOfBoundsException, NoSuchElementException {
        needThing(thing);
        needBlot(blot);
        return table.swayedBy(thing, blot);
    }

    public int gains(int blot) throws NoSuchElementException {
        needBlot(blot);
        int bits = 0;
        for (int heir = 0; heir < standing.heirs; heir++) {
            if (table.gainsBy(blot, heir)) {
                bits |= 1 << heir;
            }
        }
        return bits;
    }

    public int settlement(int heir) throws IndexOutOfBoundsException {
        needHeir(heir);
        if (table.size == 0 || standing.heirs == 0) {
            return NONE;
        }
        int left = table.allThereIs();
        for (int h = 0; h < standing.heirs; h++) {
            left -= table.worthOf(table.worstFor(h), h);
        }
        if (left < 0) {
            return NONE;
        }
        int share = left / standing.heirs + (heir < left % standing.heirs ? 1 : 0);
        return table.worthOf(table.worstFor(heir), heir) + share;
    }

    public int copy(int hand, int blot, int tells) throws NoSuchElementException, IllegalArgumentException {
        needBlot(blot);
        needArgument(isHand(hand) && standing.canBeTold(blot, tells));
        return testimony.addCopy(hand, blot, tells);
    }

    public int habit(int hand, int x, int y, int p) throws IllegalArgumentException {
        needArgument(isHand(hand) && isNum(x) && isNum(y) && x != y && p >= 1 && p < SIXTEEN);
        return testimony.addHabit(hand, x, y, p);
    }

    public int forget() {
        int gone = testimony.copies + testimony.habits;
        testimony.clear();
        return gone;
    }

    public long odds(int i) throws IndexOutOfBoundsException {
        needReading(i);
        scales.weigh(standing, testimony);
        return scales.oddsOf(table.marks[i]);
    }

    public long likely(int thing, int heir, int what) throws IndexOutOfBoundsException, IllegalArgumentException {
        needThing(thing);
        needHeir(heir);
        needWhat(what, 1);
        scales.weigh(standing, testimony);
        long all = 0;
        long his = 0;
        for (int i = 0; i < table.size; i++) {
            long odds = scales.oddsOf(table.marks[i]);
            all += odds;
            if (table.ownerOf(i, thing) == heir) {
                his += odds;
            }
        }
        if (all <= 0) {
            return what;
        }
        long shared = commonDivisor(all, his);
        return shared > 0 ? (what == 0 ? his : all) / shared : what;
    }

    public int likeliest() {
        scales.weigh(standing, testimony);
        int found = NONE;
        long most = 0;
        for (int i = 0; i < table.size; i++) {
            long odds = scales.oddsOf(table.marks[i]);
            if (odds > most) {
                most = odds;
                found = i;
            }
        }
        return found;
    }

    public int slips(int what) throws IllegalArgumentException {
        needWhat(what, 1);
        scales.weigh(standing, testimony);
        int found = NONE;
        int least = NONE;
        for (int i = 0; i < table.size; i++) {
            int slips = scales.slipsOf(table.marks[i]);
            if (found == NONE || slips < least) {
                least = slips;
                found = i;
            }
        }
        return what == 0 ? least : found;
    }

    public int more(int place, int what) throws IndexOutOfBoundsException, IllegalArgumentException {
        needIndex(place, standing.places);
        needWhat(what, 2);
        if (table.size == 0) {
            return NONE;
        }
        anew.clean(standing, table.marks[0]);
        if (what == 0) {
            return anew.standsAt(place);
        }
        return what == 1 ? anew.candidatesAt(place) : anew.readingsAt(place);
    }

    public int weak(int thing) throws IndexOutOfBoundsException {
        needThing(thing);
        if (table.size == 0) {
            return NONE;
        }
        anew.clean(standing, table.marks[0]);
        int weak = 0;
        for (int place = 0; place < standing.places; place++) {
            if (anew.isWeak(place, thing)) {
                weak++;
            }
        }
        return weak;
    }

    public int holding(int blot, int candidate) throws NoSuchElementException {
        needBlot(blot);
        int digit = standing.blotAt[blot].digitOf(candidate);
        return digit == NONE ? NONE : table.holdingDigit(blot, digit);
    }

    public int struck(int part) throws IndexOutOfBoundsException {
        needIndex(part, standing.parts);
        return table.lawfulWithout(part);
    }

    public int apart(int i, int j) throws IndexOutOfBoundsException {
        needReading(i);
        needReading(j);
        return table.distance(i, j);
    }

    public int middle(int what) throws IllegalArgumentException {
        needWhat(what, 1);
        int at = table.middleReading();
        return what == 0 || at == NONE ? at : table.farthestFrom(at);
    }

    public int when(int thing, int heir, int other, int what)
            throws IndexOutOfBoundsException, IllegalArgumentException {
        needThing(thing);
        needHeir(heir);
        needHeir(other);
        needWhat(what, 1);
        int found = NONE;
        for (int i = 0; i < table.size; i++) {
            if (table.ownerOf(i, thing) == heir) {
                int coin = table.coinOf(i, other);
                if (found == NONE || (what == 0 ? coin < found : coin > found)) {
                    found = coin;
                }
            }
        }
        return found;
    }

    public int steps(int i, int thing, int what) throws IndexOutOfBoundsException, IllegalArgumentException {
        needReading(i);
        needThing(thing);
        needWhat(what, BLOTS);
        int many = table.walk(i, thing);
        if (what == 0) {
            return many;
        }
        return what <= many ? table.path[what - 1] : NONE;
    }

    public int pairs(int thing, int other) throws IndexOutOfBoundsException, IllegalArgumentException {
        needThing(thing);
        needThing(other);
        needArgument(thing != other);
        int many = 0;
        for (int i = 0; i < table.size; i++) {
            int owner = table.ownerOf(i, thing);
            if (owner != NONE && owner == table.ownerOf(i, other)) {
                many++;
            }
        }
        return many;
    }

    public int rows(int estate) throws IllegalArgumentException {
        needArgument(estate >= 0 && estate < COINS);
        return table.rowsOfSum[estate];
    }

    public int bare() {
        if (table.size == 0) {
            return 0;
        }
        int bits = 0;
        for (int heir = 0; heir < standing.heirs; heir++) {
            if (!table.everOwns(heir)) {
                bits |= 1 << heir;
            }
        }
        return bits;
    }

    public int image() {
        if (kept >= IMAGES) {
            return -1;
        }
        images[kept].takeFrom(testimony);
        kept++;
        return kept;
    }

    public int restore() {
        if (kept <= 0) {
            return -1;
        }
        kept--;
        testimony.takeFrom(images[kept]);
        return kept;
    }

    public int status(int what) {
        return what >= 0 && what < refused.length ? refused[what] : NONE;
    }

    public int count(int what) {
        switch (what) {
            case 0:
                return testimony.copies;
            case 1:
                return testimony.habits;
            case 2:
                return kept;
            case 3:
                return fed;
            default:
                return NONE;
        }
    }

    private void needIndex(int index, int size) {
        if (index < 0 || index >= size) {
            refused[NO_INDEX]++;
            throw new IndexOutOfBoundsException("none such");
        }
    }

    private void needReading(int i) {
        needIndex(i, table.size);
    }

    private void needHeir(int heir) {
        needIndex(heir, standing.heirs);
    }

    private void needThing(int thing) {
        needIndex(thing, standing.things);
    }

    private void needBlot(int blot) {
        if (blot < 0 || blot >= standing.blots) {
            refused[NO_ELEMENT]++;
            throw new NoSuchElementException("no such blot");
        }
    }

    private void needArgument(boolean right) {
        if (!right) {
            refused[NO_ARGUMENT]++;
            throw new IllegalArgumentException("not such an argument");
        }
    }

    private void needWhat(int what, int last) {
        needArgument(what >= 0 && what <= last);
    }

    private static boolean isHand(int hand) {
        return hand >= 0 && hand < HANDS;
    }

    private static boolean isNum(int number) {
        return number >= 0 && number < NUMS;
    }

    private static long commonDivisor(long a, long b) {
        // Euclid on 63 bits needs fewer than a hundred turns.
        for (int turn = 0; turn < 200 && b != 0; turn++) {
            long rest = a % b;
            a = b;
            b = rest;
        }
        return a;
    }

    /** The words by which clauses begin. */
    private enum Verb {
        HEIR("heir"), THING("thing"), ESTATE("estate"), LEAST("least"),
        COIN("coin"), WILL("will"), WHEN("when");

        final String word;

        Verb(String word) {
            this.word = word;
        }

        boolean isPart() {
            return this == COIN || this == WILL || this == WHEN;
        }
    }

    /** A coin, will or when clause; place is the number of its first place. */
    private static final class Part {
        Verb verb = Verb.COIN;
        int thing;
        int place;
    }

    /** What may stand at one place. */
    private static final class Blot {
        final int[] values = new int[NUMS];
        int size;
        int kind;
        int width;
        int part;
        int place;

        void addValues(int from, int to) {
            for (int value = from; value <= to && size < values.length; value++) {
                values[size] = value;
                size++;
            }
        }

        int digitOf(int value) {
            for (int digit = 0; digit < size; digit++) {
                if (values[digit] == value) {
                    return digit;
                }
            }
            return NONE;
        }
    }

    /** What the text of a deed tells. */
    private static final class Deed {
        final long[] heirName = new long[HEIRS];
        final int[] heirWidth = new int[HEIRS];
        final int[] least = new int[HEIRS];
        final long[] thingName = new long[THINGS];
        final int[] thingWorth = new int[THINGS];
        final Part[] partAt = new Part[PARTS];
        final int[] placeKind = new int[PARTS * PLACES_OF_PART];
        final int[] placeValue = new int[PARTS * PLACES_OF_PART];
        final Blot[] blotAt = new Blot[BLOTS];
        int heirs;
        int things;
        int parts;
        int places;
        int blots;
        int estate;
        int rows = 1;

        Deed() {
            for (int i = 0; i < PARTS; i++) {
                partAt[i] = new Part();
            }
            for (int i = 0; i < BLOTS; i++) {
                blotAt[i] = new Blot();
            }
        }

        void clear() {
            heirs = 0;
            things = 0;
            parts = 0;
            places = 0;
            blots = 0;
            estate = 0;
            rows = 1;
        }

        boolean isFull(Verb verb) {
            if (verb == Verb.HEIR) {
                return heirs >= HEIRS;
            }
            if (verb == Verb.THING) {
                return things >= THINGS;
            }
            return verb.isPart() && parts >= PARTS;
        }

        int heirNamed(long name) {
            for (int heir = 0; heir < heirs; heir++) {
                if (heirName[heir] == name) {
                    return heir;
                }
            }
            return NONE;
        }

        int thingNamed(long name) {
            for (int thing = 0; thing < things; thing++) {
                if (thingName[thing] == name) {
                    return thing;
                }
            }
            return NONE;
        }

        void addHeir(long name, int width) {
            if (heirs < HEIRS) {
                heirName[heirs] = name;
                heirWidth[heirs] = width;
                least[heirs] = 0;
                heirs++;
            }
        }

        void addThing(long name, int worth) {
            if (things < THINGS) {
                thingName[things] = name;
                thingWorth[things] = worth;
                things++;
            }
        }

        void addPart(Verb verb) {
            if (parts < PARTS) {
                partAt[parts].verb = verb;
                partAt[parts].place = places;
                parts++;
            }
        }

        void nameThing(int thing) {
            if (parts > 0) {
                partAt[parts - 1].thing = thing;
            }
        }

        void addPlace(int kind, int value) {
            if (places < placeKind.length) {
                placeKind[places] = kind;
                placeValue[places] = value;
                places++;
            }
        }

        /** Gives a blot its candidates, among the heirs told so far. */
        void fill(Blot blot, int kind, int width) {
            blot.kind = kind;
            blot.width = width;
            blot.size = 0;
            if (kind == HEIR) {
                for (int heir = 0; heir < heirs; heir++) {
                    if (width == 0 || width == heirWidth[heir]) {
                        blot.addValues(heir, heir);
                    }
                }
            } else if (kind == NUM && width <= 2) {
                blot.addValues(width == 2 ? 10 : 0, width == 1 ? 9 : 99);
            } else if (kind == IS && (width == 0 || width == 2 || width == 3)) {
                blot.addValues(width == 3 ? 1 : 0, width == 2 ? 0 : 1);
            }
        }

        /** Whether the blot that was filled last has candidates, so that it stands at the next place. */
        boolean keepBlot() {
            if (blots >= BLOTS || blotAt[blots].size == 0) {
                return false;
            }
            Blot blot = blotAt[blots];
            blot.part = parts - 1;
            blot.place = places;
            blots++;
            addPlace(blot.kind, blot.values[0]);
            return true;
        }

        /** Whether the rows are few enough; they are counted then. */
        boolean countRows() {
            long many = 1;
            for (int b = 0; b < blots; b++) {
                many *= blotAt[b].size;
            }
            rows = many <= ROWS ? (int) many : 0;
            return many <= ROWS;
        }

        int widthOf(int kind, int value) {
            if (kind == NUM) {
                return value < 10 ? 1 : 2;
            }
            if (kind == IS) {
                return value == 0 ? 2 : 3;
            }
            return value >= 0 && value < heirs ? heirWidth[value] : 0;
        }

        boolean canBeTold(int blot, int tells) {
            int kind = blotAt[blot].kind;
            int bound = kind == NUM ? NUMS : kind == HEIR ? heirs : 2;
            return tells >= 0 && tells < bound;
        }
    }

    /** Reads a text into a deed, and finds its first fault. */
    private static final class Scribe {
        private static final Verb[] VERBS = Verb.values();

        private final int[] text;
        private int length;
        private int at;
        private int wordStart;
        private long wordCode;
        private Deed deed;
        int faultKind;
        int faultPlace;

        Scribe(int[] text, Deed deed) {
            this.text = text;
            this.deed = deed;
        }

        /** Whether the first bytes of the text are a deed without a fault. */
        boolean copyOut(Deed into, int bytes) {
            deed = into;
            deed.clear();
            length = bytes;
            at = 0;
            for (int clauses = 0; clauses <= CLAUSES; clauses++) {
                skipBlanks();
                if (at >= length) {
                    break;
                }
                Verb verb = readVerb(clauses);
                if (verb == null || !readBody(verb) || !readEnd()) {
                    return false;
                }
            }
            return deed.countRows() || fail(4, length);
        }

        private boolean fail(int kind, int place) {
            faultKind = kind;
            faultPlace = place;
            return false;
        }

        private void skipBlanks() {
            while (at < length && text[at] == ' ') {
                at++;
            }
        }

        private boolean standsHere(char sign) {
            return at < length && text[at] == sign;
        }

        /** The word by which a clause begins, or null behind a fault. */
        private Verb readVerb(int clausesAhead) {
            if (!readWord()) {
                return null;
            }
            Verb verb = verbRead();
            if (verb == null) {
                fail(1, wordStart);
                return null;
            }
            if (clausesAhead >= CLAUSES || deed.isFull(verb)) {
                fail(3, wordStart);
                return null;
            }
            return verb;
        }

        private boolean readBody(Verb verb) {
            if (verb == Verb.HEIR) {
                return readNewHeir();
            }
            if (verb == Verb.THING) {
                return readNewThing();
            }
            if (verb == Verb.ESTATE) {
                return readEstate();
            }
            if (verb == Verb.LEAST) {
                return readLeast();
            }
            deed.addPart(verb);
            if (verb == Verb.COIN) {
                return readPlace(HEIR) && readPlace(NUM);
            }
            if (verb == Verb.WILL) {
                return readThing() && readPlace(HEIR);
            }
            return readPlace(IS) && readPlace(HEIR) && readThing() && readPlace(HEIR) && readPlace(NUM);
        }

        private boolean readEnd() {
            skipBlanks();
            if (!standsHere(';')) {
                return fail(1, at);
            }
            at++;
            return true;
        }

        private boolean readNewHeir() {
            if (!readNewName()) {
                return false;
            }
            deed.addHeir(wordCode, at - wordStart);
            return true;
        }

        private boolean readNewThing() {
            if (!readNewName()) {
                return false;
            }
            long name = wordCode;
            int worth = readNumber(NUMS - 1);
            if (worth == NONE) {
                return false;
            }
            deed.addThing(name, worth);
            return true;
        }

        private boolean readEstate() {
            int estate = readNumber(COINS - 1);
            if (estate == NONE) {
                return false;
            }
            deed.estate = estate;
            return true;
        }

        private boolean readLeast() {
            int heir = readHeir();
            if (heir == NONE) {
                return false;
            }
            int least = readNumber(COINS - 1);
            if (least == NONE) {
                return false;
            }
            deed.least[heir] = least;
            return true;
        }

        private boolean readPlace(int kind) {
            skipBlanks();
            if (standsHere('#')) {
                return readBlot(kind);
            }
            int value = kind == NUM ? readNumber(NUMS - 1) : kind == HEIR ? readHeir() : readIs();
            if (value == NONE) {
                return false;
            }
            deed.addPlace(kind, value);
            return true;
        }

        private boolean readBlot(int kind) {
            if (deed.blots >= BLOTS) {
                return fail(3, at);
            }
            at++;
            skipBlanks();
            int start = at;
            int width = readNumber(9);
            if (width == NONE) {
                return false;
            }
            deed.fill(deed.blotAt[deed.blots], kind, width);
            return deed.keepBlot() || fail(2, start);
        }

        private boolean readWord() {
            skipBlanks();
            wordStart = at;
            wordCode = 0;
            while (at < length && text[at] >= 'a' && text[at] <= 'z') {
                // A word of more letters than a name has is none, so its code need not be its own.
                if (at - wordStart < LETTERS) {
                    wordCode = wordCode * 27 + (text[at] - 'a' + 1);
                }
                at++;
            }
            return at > wordStart || fail(1, at);
        }

        private boolean isWord(String word) {
            if (at - wordStart != word.length()) {
                return false;
            }
            for (int i = 0; i < word.length(); i++) {
                if (text[wordStart + i] != word.charAt(i)) {
                    return false;
                }
            }
            return true;
        }

        private Verb verbRead() {
            for (int i = 0; i < VERBS.length; i++) {
                if (isWord(VERBS[i].word)) {
                    return VERBS[i];
                }
            }
            return null;
        }

        private boolean isTooLong() {
            return at - wordStart > LETTERS;
        }

        private boolean readNewName() {
            if (!readWord()) {
                return false;
            }
            boolean told = deed.heirNamed(wordCode) != NONE || deed.thingNamed(wordCode) != NONE;
            return !isTooLong() && !told || fail(2, wordStart);
        }

        /** The number of the heir named here, or NONE behind a fault. */
        private int readHeir() {
            if (!readWord()) {
                return NONE;
            }
            int heir = isTooLong() ? NONE : deed.heirNamed(wordCode);
            if (heir == NONE) {
                fail(2, wordStart);
            }
            return heir;
        }

        private boolean readThing() {
            if (!readWord()) {
                return false;
            }
            int thing = isTooLong() ? NONE : deed.thingNamed(wordCode);
            if (thing == NONE) {
                return fail(2, wordStart);
            }
            deed.nameThing(thing);
            return true;
        }

        private int readIs() {
            if (!readWord()) {
                return NONE;
            }
            if (isWord("is")) {
                return 0;
            }
            if (isWord("not")) {
                return 1;
            }
            fail(2, wordStart);
            return NONE;
        }

        /** The number that stands here, or NONE behind a fault. */
        private int readNumber(int most) {
            skipBlanks();
            int start = at;
            int value = 0;
            while (at < length && text[at] >= '0' && text[at] <= '9') {
                value = Math.min(value * 10 + text[at] - '0', COINS);
                at++;
            }
            if (at == start) {
                fail(1, start);
                return NONE;
            }
            if (value > most) {
                fail(2, start);
                return NONE;
            }
            return value;
        }
    }

    /** What stands at the places, and who has what by that. */
    private static final class Row {
        final int[] value = new int[PARTS * PLACES_OF_PART];
        final int[] digit = new int[BLOTS];
        final int[] coin = new int[HEIRS];
        final int[] owner = new int[THINGS];
        int sum;
        boolean willedTwice;

        void showFirst(Deed deed) {
            System.arraycopy(deed.placeValue, 0, value, 0, deed.places);
            Arrays.fill(digit, 0);
        }

        void show(Deed deed, long marks) {
            System.arraycopy(deed.placeValue, 0, value, 0, deed.places);
            for (int b = 0; b < deed.blots; b++) {
                put(deed, b, digitIn(marks, b));
            }
        }

        private void put(Deed deed, int b, int to) {
            Blot blot = deed.blotAt[b];
            if (to < blot.size) {
                digit[b] = to;
                value[blot.place] = blot.values[to];
            }
        }

        /** The next row in order; behind the last the first. */
        void showNext(Deed deed) {
            for (int b = deed.blots - 1; b >= 0; b--) {
                if (digit[b] + 1 < deed.blotAt[b].size) {
                    put(deed, b, digit[b] + 1);
                    return;
                }
                put(deed, b, 0);
            }
        }

        /** Finds who has what, as if the part struck (or NONE) said nothing. */
        void reckon(Deed deed, int struck) {
            Arrays.fill(coin, 0);
            Arrays.fill(owner, NONE);
            sum = 0;
            willedTwice = false;
            // Conditions look at all wills, also at those behind them, so the wills come first.
            for (int p = 0; p < deed.parts; p++) {
                if (p != struck && deed.partAt[p].verb == Verb.WILL) {
                    will(deed.partAt[p]);
                }
            }
            for (int p = 0; p < deed.parts; p++) {
                if (p != struck && deed.partAt[p].verb != Verb.WILL) {
                    pay(deed.partAt[p]);
                }
            }
        }

        private void will(Part part) {
            int heir = value[part.place];
            if (owner[part.thing] == NONE) {
                owner[part.thing] = heir;
            } else if (owner[part.thing] != heir) {
                willedTwice = true;
            }
        }

        private void pay(Part part) {
            int at = part.place;
            if (part.verb == Verb.WHEN) {
                boolean has = owner[part.thing] == value[at + 1];
                if (has != (value[at] == 0)) {
                    return;
                }
                at += 2;
            }
            coin[value[at]] += value[at + 1];
            sum += value[at + 1];
        }

        /** The laws that do not hold, as bits. */
        int broken(Deed deed) {
            int bits = (sum == deed.estate ? 0 : LAW_SUM) | (willedTwice ? LAW_ONE_HEIR : 0);
            for (int heir = 0; heir < deed.heirs; heir++) {
                if (coin[heir] < deed.least[heir]) {
                    bits |= LAW_LEAST;
                }
            }
            return bits;
        }

        /** The digits of all blots, a byte each. */
        long marks(int blots) {
            long packed = 0;
            for (int b = 0; b < blots; b++) {
                packed |= (long) digit[b] << 8 * b;
            }
            return packed;
        }

        static int digitIn(long marks, int blot) {
            return (int) (marks >>> 8 * blot) & 127;
        }

        /** Who has what: ten bits for each heir's coin, behind them three for each thing's owner. */
        long shares() {
            long packed = 0;
            for (int heir = 0; heir < HEIRS; heir++) {
                packed |= (long) coin[heir] << 10 * heir;
            }
            for (int thing = 0; thing < THINGS; thing++) {
                packed |= (long) (owner[thing] + 1) << 10 * HEIRS + 3 * thing;
            }
            return packed;
        }
    }

    /** All readings of a deed, and what can be asked of them. */
    private static final class Table {
        private static final int FIRST_ROOM = 32;
        private static final int MIXED = 7;

        long[] marks = new long[FIRST_ROOM];
        private long[] shares = new long[FIRST_ROOM];
        int size;
        final int[] rowsOfSum = new int[COINS];
        final int[] path = new int[BLOTS];
        private Deed deed;
        private final Row row = new Row();
        private int onlyBroken;
        private final int[] tally = new int[NUMS];
        private final int[] struckRows = new int[PARTS];
        private final int[] fewestSet = new int[THINGS];
        private byte[] group = new byte[FIRST_ROOM];

        Table(Deed deed) {
            this.deed = deed;
            gather(deed);
        }

        void gather(Deed told) {
            deed = told;
            size = 0;
            onlyBroken = 0;
            Arrays.fill(rowsOfSum, 0);
            Arrays.fill(struckRows, NONE);
            Arrays.fill(fewestSet, NONE);
            row.showFirst(deed);
            for (int n = 0; n < deed.rows; n++) {
                row.reckon(deed, NONE);
                note(row.broken(deed));
                row.showNext(deed);
            }
        }

        private void note(int broken) {
            if (broken == 0) {
                keepRow();
            } else if (Integer.bitCount(broken) == 1) {
                onlyBroken |= broken;
            }
            if ((broken & (LAW_ONE_HEIR | LAW_LEAST)) == 0 && row.sum < COINS) {
                rowsOfSum[row.sum]++;
            }
        }

        private void keepRow() {
            if (size >= marks.length) {
                int room = Math.min(marks.length * 2, ROWS);
                marks = Arrays.copyOf(marks, room);
                shares = Arrays.copyOf(shares, room);
            }
            if (size < marks.length) {
                marks[size] = row.marks(deed.blots);
                shares[size] = row.shares();
                size++;
            }
        }

        int barring() {
            if (size > 0) {
                return NONE;
            }
            for (int law = 0; law < LAWS; law++) {
                if ((onlyBroken >> law & 1) == 1) {
                    return law;
                }
            }
            return NONE;
        }

        int digit(int i, int blot) {
            return Row.digitIn(marks[i], blot);
        }

        int coinOf(int i, int heir) {
            return (int) (shares[i] >>> 10 * heir) & 1023;
        }

        int ownerOf(int i, int thing) {
            return ((int) (shares[i] >>> 10 * HEIRS + 3 * thing) & 7) - 1;
        }

        int worthOf(int i, int heir) {
            int worth = coinOf(i, heir);
            for (int thing = 0; thing < deed.things; thing++) {
                if (ownerOf(i, thing) == heir) {
                    worth += deed.thingWorth[thing];
                }
            }
            return worth;
        }

        int timesOwned(int thing, int heir) {
            int many = 0;
            for (int i = 0; i < size; i++) {
                if (ownerOf(i, thing) == heir) {
                    many++;
                }
            }
            return many;
        }

        boolean everOwns(int heir) {
            for (int thing = 0; thing < deed.things; thing++) {
                if (timesOwned(thing, heir) > 0) {
                    return true;
                }
            }
            return false;
        }

        int leastCoin(int heir) {
            int least = NONE;
            for (int i = 0; i < size; i++) {
                int coin = coinOf(i, heir);
                least = least == NONE ? coin : Math.min(least, coin);
            }
            return least;
        }

        int mostCoin(int heir) {
            int most = NONE;
            for (int i = 0; i < size; i++) {
                most = Math.max(most, coinOf(i, heir));
            }
            return most;
        }

        int bestFor(int heir) {
            int found = NONE;
            int best = NONE;
            for (int i = 0; i < size; i++) {
                int worth = worthOf(i, heir);
                if (worth > best) {
                    best = worth;
                    found = i;
                }
            }
            return found;
        }

        int worstFor(int heir) {
            int found = NONE;
            int worst = 0;
            for (int i = 0; i < size; i++) {
                int worth = worthOf(i, heir);
                if (found == NONE || worth < worst) {
                    worst = worth;
                    found = i;
                }
            }
            return found;
        }

        /** The estate and the things that go to somebody by the first reading, which there must be. */
        int allThereIs() {
            int all = deed.estate;
            for (int thing = 0; thing < deed.things; thing++) {
                if (ownerOf(0, thing) != NONE) {
                    all += deed.thingWorth[thing];
                }
            }
            return all;
        }

        /** Counts the digits under a blot by the readings whose masked marks are those shown. */
        private void tallyUp(int blot, long mask, long shown) {
            Arrays.fill(tally, 0);
            for (int i = 0; i < size; i++) {
                if ((marks[i] & mask) == shown) {
                    tally[digit(i, blot)]++;
                }
            }
        }

        int aliveUnder(int blot) {
            tallyUp(blot, 0L, 0L);
            int alive = 0;
            for (int d = 0; d < NUMS; d++) {
                if (tally[d] > 0) {
                    alive++;
                }
            }
            return alive;
        }

        int holdingDigit(int blot, int digit) {
            tallyUp(blot, 0L, 0L);
            return tally[digit];
        }

        int mostLeft(int blot, long mask, long shown) {
            tallyUp(blot, mask, shown);
            int most = 0;
            for (int d = 0; d < NUMS; d++) {
                most = Math.max(most, tally[d]);
            }
            return most;
        }

        /** Which of the blots outside the mask leaves the fewest at most; NONE if there is none. */
        int cleanNext(long mask, long shown) {
            int found = NONE;
            int least = 0;
            for (int b = 0; b < deed.blots; b++) {
                if ((mask & maskOf(b)) == 0) {
                    int left = mostLeft(b, mask, shown);
                    if (found == NONE || left < least) {
                        least = left;
                        found = b;
                    }
                }
            }
            return found;
        }

        private static long maskOf(int blot) {
            return 255L << 8 * blot;
        }

        boolean gainsBy(int blot, int heir) {
            int top = bestFor(heir);
            if (top == NONE) {
                return false;
            }
            Arrays.fill(tally, NONE);
            for (int i = 0; i < size; i++) {
                int d = digit(i, blot);
                tally[d] = Math.max(tally[d], worthOf(i, heir));
            }
            int best = worthOf(top, heir);
            for (int d = 0; d < NUMS; d++) {
                if (tally[d] != NONE && tally[d] < best) {
                    return true;
                }
            }
            return false;
        }

        int fewestToKnow(int thing) {
            if (fewestSet[thing] == NONE) {
                fewestSet[thing] = findFewest(thing);
            }
            return fewestSet[thing];
        }

        private int findFewest(int thing) {
            int all = (1 << deed.blots) - 1;
            // Small sets are nearly always enough, and each set costs a walk through all readings.
            for (int many = 0; many < deed.blots; many++) {
                for (int set = 0; set < all; set++) {
                    if (Integer.bitCount(set) == many && !sortOwners(set, thing)) {
                        return set;
                    }
                }
            }
            return all;
        }

        int swayedBy(int thing, int blot) {
            int others = (1 << deed.blots) - 1 & ~(1 << blot);
            if (!sortOwners(others, thing)) {
                return 0;
            }
            int many = 0;
            for (int i = 0; i < size; i++) {
                if (group[groupOf(i, others)] == MIXED) {
                    many++;
                }
            }
            return many;
        }

        /** Whether readings that are alike under a set of blots have a thing go to unlike ones. */
        private boolean sortOwners(int set, int thing) {
            int groups = groupsBy(set);
            if (group.length < groups) {
                // Groups are never more than rows, so this is room enough.
                group = new byte[Math.min(Math.max(group.length * 2, groups), ROWS)];
            }
            for (int g = 0; g < groups; g++) {
                group[g] = 0;
            }
            boolean mixed = false;
            for (int i = 0; i < size; i++) {
                int g = groupOf(i, set);
                byte owner = (byte) (ownerOf(i, thing) + 2);
                if (group[g] == 0) {
                    group[g] = owner;
                } else if (group[g] != owner) {
                    group[g] = (byte) MIXED;
                    mixed = true;
                }
            }
            return mixed;
        }

        private int groupsBy(int set) {
            int many = 1;
            for (int b = 0; b < deed.blots; b++) {
                if ((set >> b & 1) == 1) {
                    many *= deed.blotAt[b].size;
                }
            }
            return many;
        }

        private int groupOf(int i, int set) {
            int number = 0;
            for (int b = 0; b < deed.blots; b++) {
                if ((set >> b & 1) == 1) {
                    number = number * deed.blotAt[b].size + digit(i, b);
                }
            }
            return number;
        }

        int lawfulWithout(int part) {
            if (struckRows[part] == NONE) {
                struckRows[part] = countWithout(part);
            }
            return struckRows[part];
        }

        private int countWithout(int part) {
            int many = 0;
            row.showFirst(deed);
            for (int n = 0; n < deed.rows; n++) {
                row.reckon(deed, part);
                if (row.broken(deed) == 0) {
                    many++;
                }
                row.showNext(deed);
            }
            return many;
        }

        int distance(int i, int j) {
            // A digit has seven bits of its byte, so a byte that differs carries into its eighth.
            long unlike = (marks[i] ^ marks[j]) + 0x7f7f7f7f7f7f7f7fL;
            return Long.bitCount(unlike & 0x8080808080808080L);
        }

        int farthestFrom(int i) {
            int among = Math.min(size, MIDDLE_OF);
            int far = 0;
            for (int j = 0; j < among; j++) {
                far = Math.max(far, distance(i, j));
            }
            return far;
        }

        int middleReading() {
            int among = Math.min(size, MIDDLE_OF);
            int found = NONE;
            int least = 0;
            for (int i = 0; i < among; i++) {
                int far = farthestFrom(i);
                if (found == NONE || far < least) {
                    least = far;
                    found = i;
                }
            }
            return found;
        }

        /** Cleans blots, noted in path, until it is known to whom a thing goes: how many. */
        int walk(int truth, int thing) {
            long mask = 0;
            int done = 0;
            while (done < deed.blots && done < path.length && !isKnown(thing, mask, marks[truth] & mask)) {
                int next = cleanNext(mask, marks[truth] & mask);
                if (next == NONE) {
                    break;
                }
                path[done] = next;
                mask |= maskOf(next);
                done++;
            }
            return done;
        }

        private boolean isKnown(int thing, long mask, long shown) {
            int first = NONE;
            for (int i = 0; i < size; i++) {
                if ((marks[i] & mask) == shown) {
                    if (first == NONE) {
                        first = i;
                    } else if (ownerOf(i, thing) != ownerOf(first, thing)) {
                        return false;
                    }
                }
            }
            return true;
        }
    }

    /** A deed that is clean by a reading, and one place of it blotted anew. */
    private static final class Anew {
        private final Row row = new Row();
        private final Blot blot = new Blot();
        private Deed deed;

        Anew(Deed deed) {
            this.deed = deed;
        }

        void clean(Deed told, long marks) {
            deed = told;
            row.show(deed, marks);
        }

        int standsAt(int place) {
            return row.value[place];
        }

        int candidatesAt(int place) {
            int kind = deed.placeKind[place];
            deed.fill(blot, kind, deed.widthOf(kind, row.value[place]));
            return blot.size;
        }

        int readingsAt(int place) {
            int candidates = candidatesAt(place);
            int clean = row.value[place];
            int many = 0;
            for (int d = 0; d < candidates; d++) {
                if (isLawful(place, blot.values[d])) {
                    many++;
                }
            }
            row.value[place] = clean;
            return many;
        }

        boolean isWeak(int place, int thing) {
            int candidates = candidatesAt(place);
            int clean = row.value[place];
            boolean any = false;
            boolean unlike = false;
            int owner = NONE;
            for (int d = 0; d < candidates; d++) {
                if (isLawful(place, blot.values[d])) {
                    unlike = unlike || any && row.owner[thing] != owner;
                    owner = row.owner[thing];
                    any = true;
                }
            }
            row.value[place] = clean;
            return unlike;
        }

        private boolean isLawful(int place, int value) {
            row.value[place] = value;
            row.reckon(deed, NONE);
            return row.broken(deed) == 0;
        }
    }

    /** Copies and habits. */
    private static final class Testimony {
        private final int[] copyHand = new int[COPIES];
        private final int[] copyBlot = new int[COPIES];
        private final int[] copyTells = new int[COPIES];
        private final int[] habitHand = new int[HABITS];
        private final int[] habitWritten = new int[HABITS];
        private final int[] habitMeant = new int[HABITS];
        private final int[] habitOdds = new int[HABITS];
        int copies;
        int habits;

        void clear() {
            copies = 0;
            habits = 0;
        }

        int addCopy(int hand, int blot, int tells) {
            if (copies >= COPIES) {
                return -1;
            }
            copyHand[copies] = hand;
            copyBlot[copies] = blot;
            copyTells[copies] = tells;
            copies++;
            return copies;
        }

        int addHabit(int hand, int written, int meant, int odds) {
            if (habits >= HABITS) {
                return -1;
            }
            habitHand[habits] = hand;
            habitWritten[habits] = written;
            habitMeant[habits] = meant;
            habitOdds[habits] = odds;
            habits++;
            return habits;
        }

        void takeFrom(Testimony other) {
            copies = other.copies;
            habits = other.habits;
            System.arraycopy(other.copyHand, 0, copyHand, 0, COPIES);
            System.arraycopy(other.copyBlot, 0, copyBlot, 0, COPIES);
            System.arraycopy(other.copyTells, 0, copyTells, 0, COPIES);
            System.arraycopy(other.habitHand, 0, habitHand, 0, HABITS);
            System.arraycopy(other.habitWritten, 0, habitWritten, 0, HABITS);
            System.arraycopy(other.habitMeant, 0, habitMeant, 0, HABITS);
            System.arraycopy(other.habitOdds, 0, habitOdds, 0, HABITS);
        }

        /** In how many of 16 the hand of a copy would write what it tells, if a value stood there. */
        int oddsOfCopy(int copy, int kind, int value) {
            int tells = copyTells[copy];
            int habit = kind == NUM ? lastHabit(copyHand[copy], value) : NONE;
            if (habit == NONE) {
                return tells == value ? SIXTEEN : 0;
            }
            if (tells == value) {
                return SIXTEEN - habitOdds[habit];
            }
            return tells == habitWritten[habit] ? habitOdds[habit] : 0;
        }

        private int lastHabit(int hand, int meant) {
            for (int h = habits - 1; h >= 0; h--) {
                if (habitHand[h] == hand && habitMeant[h] == meant) {
                    return h;
                }
            }
            return NONE;
        }
    }

    /** For each digit of each blot what all copies together say to it. */
    private static final class Scales {
        private final long[] odds = new long[BLOTS * NUMS];
        private final int[] slips = new int[BLOTS * NUMS];
        private int blots;

        void weigh(Deed deed, Testimony testimony) {
            blots = deed.blots;
            Arrays.fill(odds, 1L);
            Arrays.fill(slips, 0);
            for (int c = 0; c < testimony.copies; c++) {
                int b = testimony.copyBlot[c];
                Blot blot = deed.blotAt[b];
                for (int d = 0; d < blot.size; d++) {
                    odds[b * NUMS + d] *= testimony.oddsOfCopy(c, blot.kind, blot.values[d]);
                    if (testimony.copyTells[c] != blot.values[d]) {
                        slips[b * NUMS + d]++;
                    }
                }
            }
        }

        long oddsOf(long marks) {
            long all = 1;
            for (int b = 0; b < blots; b++) {
                all *= odds[b * NUMS + Row.digitIn(marks, b)];
            }
            return all;
        }

        int slipsOf(long marks) {
            int all = 0;
            for (int b = 0; b < blots; b++) {
                all += slips[b * NUMS + Row.digitIn(marks, b)];
            }
            return all;
        }
    }
}
