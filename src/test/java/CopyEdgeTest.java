/** The sentences of ==== 3 and of promises 24 to 32 and 42 to 45 that name a boundary, one by one. */
public final class CopyEdgeTest {
    /** Two readings: (a, 1) and (b, 2); m goes to the heir. */
    private static final String TWO = "heir a;heir b;thing m 1;estate 3;will m #1;coin a #1;when is b m a 1;when is a m a 2;";
    private static final long SIXTEENS = 1L << 48;
    private static final long FIFTEENS = 129746337890625L;

    public static void main(String[] args) {
        twelveCopies();
        eightHabits();
        theLastTold();
        whatIsThere();
        oddsOfAll();
        fractions();
        slipsOfAReading();
        places();
        widths();
        weakPlaces();
        copy();
        copyOfEachKind();
        habit();
        forget();
        odds();
        likely();
        likeliest();
        slips();
        more();
        weak();
        image();
        restore();
        status();
        count();
        Document.covers(24, 32);
        Document.covers(42, 45);
        Check.end();
    }

    private static void copies(Asked x, int from, int to, int hand, int blot, int tells) {
        for (int i = from; i <= to; i++) {
            x.gives("copy " + i, i, d -> d.copy(hand, blot, tells));
        }
    }

    private static void habits(Asked x, int from, int to) {
        for (int i = from; i <= to; i++) {
            x.gives("habit " + i, i, d -> d.habit(0, 1, 2, 3));
        }
    }

    private static void twelveCopies() {
        Document.says("COPIES (12 at most): a HAND (0 to 3) tells what stands under a BLOT");
        Asked x = new Asked(Deeds.SPLIT);
        copies(x, 1, 12, 3, 0, 5);
        x.gives("copy 13", -1, d -> d.copy(3, 0, 6));
        x.gives("count(0)", 12, d -> d.count(0));
        x.gives("slips(0), of the first twelve alone", 0, d -> d.slips(0));
    }

    private static void eightHabits() {
        Document.says("HABITS (8 at most): a HAND writes x for y (NUMS) in p of 16 (1 to 15)");
        Asked x = new Asked(Deeds.SPLIT);
        copies(x, 1, 1, 0, 0, 1);
        habits(x, 1, 6);
        x.gives("habit 7", 7, d -> d.habit(0, 1, 0, 1));
        x.gives("habit 8", 8, d -> d.habit(0, 1, 3, 15));
        x.gives("habit 9", -1, d -> d.habit(0, 1, 4, 8));
        x.gives("count(1)", 8, d -> d.count(1));
        x.gives("in 1 of 16 it writes 1 for 0", 1, d -> d.odds(0));
        x.gives("in 15 of 16 it writes 1 for 3", 15, d -> d.odds(3));
        x.gives("the ninth does nothing", 0, d -> d.odds(4));
    }

    private static void theLastTold() {
        Document.says("of one HAND and y the last told counts");
        Asked x = new Asked(Deeds.SPLIT);
        copies(x, 1, 1, 0, 0, 1);
        int[][] habits = {{0, 1, 0, 4}, {1, 1, 0, 9}, {0, 1, 2, 9}, {0, 7, 0, 6}, {0, 1, 0, 2}};
        int[] due = {4, 4, 4, 0, 2};
        for (int i = 0; i < due.length; i++) {
            int[] habit = habits[i];
            x.gives("habit", i + 1, d -> d.habit(habit[0], habit[1], habit[2], habit[3]));
            x.gives("odds(0) behind habit " + i, due[i], d -> d.odds(0));
        }
    }

    private static void whatIsThere() {
        Document.says("else it writes what is there");
        int[] tells = {1, 7, 5};
        int[] due = {10, 6, 0};
        for (int i = 0; i < tells.length; i++) {
            int it = tells[i];
            Asked x = new Asked(Deeds.SPLIT);
            x.gives("habit", 1, d -> d.habit(2, 7, 1, 6));
            x.gives("copy", 1, d -> d.copy(2, 0, it));
            x.gives("odds(1), if it tells " + it, due[i], d -> d.odds(1));
            x.gives("odds(5), if it tells " + it, it == 5 ? 16 : 0, d -> d.odds(5));
        }
        Asked heir = new Asked(Deeds.MILL);
        heir.gives("a habit", 1, d -> d.habit(0, 1, 0, 6));
        heir.gives("a copy of a heir", 1, d -> d.copy(0, 1, 1));
        heir.gives("is of nums alone", 0, d -> d.odds(0));
        heir.gives("is of nums alone", 16, d -> d.odds(1));
        Asked is = new Asked(Deeds.MILL);
        is.gives("a habit", 1, d -> d.habit(0, 1, 0, 6));
        is.gives("a copy of an is", 1, d -> d.copy(0, 2, 1));
        is.gives("is of nums alone", 0, d -> d.odds(0));
        is.gives("is of nums alone", 16, d -> d.odds(1));
    }

    private static void oddsOfAll() {
        Document.says("of all COPIES, times one another, in how many of 16 its HAND would write that");
        Asked x = new Asked(Deeds.SPLIT);
        x.gives("no copies", 1, d -> d.odds(0));
        x.gives("habit", 1, d -> d.habit(1, 1, 0, 15));
        copies(x, 1, 12, 1, 0, 1);
        x.gives("the most", SIXTEENS, d -> d.odds(1));
        x.gives("15 of 16, twelve times", FIFTEENS, d -> d.odds(0));
        x.gives("none", 0, d -> d.odds(2));
        Asked y = new Asked(Deeds.SPLIT);
        copies(y, 1, 11, 1, 0, 1);
        copies(y, 12, 12, 2, 1, 9);
        y.gives("one of twelve tells otherwise", 0, d -> d.odds(1));
        Asked wide = new Asked(Deeds.WIDE);
        copies(wide, 1, 1, 0, 1, 99);
        copies(wide, 2, 2, 0, 2, 0);
        int[][] due = {{0, 0}, {9899, 0}, {9900, 256}, {9901, 0}, {19900, 256}, {19999, 0}};
        for (int[] row : due) {
            wide.gives("odds(" + row[0] + ") by nums of unknown width", row[1], d -> d.odds(row[0]));
        }
        Asked eight = new Asked(Deeds.EIGHT);
        copies(eight, 1, 1, 0, 7, 1);
        eight.gives("odds(254) by the last of eight blots", 0, d -> d.odds(254));
        eight.gives("odds(255) by the last of eight blots", 16, d -> d.odds(255));
    }

    private static void fractions() {
        Document.says("as fractions by all ODDS together");
        Asked most = new Asked(Deeds.MOST);
        copies(most, 1, 12, 0, 2, 2);
        most.gives("odds(19999)", SIXTEENS, d -> d.odds(19999));
        long[][] due = {{1, 2}, {1, 2}, {0, 1}};
        for (int h = 0; h < due.length; h++) {
            int heir = h;
            most.gives("likely(0, " + h + ", 0)", due[h][0], d -> d.likely(0, heir, 0));
            most.gives("likely(0, " + h + ", 1)", due[h][1], d -> d.likely(0, heir, 1));
        }
        Asked two = new Asked(TWO);
        two.gives("habit", 1, d -> d.habit(2, 2, 1, 15));
        copies(two, 1, 12, 2, 1, 2);
        two.gives("above, of a", FIFTEENS, d -> d.likely(0, 0, 0));
        two.gives("above, of b", SIXTEENS, d -> d.likely(0, 1, 0));
        two.gives("below", FIFTEENS + SIXTEENS, d -> d.likely(0, 0, 1));
    }

    private static void slipsOfAReading() {
        Document.says("COPIES that tell otherwise");
        Asked x = new Asked("heir a;estate 5;coin a #1;");
        x.gives("slips(0) without copies", 0, d -> d.slips(0));
        copies(x, 1, 12, 0, 0, 6);
        x.gives("slips(0), all of them", 12, d -> d.slips(0));
        Asked y = new Asked("heir a;estate 5;coin a #1;");
        y.gives("habit", 1, d -> d.habit(0, 6, 5, 15));
        copies(y, 1, 1, 0, 0, 6);
        copies(y, 2, 12, 0, 0, 5);
        y.gives("slips(0), a habit or not", 1, d -> d.slips(0));
        Asked eight = new Asked(Deeds.EIGHT);
        copies(eight, 1, 1, 0, 7, 1);
        eight.gives("slips(0) by the last of eight blots", 0, d -> d.slips(0));
        eight.gives("slips(1) by the last of eight blots", 1, d -> d.slips(1));
    }

    private static void places() {
        Document.says("(PLACES, numbered as they stand, from 0 on)");
        Asked.all(Deeds.MILL, "more(place, 0)", (d, p) -> d.more(p, 0), 0, 0, 1, 9, 0, 0, 0, 2, 11);
        Asked.all("heir a;estate 5;coin a #1;", "more(place, 0)", (d, p) -> d.more(p, 0), 0, 5);
        Asked most = new Asked("heir a;heir b;thing m 1;" + "when not a m b 0;".repeat(8) + "when is a m b 98;");
        int[][] due = {{0, 1}, {1, 0}, {2, 1}, {3, 0}, {32, 0}, {35, 98}};
        for (int[] row : due) {
            most.gives("more(" + row[0] + ", 0)", row[1], d -> d.more(row[0], 0));
        }
        most.refuses("more(36, 0)", Check.IOOBE, d -> d.more(36, 0));
    }

    private static void widths() {
        Document.says("(with its own width, CANDIDATES of all HEIRS)");
        String late = "heir a;coin a %;heir b;heir cc;estate %;";
        int[][] due = {{0, 10}, {9, 10}, {10, 90}, {99, 90}};
        for (int[] row : due) {
            Asked x = new Asked(late.replace("%", Integer.toString(row[0])));
            x.gives("heirs told behind it, too", 2, d -> d.more(0, 1));
            x.gives("readings of these", 2, d -> d.more(0, 2));
            x.gives("nums as wide as " + row[0], row[1], d -> d.more(1, 1));
            x.gives("readings of these", 1, d -> d.more(1, 2));
        }
        Asked is = new Asked("heir a;heir abcdefghi;thing m 1;when is abcdefghi m a 0;when not a m a 0;");
        is.gives("is alone is so wide", 1, d -> d.more(0, 1));
        is.gives("one heir is so wide", 1, d -> d.more(1, 1));
        is.gives("not alone is so wide", 1, d -> d.more(4, 1));
        Asked.all(Deeds.MILL, "more(place, 1)", (d, p) -> d.more(p, 1), 2, 10, 2, 10, 2, 1, 2, 1, 90);
        Asked.all("heir a;thing m 1;estate 5;will m a;when is a m a 5;", "more(place, 2)", (d, p) -> d.more(p, 2), 1, 1, 1, 1, 1);
        Asked.all("heir a;thing m 1;estate 5;when not a m a 5;", "more(place, 2)", (d, p) -> d.more(p, 2), 1, 1, 1, 1);
    }

    private static void weakPlaces() {
        Document.says("if it goes to unlike ones by these (nobody is one, too)");
        Asked.all(Deeds.WILLS, "weak", (d, t) -> d.weak(t), 1, 1);
        Asked.all("heir a;heir b;thing m 1;thing n 1;will m a;will m a;", "weak", (d, t) -> d.weak(t), 0, 0);
        Asked.all("heir a;heir bo;thing m 1;will m a;", "no other so wide", (d, t) -> d.weak(t), 0);
        Asked.all(Deeds.EIGHT, "weak", (d, t) -> d.weak(t), 1, 0);
        Asked.all("heir a;heir b;thing m 1;estate 1;coin a 1;will m a;", "weak", (d, t) -> d.weak(t), 1);
        // by the first reading m goes to b, and if it went to a, nobody would get the 1
        Asked.all("heir a;heir b;thing m 1;estate 1;when is a m b #1;when is b m b 1;will m #1;", "by the first reading",
            (d, t) -> d.weak(t), 0);
    }

    private static void copy() {
        Document.promises(24, "how many there are; -1: there are 12");
        Asked x = new Asked(Deeds.MILL);
        copies(x, 1, 12, 0, 0, 1);
        x.gives("copy 13", -1, d -> d.copy(0, 0, 1));
        x.refuses("copy 13 of no blot", Check.NOSUCH, d -> d.copy(0, 4, 1));
        x.refuses("copy 13 by no hand", Check.ILLEGAL, d -> d.copy(4, 0, 1));
        x.refuses("copy 13 of no num", Check.ILLEGAL, d -> d.copy(0, 0, 100));
        x.gives("forget()", 12, BlottedDeed::forget);
        x.gives("copy 1", 1, d -> d.copy(0, 0, 1));
        Document.promises(24, "HAND (0 to 3), another number");
        new Asked(Deeds.MILL).takes("copy(hand, 0, 1)", 0, 3, Check.ILLEGAL, (d, n) -> d.copy(n, 0, 1));
        Asked y = new Asked(Deeds.MILL);
        y.takes("copy(0, blot, 0)", 0, 3, Check.NOSUCH, (d, n) -> d.copy(0, n, 0));
        y.refuses("copy(4, 4, 100)", Check.NOSUCH, d -> d.copy(4, 4, 100));
        new Asked().refuses("copy(0, 0, 0) without blots", Check.NOSUCH, d -> d.copy(0, 0, 0));
    }

    private static void copyOfEachKind() {
        Document.promises(24, "what it tells (of a NUM 0 to 99, whatever W; a HEIR by number; IS 0, 1)");
        int[] most = {99, 2, 1, 99};
        for (int b = 0; b < most.length; b++) {
            int blot = b;
            new Asked(Deeds.MILL).takes("copy(0, " + b + ", tells)", 0, most[b], Check.ILLEGAL, (d, n) -> d.copy(0, blot, n));
        }
        new Asked("heir a;coin #1 0;heir bo;").takes("copy of a heir", 0, 1, Check.ILLEGAL, (d, n) -> d.copy(0, 0, n));
    }

    private static void habit() {
        Document.promises(25, "A HABIT: how many there are; -1: there are 8.");
        Asked x = new Asked();
        habits(x, 1, 8);
        x.gives("habit 9", -1, d -> d.habit(0, 1, 2, 3));
        x.refuses("habit 9 by no hand", Check.ILLEGAL, d -> d.habit(4, 1, 2, 3));
        x.refuses("habit 9 in 16 of 16", Check.ILLEGAL, d -> d.habit(0, 1, 2, 16));
        x.gives("forget()", 8, BlottedDeed::forget);
        x.gives("habit 1", 1, d -> d.habit(0, 1, 2, 3));
        Document.promises(25, "HAND, x or y (0 to 99, unlike), p.");
        Asked y = new Asked();
        y.takes("habit(hand, 1, 2, 3)", 0, 3, Check.ILLEGAL, (d, n) -> d.habit(n, 1, 2, 3));
        y.takes("habit(0, x, 2, 3)", 0, 99, Check.ILLEGAL, (d, n) -> d.habit(0, n, 2, 3));
        y.takes("habit(0, 1, y, 3)", 0, 99, Check.ILLEGAL, (d, n) -> d.habit(0, 1, n, 3));
        y.takes("habit(0, 1, 2, p)", 1, 15, Check.ILLEGAL, (d, n) -> d.habit(0, 1, 2, n));
        y.refusesAll("habit of x for x", Check.ILLEGAL, (d, n) -> d.habit(0, n, n, 3), 0, 50, 99);
    }

    private static void forget() {
        Document.promises(26, "All COPIES and HABITS go: how many.");
        Asked x = new Asked(Deeds.MILL);
        x.gives("forget() of nothing", 0, BlottedDeed::forget);
        copies(x, 1, 12, 0, 0, 1);
        habits(x, 1, 8);
        x.gives("image()", 1, BlottedDeed::image);
        x.gives("forget() of all", 20, BlottedDeed::forget);
        x.gives("forget() again", 0, BlottedDeed::forget);
        x.gives("count(0)", 0, d -> d.count(0));
        x.gives("count(1)", 0, d -> d.count(1));
        x.gives("an image is no copy", 1, d -> d.count(2));
    }

    private static void odds() {
        Document.promises(27, "ODDS of the i-th READING, of 16 for each COPY.");
        new Asked(Deeds.MILL).takes("odds", 0, 3, Check.IOOBE, (d, n) -> d.odds(n));
        new Asked(Deeds.WIDE).takes("odds", 0, 19999, Check.IOOBE, (d, n) -> d.odds(n));
        new Asked(Deeds.EMPTY).refusesAll("odds without readings", Check.IOOBE, (d, n) -> d.odds(n), -1, 0);
        new Asked().takes("odds of a new object", 0, 0, Check.IOOBE, (d, n) -> d.odds(n));
    }

    private static void likely() {
        Document.promises(28, "above (what 0), below (1), in least terms; 0 by 1, if no READING has ODDS.");
        Asked.all(Deeds.EMPTY, "likely(0, 0, what)", (d, what) -> d.likely(0, 0, what), 0, 1);
        Asked x = new Asked(TWO);
        copies(x, 1, 1, 0, 1, 3);
        x.gives("no reading has odds, above", 0, d -> d.likely(0, 0, 0));
        x.gives("no reading has odds, below", 1, d -> d.likely(0, 0, 1));
        Asked six = new Asked(TWO);
        copies(six, 1, 1, 2, 1, 2);
        six.gives("habit", 1, d -> d.habit(2, 2, 1, 6));
        six.gives("6 of 22, above", 3, d -> d.likely(0, 0, 0));
        six.gives("6 of 22, below", 11, d -> d.likely(0, 0, 1));
        Asked.all(Deeds.SPLIT, "sure", (d, what) -> d.likely(0, 0, what), 1, 1);
        Asked.all("heir a;thing m 1;will m a;", "all odds together are 1", (d, what) -> d.likely(0, 0, what), 1, 1);
        Asked.all(Deeds.SPLIT, "never", (d, what) -> d.likely(0, 1, what), 0, 1);
        Asked y = new Asked(Deeds.MILL);
        y.takes("likely(thing, 0, 0)", 0, 1, Check.IOOBE, (d, n) -> d.likely(n, 0, 0));
        y.takes("likely(0, heir, 0)", 0, 2, Check.IOOBE, (d, n) -> d.likely(0, n, 0));
        y.takes("likely(0, 0, what)", 0, 1, Check.ILLEGAL, (d, n) -> d.likely(0, 0, n));
        y.refuses("likely(2, 0, 2)", Check.IOOBE, d -> d.likely(2, 0, 2));
        y.refuses("likely(0, 3, 2)", Check.IOOBE, d -> d.likely(0, 3, 2));
        new Asked(Deeds.EMPTY).refusesAll("likely(0, 0, what)", Check.ILLEGAL, (d, n) -> d.likely(0, 0, n), -1, 2);
    }

    private static void likeliest() {
        Document.promises(29, "The READING of the most ODDS, of these the first; NONE: none has any.");
        Asked.each("likeliest()", BlottedDeed::likeliest, "", 0, Deeds.WIDE, 0, Deeds.EMPTY, -1);
        Asked x = new Asked(Deeds.MILL);
        copies(x, 1, 1, 0, 1, 1);
        x.gives("of alike ones the first", 1, BlottedDeed::likeliest);
        copies(x, 2, 2, 0, 3, 10);
        x.gives("the last", 3, BlottedDeed::likeliest);
        copies(x, 3, 3, 0, 0, 5);
        x.gives("none has any", -1, BlottedDeed::likeliest);
        Asked least = new Asked(Deeds.SPLIT);
        least.gives("habit", 1, d -> d.habit(0, 8, 9, 1));
        copies(least, 1, 1, 0, 1, 8);
        copies(least, 2, 2, 1, 1, 9);
        least.gives("the only one that has any", 0, BlottedDeed::likeliest);
    }

    private static void slips() {
        Document.promises(30, "the least of all READINGS (what 0), the first such READING (1); NONE.");
        Asked.all(Deeds.EMPTY, "slips", (d, what) -> d.slips(what), -1, -1);
        Asked.all(Deeds.MILL, "slips", (d, what) -> d.slips(what), 0, 0);
        Asked x = new Asked(Deeds.MILL);
        copies(x, 1, 1, 0, 0, 1);
        copies(x, 2, 2, 1, 1, 1);
        x.gives("slips(0)", 0, d -> d.slips(0));
        x.gives("slips(1)", 3, d -> d.slips(1));
        copies(x, 3, 3, 2, 3, 11);
        x.gives("slips(0)", 1, d -> d.slips(0));
        x.gives("slips(1), of alike ones the first", 1, d -> d.slips(1));
        new Asked(Deeds.MILL).takes("slips", 0, 1, Check.ILLEGAL, (d, n) -> d.slips(n));
        new Asked(Deeds.EMPTY).takes("slips", 0, 1, Check.ILLEGAL, (d, n) -> d.slips(n));
    }

    private static void more() {
        Document.promises(31, "0 what stands there, 1 how many CANDIDATES, 2 how many READINGS");
        Asked.all(Deeds.MILL, "more(0, what)", (d, what) -> d.more(0, what), 0, 2, 2);
        Asked.all(Deeds.MILL, "more(8, what)", (d, what) -> d.more(8, what), 11, 90, 1);
        new Asked(Deeds.MILL).takes("more(0, what)", 0, 2, Check.ILLEGAL, (d, n) -> d.more(0, n));
        Document.promises(31, "no such PLACE");
        Asked x = new Asked(Deeds.MILL);
        x.takes("more(place, 2)", 0, 8, Check.IOOBE, (d, n) -> d.more(n, 2));
        x.refusesAll("more(place, 3)", Check.IOOBE, (d, n) -> d.more(n, 3), -1, 9);
        new Asked("heir a;").refusesAll("more without places", Check.IOOBE, (d, n) -> d.more(n, 0), -1, 0);
        Document.promises(31, "NONE for 0 to 2, if there are no READINGS of the DEED");
        Asked.all(Deeds.EMPTY, "more(0, what)", (d, what) -> d.more(0, what), -1, -1, -1);
        Asked y = new Asked(Deeds.EMPTY);
        y.refusesAll("more(0, what)", Check.ILLEGAL, (d, n) -> d.more(0, n), -1, 3);
        y.takes("more(place, 0)", 0, 6, Check.IOOBE, (d, n) -> d.more(n, 0));
    }

    private static void weak() {
        Document.promises(32, "How many PLACES are WEAK for a THING; NONE: there are no READINGS.");
        Asked.all(Deeds.EMPTY, "weak", (d, t) -> d.weak(t), -1);
        Asked.all(Deeds.MILL, "weak", (d, t) -> d.weak(t), 0, 0);
        Asked.all("heir a;heir b;thing m 1;" + "when is a m b 0;".repeat(9), "36 places", (d, t) -> d.weak(t), 0);
        new Asked(Deeds.MILL).takes("weak", 0, 1, Check.IOOBE, (d, n) -> d.weak(n));
        new Asked(Deeds.EMPTY).takes("weak", 0, 0, Check.IOOBE, (d, n) -> d.weak(n));
        new Asked("heir a;").refuses("weak(0) without things", Check.IOOBE, d -> d.weak(0));
    }

    private static void image() {
        Document.promises(42, "An IMAGE of COPIES and HABITS: how many there are; -1: there are 3.");
        Asked x = new Asked(Deeds.MILL);
        copies(x, 1, 1, 0, 0, 1);
        for (int i = 1; i <= 3; i++) {
            x.gives("image()", i, BlottedDeed::image);
        }
        copies(x, 2, 2, 0, 0, 1);
        x.gives("a fourth image()", -1, BlottedDeed::image);
        x.gives("count(2)", 3, d -> d.count(2));
        x.gives("restore()", 2, BlottedDeed::restore);
        x.gives("the fourth was none", 1, d -> d.count(0));
        x.gives("image() again", 3, BlottedDeed::image);
    }

    private static void restore() {
        Document.promises(43, "All is as in the latest IMAGE, which is gone: how many are left; -1: there is none.");
        Asked x = new Asked(Deeds.MILL);
        x.gives("restore() of none", -1, BlottedDeed::restore);
        x.gives("an empty image", 1, BlottedDeed::image);
        copies(x, 1, 12, 0, 0, 1);
        habits(x, 1, 8);
        x.gives("a full image", 2, BlottedDeed::image);
        x.gives("forget()", 20, BlottedDeed::forget);
        copies(x, 1, 1, 0, 0, 5);
        x.gives("odds(2)", 0, d -> d.odds(2));
        x.gives("restore() of the full one", 1, BlottedDeed::restore);
        x.gives("count(0)", 12, d -> d.count(0));
        x.gives("count(1)", 8, d -> d.count(1));
        x.gives("odds(2)", SIXTEENS, d -> d.odds(2));
        x.gives("restore() of the empty one", 0, BlottedDeed::restore);
        x.gives("count(0)", 0, d -> d.count(0));
        x.gives("count(1)", 0, d -> d.count(1));
        x.gives("restore() of none", -1, BlottedDeed::restore);
        wholeImage();
    }

    private static void wholeImage() {
        Asked x = new Asked(Deeds.SPLIT);
        testify(x, new int[][] {{1, 0, 3}, {2, 1, 6}}, new int[][] {{1, 3, 2, 5}, {2, 6, 7, 9}});
        x.gives("image()", 1, BlottedDeed::image);
        x.gives("forget()", 4, BlottedDeed::forget);
        testify(x, new int[][] {{0, 1, 8}, {3, 0, 0}}, new int[][] {{0, 8, 9, 1}, {3, 7, 8, 2}});
        x.gives("image()", 2, BlottedDeed::image);
        x.gives("odds(0) by the later one", 16, d -> d.odds(0));
        x.gives("restore()", 1, BlottedDeed::restore);
        x.gives("odds(0) by the later one", 16, d -> d.odds(0));
        x.gives("restore()", 0, BlottedDeed::restore);
        long[] due = {0, 0, 45, 256, 0};
        for (int i = 0; i < due.length; i++) {
            int reading = i;
            x.gives("odds(" + i + ") by the earlier one", due[i], d -> d.odds(reading));
        }
    }

    private static void testify(Asked x, int[][] copies, int[][] habits) {
        for (int i = 0; i < copies.length; i++) {
            int[] copy = copies[i];
            x.gives("copy", i + 1, d -> d.copy(copy[0], copy[1], copy[2]));
        }
        for (int i = 0; i < habits.length; i++) {
            int[] habit = habits[i];
            x.gives("habit", i + 1, d -> d.habit(habit[0], habit[1], habit[2], habit[3]));
        }
    }

    private static void status() {
        Document.promises(44, "0 IndexOutOfBoundsException, 1 NoSuchElementException, 2 IllegalArgumentException; NONE for others.");
        Asked x = new Asked(Deeds.MILL);
        x.knows("status", 0, 2, (d, n) -> d.status(n));
        x.refuses("goes(4, 0)", Check.IOOBE, d -> d.goes(4, 0));
        x.refuses("goes(4, 2)", Check.IOOBE, d -> d.goes(4, 2));
        x.refuses("alive(4)", Check.NOSUCH, d -> d.alive(4));
        x.refuses("told(7)", Check.ILLEGAL, d -> d.told(7));
        x.gives("status(0)", 2, d -> d.status(0));
        x.gives("status(1)", 1, d -> d.status(1));
        x.gives("status(2)", 1, d -> d.status(2));
        Document.promises(44, "(No IMAGE keeps it.)");
        x.gives("image()", 1, BlottedDeed::image);
        x.refuses("told(7)", Check.ILLEGAL, d -> d.told(7));
        x.gives("restore()", 0, BlottedDeed::restore);
        x.gives("status(2)", 2, d -> d.status(2));
        x.feed("?");
        x.gives("a fault is not refused", -9, d -> d.deed(1));
        x.gives("another deed", 0, d -> d.deed(0));
        x.gives("status(2)", 2, d -> d.status(2));
    }

    private static void count() {
        Document.promises(45, "0 COPIES, 1 HABITS, 2 IMAGES, 3 bytes of the TAPE; NONE for others.");
        Asked x = new Asked(Deeds.MILL);
        x.knows("count", 0, 3, (d, n) -> d.count(n));
        copies(x, 1, 12, 0, 0, 1);
        habits(x, 1, 8);
        for (int i = 1; i <= 3; i++) {
            x.gives("image()", i, BlottedDeed::image);
        }
        x.feed(" ".repeat(600));
        int[] most = {12, 8, 3, 600};
        for (int what = 0; what < most.length; what++) {
            int w = what;
            x.gives("count(" + w + ")", most[w], d -> d.count(w));
        }
    }
}
