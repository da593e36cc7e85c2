/** The sentences of ==== 4 and of promises 33 to 41 that name a boundary, one by one. */
public final class RestEdgeTest {
    /** Four hundred readings that differ by the last two blots alone, then as many that differ from them by three more. */
    private static final String FOUR_HUNDRED = "heir a;heir b;heir cc;heir dd;thing m 1;thing n 1;thing o 1;estate 2;"
        + "will m #1;when #0 a m cc 1;when #0 a m cc 1;when is b o b #0;will n #0;";
    /**
     * 348 readings by which m goes to a and four digits make 25; then three digits make 25, in the order 799, 889, 898,
     * 979, 988, 997, each with all digits behind it. So the 400th is 997 and 1; (a, 8, 8, 9, 0), the 270th, has something
     * in common with all ahead of that, but not with it, and no other has with all 400.
     */
    private static final String DIGITS = "heir a;heir b;thing m 1;estate 25;will m #1;coin a #1;coin a #1;coin a #1;"
        + "when is a m a #1;";

    public static void main(String[] args) {
        holdingACandidate();
        struckOut();
        blotsThatDiffer();
        theMiddle();
        coinOfAnother();
        cleanedOneByOne();
        goingToOneHeir();
        debt();
        keptApart();
        holding();
        struck();
        apart();
        middle();
        middleOfTheFirst();
        when();
        steps();
        pairs();
        rows();
        bare();
        Document.covers(33, 41);
        Check.end();
    }

    private static void holdingACandidate() {
        Document.says("how many READINGS have such a CANDIDATE under a BLOT");
        Asked.all(Deeds.LATE, "holding(0, num)", (d, n) -> d.holding(0, n), 2, 1, 1, 1, 1, 1, 1, 1, 1, 1);
        Asked.all(Deeds.LATE, "holding(1, heir)", (d, n) -> d.holding(1, n), 1, 10);
        Asked.all(Deeds.WIDE, "holding(0, heir)", (d, n) -> d.holding(0, n), 10000, 10000);
    }

    private static void struckOut() {
        Document.says("a PART says nothing (its BLOTS have the CANDIDATES as ever): rows by which all LAWS hold then");
        Asked.all("heir a;coin a #1;", "its own blot", (d, p) -> d.struck(p), 10);
        Asked.all(Deeds.MILL, "struck", (d, p) -> d.struck(p), 20, 0, 4, 0);
        Asked.all(Deeds.WIDE, "struck", (d, p) -> d.struck(p), 20000, 20000, 20000);
        Asked.all("heir a;heir b;thing m 1;will m a;will m #1;will m b;", "without readings", (d, p) -> d.struck(p), 1, 0, 1);
    }

    private static void blotsThatDiffer() {
        Document.says("APART are two READINGS by as many BLOTS as differ");
        Asked x = new Asked(Deeds.EIGHT);
        int[][] due = {{0, 0, 0}, {0, 1, 1}, {1, 0, 1}, {0, 128, 1}, {0, 127, 7}, {0, 255, 8}, {255, 0, 8}, {85, 170, 8}, {255, 255, 0}};
        for (int[] row : due) {
            x.gives("apart(" + row[0] + ", " + row[1] + ")", row[2], d -> d.apart(row[0], row[1]));
        }
        Asked y = new Asked(Deeds.WIDE);
        y.gives("apart(0, 64)", 1, d -> d.apart(0, 64));
        y.gives("apart(0, 19999)", 3, d -> d.apart(0, 19999));
    }

    private static void theMiddle() {
        Document.says("the READING whose greatest such number to any is least, of these the first");
        Asked.all(Deeds.LATE, "middle", (d, what) -> d.middle(what), 1, 1);
        Asked.all(Deeds.EIGHT, "middle", (d, what) -> d.middle(what), 0, 8);
        Asked.all("heir a;estate 5;coin a #1;", "middle of one", (d, what) -> d.middle(what), 0, 0);
        Asked.all("", "middle without blots", (d, what) -> d.middle(what), 0, 0);
    }

    private static void coinOfAnother() {
        Document.says("the least, the most coin another (or the same) one has by such READINGS");
        Asked.all(Deeds.MILL, "ann's, if ann has the mill", (d, what) -> d.when(0, 0, 0, what), 0, 1);
        Asked.all(Deeds.MILL, "clara's, if bob has the mill", (d, what) -> d.when(0, 1, 2, what), 10, 11);
        Asked.all("heir a;heir b;thing m 1;estate 9;will m #1;coin a #1;when is a m b 4;when is b m b 7;",
            "a's, if a has m", (d, what) -> d.when(0, 0, 0, what), 5, 5);
        Asked.all("heir a;heir b;thing m 1;estate 9;will m #1;coin a #1;when is a m b 4;when is b m b 7;",
            "a's, if b has m", (d, what) -> d.when(0, 1, 0, what), 2, 2);
    }

    private static void cleanedOneByOne() {
        Document.says("that by which the greatest number of READINGS that fit what was shown may be left is least, of these"
            + " the first, till it is known by those that fit to whom a THING goes: how many, which");
        int[] all = {8, 0, 1, 2, 3, 4, 5, 6, 7};
        Asked.all(Deeds.EIGHT, "steps(0, 0, what)", (d, what) -> d.steps(0, 0, what), all);
        Asked.all(Deeds.EIGHT, "steps(255, 0, what)", (d, what) -> d.steps(255, 0, what), all);
        int[] none = {0, -1, -1, -1, -1, -1, -1, -1, -1};
        Asked.all(Deeds.EIGHT, "nobody's n", (d, what) -> d.steps(255, 1, what), none);
        Asked.all(Deeds.LATE, "steps(0, 0, what)", (d, what) -> d.steps(0, 0, what), 2, 0, 1, -1);
        Asked.all(Deeds.LATE, "steps(1, 0, what)", (d, what) -> d.steps(1, 0, what), 2, 0, 1, -1);
        Asked.all(Deeds.LATE, "steps(2, 0, what)", (d, what) -> d.steps(2, 0, what), 1, 0, -1, -1);
    }

    private static void goingToOneHeir() {
        Document.says("of two THINGS by how many READINGS they go to one HEIR");
        Asked.each("pairs(0, 1)", d -> d.pairs(0, 1), Deeds.WILLS, 2, Deeds.WIDE, 0, Deeds.EMPTY.replace("estate", "thing n 1;estate"), 0,
            "heir a;thing m 1;thing n 1;will m a;will n a;", 1, "heir a;thing m 1;thing n 1;", 0);
    }

    private static void debt() {
        Document.says("how many rows there are by which LAWS 1 and 2 hold and all coin is so much");
        Asked x = new Asked(Deeds.EMPTY);
        int[][] due = {{0, 2}, {4, 2}, {5, 4}, {9, 4}, {10, 2}, {14, 2}, {15, 0}, {999, 0}};
        for (int[] row : due) {
            x.gives("rows(" + row[0] + ")", row[1], d -> d.rows(row[0]));
        }
        Asked laws = new Asked("heir a;heir b;thing m 1;least a 3;coin a #1;will m a;will m #1;");
        int[][] lawful = {{0, 0}, {2, 0}, {3, 1}, {9, 1}, {10, 0}};
        for (int[] row : lawful) {
            laws.gives("rows(" + row[0] + ")", row[1], d -> d.rows(row[0]));
        }
        Asked most = new Asked("heir a;" + "coin a 99;".repeat(9));
        int[][] greatest = {{890, 0}, {891, 1}, {892, 0}};
        for (int[] row : greatest) {
            most.gives("rows(" + row[0] + ")", row[1], d -> d.rows(row[0]));
        }
        new Asked(Deeds.WIDE).gives("rows(0)", 20000, d -> d.rows(0));
    }

    private static void keptApart() {
        Document.says("HEIRS that by no READING have any THING, as bits");
        Asked.each("bare()", BlottedDeed::bare, Deeds.MILL, 4, Deeds.LATE, 0, Deeds.WILLS, 0, "heir a;heir b;heir c;heir d;", 15,
            "heir a;heir b;heir c;heir d;thing m 0;will m d;", 7, "", 0);
    }

    private static void holding() {
        Document.promises(33, "HOLDING a CANDIDATE (as told in candidate()); NONE: it is none such.");
        int[] first = {0, 0, 0, 10};
        int[] last = {9, 1, 1, 99};
        for (int b = 0; b < first.length; b++) {
            int blot = b;
            new Asked(Deeds.MILL).knows("holding(" + b + ", candidate)", first[b], last[b], (d, n) -> d.holding(blot, n));
        }
        new Asked("heir a;coin a #0;").knows("holding of all nums", 0, 99, (d, n) -> d.holding(0, n));
        Asked gap = new Asked("heir a;heir bo;heir c;coin #1 0;");
        gap.gives("no candidate between two", -1, d -> d.holding(0, 1));
        gap.gives("the next candidate", 1, d -> d.holding(0, 2));
        Asked x = new Asked(Deeds.MILL);
        x.gives("a candidate that stands nowhere", 0, d -> d.holding(0, 9));
        x.takes("holding(blot, 0)", 0, 3, Check.NOSUCH, (d, n) -> d.holding(n, 0));
        x.refuses("holding(4, -1)", Check.NOSUCH, d -> d.holding(4, -1));
        Asked none = new Asked(Deeds.EMPTY);
        none.gives("without readings", 0, d -> d.holding(0, 9));
        none.gives("without readings, none such", -1, d -> d.holding(0, 10));
    }

    private static void struck() {
        Document.promises(34, "no such PART");
        new Asked(Deeds.MILL).takes("struck", 0, 3, Check.IOOBE, (d, n) -> d.struck(n));
        new Asked("heir a;" + "coin a 0;".repeat(9)).takes("struck", 0, 8, Check.IOOBE, (d, n) -> d.struck(n));
        new Asked(Deeds.EMPTY).takes("struck", 0, 2, Check.IOOBE, (d, n) -> d.struck(n));
        new Asked("heir a;").refusesAll("struck without parts", Check.IOOBE, (d, n) -> d.struck(n), -1, 0);
    }

    private static void apart() {
        Document.promises(35, "APART.");
        Asked x = new Asked(Deeds.MILL);
        x.takes("apart(i, 0)", 0, 3, Check.IOOBE, (d, n) -> d.apart(n, 0));
        x.takes("apart(0, j)", 0, 3, Check.IOOBE, (d, n) -> d.apart(0, n));
        x.refuses("apart(4, 4)", Check.IOOBE, d -> d.apart(4, 4));
        new Asked(Deeds.EMPTY).refuses("apart(0, 0)", Check.IOOBE, d -> d.apart(0, 0));
        new Asked().takes("apart(0, j) of a new object", 0, 0, Check.IOOBE, (d, n) -> d.apart(0, n));
    }

    private static void middle() {
        Document.promises(36, "the READING (what 0), its greatest number (1); NONE: there are none.");
        Asked.all(Deeds.EMPTY, "middle", (d, what) -> d.middle(what), -1, -1);
        new Asked(Deeds.MILL).takes("middle", 0, 1, Check.ILLEGAL, (d, n) -> d.middle(n));
        new Asked(Deeds.EMPTY).takes("middle", 0, 1, Check.ILLEGAL, (d, n) -> d.middle(n));
    }

    private static void middleOfTheFirst() {
        Document.promises(36, "MIDDLE (of the first 400 READINGS alone)");
        Asked x = new Asked(FOUR_HUNDRED);
        x.gives("readings()", 800, BlottedDeed::readings);
        x.gives("apart(0, 399)", 2, d -> d.apart(0, 399));
        x.gives("apart(0, 400)", 3, d -> d.apart(0, 400));
        x.gives("middle(0), without the 401st", 0, d -> d.middle(0));
        x.gives("middle(1), without the 401st", 2, d -> d.middle(1));
        Asked y = new Asked(DIGITS);
        y.gives("readings()", 408, BlottedDeed::readings);
        y.gives("apart(269, 398)", 4, d -> d.apart(269, 398));
        y.gives("apart(269, 399)", 5, d -> d.apart(269, 399));
        y.gives("middle(0), with the 400th", 0, d -> d.middle(0));
        y.gives("middle(1), with the 400th", 5, d -> d.middle(1));
        Asked.all(Deeds.WIDE, "middle", (d, what) -> d.middle(what), 0, 2);
    }

    private static void when() {
        Document.promises(37, "the least (what 0), the most (1) coin of an other; NONE: it never does.");
        Asked.all(Deeds.MILL, "clara never has the mill", (d, what) -> d.when(0, 2, 0, what), -1, -1);
        Asked.all(Deeds.MILL, "nobody's cow", (d, what) -> d.when(1, 0, 0, what), -1, -1);
        Asked.all(Deeds.EMPTY, "without readings", (d, what) -> d.when(0, 0, 0, what), -1, -1);
        Asked x = new Asked(Deeds.MILL);
        x.takes("when(thing, 0, 0, 0)", 0, 1, Check.IOOBE, (d, n) -> d.when(n, 0, 0, 0));
        x.takes("when(0, heir, 0, 0)", 0, 2, Check.IOOBE, (d, n) -> d.when(0, n, 0, 0));
        x.takes("when(0, 0, other, 0)", 0, 2, Check.IOOBE, (d, n) -> d.when(0, 0, n, 0));
        x.takes("when(0, 0, 0, what)", 0, 1, Check.ILLEGAL, (d, n) -> d.when(0, 0, 0, n));
        x.refuses("when(2, 0, 0, 2)", Check.IOOBE, d -> d.when(2, 0, 0, 2));
        x.refuses("when(0, 3, 0, 2)", Check.IOOBE, d -> d.when(0, 3, 0, 2));
        x.refuses("when(0, 0, 3, 2)", Check.IOOBE, d -> d.when(0, 0, 3, 2));
        new Asked(Deeds.EMPTY).refusesAll("when(0, 0, 0, what)", Check.ILLEGAL, (d, n) -> d.when(0, 0, 0, n), -1, 2);
    }

    private static void steps() {
        Document.promises(38, "0 how many, 1 to 8 the 1st to 8th BLOT (NONE: none such).");
        Asked x = new Asked(Deeds.MILL);
        x.takes("steps(i, 0, 0)", 0, 3, Check.IOOBE, (d, n) -> d.steps(n, 0, 0));
        x.takes("steps(0, thing, 0)", 0, 1, Check.IOOBE, (d, n) -> d.steps(0, n, 0));
        x.takes("steps(0, 0, what)", 0, 8, Check.ILLEGAL, (d, n) -> d.steps(0, 0, n));
        x.refuses("steps(4, 0, 9)", Check.IOOBE, d -> d.steps(4, 0, 9));
        x.refuses("steps(0, 2, 9)", Check.IOOBE, d -> d.steps(0, 2, 9));
        Asked.all(Deeds.MILL, "steps(0, 0, what)", (d, what) -> d.steps(0, 0, what), 2, 0, 1, -1, -1, -1, -1, -1, -1);
        new Asked(Deeds.EMPTY).refuses("steps(0, 0, 0)", Check.IOOBE, d -> d.steps(0, 0, 0));
        Asked.all("heir a;thing m 1;will m a;", "steps without blots", (d, what) -> d.steps(0, 0, what), 0, -1);
    }

    private static void pairs() {
        Document.promises(39, "they are one");
        String three = "heir a;thing m 1;thing n 1;thing o 1;will m a;will n a;";
        Asked x = new Asked(three);
        x.takes("pairs(thing, 1)", 0, 2, Check.IOOBE, (d, n) -> d.pairs(n, 1));
        x.takes("pairs(1, other)", 0, 2, Check.IOOBE, (d, n) -> d.pairs(1, n));
        x.refusesAll("pairs of one", Check.ILLEGAL, (d, n) -> d.pairs(n, n), 0, 1, 2);
        x.refusesAll("pairs of none such", Check.IOOBE, (d, n) -> d.pairs(n, n), -1, 3);
        new Asked("heir a;").refuses("pairs without things", Check.IOOBE, d -> d.pairs(0, 0));
    }

    private static void rows() {
        Document.promises(40, "DEBT of an E (0 to 999).");
        new Asked(Deeds.MILL).takes("rows", 0, 999, Check.ILLEGAL, (d, n) -> d.rows(n));
        Asked x = new Asked();
        x.takes("rows of a new object", 0, 999, Check.ILLEGAL, (d, n) -> d.rows(n));
        x.gives("rows(0)", 1, d -> d.rows(0));
        x.gives("rows(1)", 0, d -> d.rows(1));
    }

    private static void bare() {
        Document.promises(41, "KEPT apart (0 without READINGS).");
        Asked.each("bare()", BlottedDeed::bare, Deeds.EMPTY, 0, "heir a;heir b;", 3, "heir a;heir b;estate 1;", 0);
    }
}
