/** The sentences of ==== 2 and of promises 8 to 23 that name a boundary, one by one. */
public final class ReadingEdgeTest {
    private static final String CLEAN = "heir a;thing m 1;will m a;";
    private static final String LAST_TWO = "heir a;heir b;heir cc;heir dd;thing m 1;will m #2;";

    public static void main(String[] args) {
        whatARowTells();
        lawOfTheSum();
        lawOfOneHeir();
        lawOfTheLeast();
        order();
        worthOfAHeir();
        theFirstItIsWilledTo();
        barring();
        sureness();
        bestAndWorst();
        cleaning();
        knowing();
        swaying();
        gaining();
        settling();
        readings();
        reading();
        alive();
        bars();
        gets();
        goes();
        often();
        sure();
        coin();
        worth();
        cleaned();
        settles();
        fewest();
        sway();
        gains();
        settlement();
        Document.covers(8, 23);
        Check.end();
    }

    private static void whatARowTells() {
        Document.says("NUM by itself, HEIR by number, IS as 0 (\"is\"), 1 (\"not\")");
        String text = "heir a;heir bo;heir c;thing m 1;estate 99;coin bo #2;will m #1;when #0 bo m c 0;";
        Asked.all(text, "reading(0, b)", (d, b) -> d.reading(0, b), 99, 0, 0);
        Asked.all(text, "reading(3, b)", (d, b) -> d.reading(3, b), 99, 2, 1);
    }

    private static void lawOfTheSum() {
        Document.says("0: all coin together is E");
        String five = "heir a;heir b;coin a 3;coin b 2;";
        String most = "heir a;" + "coin a 99;".repeat(9);
        Asked.each("readings()", BlottedDeed::readings, five + "estate 4;", 0, five + "estate 5;", 1, five + "estate 6;", 0,
            most + "estate 890;", 0, most + "estate 891;", 1, most + "estate 892;", 0, "estate 1;", 0, "estate 0;", 1);
    }

    private static void lawOfOneHeir() {
        Document.says("1: no THING is willed to two HEIRS");
        String two = "heir a;heir b;thing m 1;thing n 1;";
        Asked.each("readings()", BlottedDeed::readings, two + "will m a;will m a;", 1, two + "will m a;will m b;", 0,
            two + "will m a;will n b;", 1, two + "will m a;will m a;will m b;", 0, two + "will m #1;will m #1;", 2);
    }

    private static void lawOfTheLeast() {
        Document.says("2: each HEIR has his least");
        String five = "heir a;heir b;estate 9;coin a 5;coin b 4;";
        Asked.each("readings()", BlottedDeed::readings, five + "least a 5;least b 4;", 1, five + "least a 6;least b 4;", 0,
            five + "least a 5;least b 5;", 0, "heir a;thing m 9;will m a;least a 1;", 0);
    }

    private static void order() {
        Document.says("rows by which all LAWS hold, in order (BLOT by BLOT, by CANDIDATES)");
        Asked x = new Asked(Deeds.WIDE);
        int[][] due = {{0, 0, 0, 0}, {99, 0, 0, 99}, {100, 0, 1, 0}, {9999, 0, 99, 99}, {10000, 1, 0, 0}, {19999, 1, 99, 99}};
        for (int[] row : due) {
            for (int b = 0; b < 3; b++) {
                int blot = b;
                x.gives("reading(" + row[0] + ", " + b + ")", row[b + 1], d -> d.reading(row[0], blot));
            }
        }
    }

    private static void worthOfAHeir() {
        Document.says("A HEIR's WORTH is his coin and V of THINGS that go to him");
        String most = "heir a;heir b;thing m 99;thing n 99;thing o 99;thing p 99;thing q 99;estate 396;"
            + "will m a;will n a;will o a;will p a;will q a;" + "coin a 99;".repeat(4);
        Asked.all(most, "gets(0, 0, what)", (d, what) -> d.gets(0, 0, what), 396, 891);
        Asked.all(most, "gets(0, 1, what)", (d, what) -> d.gets(0, 1, what), 0, 0);
        String fourth = "heir a;heir b;heir c;heir d;thing m 1;thing n 2;thing o 4;thing p 8;thing q 16;estate 396;will q d;"
            + "coin d 99;".repeat(4);
        Asked.all(fourth, "gets(0, h, 0)", (d, h) -> d.gets(0, h, 0), 0, 0, 0, 396);
        Asked.all(fourth, "gets(0, h, 1)", (d, h) -> d.gets(0, h, 1), 0, 0, 0, 412);
        Asked.all(fourth, "settlement", (d, h) -> d.settlement(h), 0, 0, 0, 412);
        Asked.each("bare()", BlottedDeed::bare, fourth, 7);
    }

    private static void theFirstItIsWilledTo() {
        Document.says("By a row that is against LAW 1 a THING goes to the first it is willed to");
        String two = "heir a;heir b;thing m 1;estate 5;";
        Asked.each("bars()", BlottedDeed::bars, two + "will m a;will m b;when is a m b 5;", 1,
            two + "will m a;will m b;when is b m b 5;", -1, two + "when not b m b 5;will m a;will m b;", 1,
            two + "will m b;will m a;when is b m b 5;", 1);
    }

    private static void barring() {
        Document.says("the first LAW without which there would be READINGS, if there are none");
        // 5 is against the least alone, 6 to 9 are against the sum alone
        String sumFirst = "heir a;estate 5;coin a #1;least a 6;";
        // m to a is against the second law alone, m to b against the third alone
        String oneHeirFirst = "heir a;heir b;thing m 1;estate 1;least a 1;will m #1;will m b;when is a m a 1;when is b m b 1;";
        Asked.each("bars()", BlottedDeed::bars, sumFirst, 0, oneHeirFirst, 1, "heir a;least a 1;", 2,
            "heir a;estate 5;coin a 4;least a 5;", -1, "heir a;estate 5;coin a 5;least a 5;", -1);
    }

    private static void sureness() {
        Document.says("so by all READINGS (not, if there are none)");
        Asked.each("sure(0, 0)", d -> d.sure(0, 0) ? 1 : 0, Deeds.SPLIT, 1, CLEAN, 1, Deeds.LATE, 0, Deeds.EMPTY, 0,
            "heir a;thing m 1;estate 1;will m a;", 0);
        Asked.each("sure(0, 1), by all but one", d -> d.sure(0, 1) ? 1 : 0, Deeds.LATE, 0);
    }

    private static void bestAndWorst() {
        Document.says("the most, the least WORTH by READINGS, of alike ones the first");
        int[][] due = {{17, 0, 0, 4}, {17, 0, 4, 0}, {7, 0, 2, 0}};
        for (int h = 0; h < due.length; h++) {
            int heir = h;
            Asked.all(Deeds.WILLS, "worth(" + h + ", what)", (d, what) -> d.worth(heir, what), due[h]);
        }
    }

    private static void cleaning() {
        Document.says("the greatest number of READINGS that may be left");
        Asked.all(Deeds.WIDE, "cleaned", (d, b) -> d.cleaned(b), 10000, 200, 200);
        Asked.all(Deeds.LATE, "cleaned", (d, b) -> d.cleaned(b), 2, 10);
        Asked.all(Deeds.EMPTY, "cleaned", (d, b) -> d.cleaned(b), 0, 0, 0);
        Asked.all("heir a;coin #1 0;", "cleaned", (d, b) -> d.cleaned(b), 1);
        Document.says("the BLOT of the least such number, of these the first");
        Asked.each("settles()", BlottedDeed::settles, Deeds.WIDE, 1, Deeds.WILLS, 1, Deeds.SPLIT, 0, Deeds.LATE, 0, Deeds.MILL, 0);
    }

    private static void knowing() {
        Document.says("the least number of BLOTS, CLEANED at one time, by which it is known to whom a THING goes, whatever shows;"
            + " of such sets the least (bits)");
        Asked.all(Deeds.LATE, "by the num it is not always known", (d, what) -> d.fewest(0, what), 1, 2);
        Asked.all(Deeds.MILL, "two blots would do", (d, what) -> d.fewest(0, what), 1, 2);
        Asked.all(Deeds.MILL, "nobody's cow", (d, what) -> d.fewest(1, what), 0, 0);
        Asked.all(Deeds.EIGHT, "the last of eight", (d, what) -> d.fewest(0, what), 1, 128);
        Asked.all(Deeds.EMPTY, "without readings", (d, what) -> d.fewest(0, what), 0, 0);
        Asked.all(CLEAN, "without blots", (d, what) -> d.fewest(0, what), 0, 0);
        Asked.all(Deeds.SPLIT, "what is sure", (d, what) -> d.fewest(0, what), 0, 0);
        Asked.all(LAST_TWO, "one of the last two heirs", (d, what) -> d.fewest(0, what), 1, 1);
        Asked.all(Deeds.MOST, "the most rows", (d, what) -> d.fewest(0, what), 1, 1);
    }

    private static void swaying() {
        Document.says("READINGS to which there is another one that differs from it there alone,"
            + " and by which the THING goes elsewhere");
        Asked.all(Deeds.LATE, "sway(0, b)", (d, b) -> d.sway(0, b), 0, 2);
        Asked.all(Deeds.WIDE, "sway(0, b)", (d, b) -> d.sway(0, b), 20000, 0, 0);
        Asked.all(Deeds.WIDE, "sway(1, b)", (d, b) -> d.sway(1, b), 0, 0, 0);
        Asked.all(Deeds.EIGHT, "sway(0, b)", (d, b) -> d.sway(0, b), 0, 0, 0, 0, 0, 0, 0, 256);
        Asked.all(Deeds.MILL, "sway(0, b), two at once", (d, b) -> d.sway(0, b), 0, 0, 0, 0);
        Asked.all(Deeds.EMPTY, "sway(0, b)", (d, b) -> d.sway(0, b), 0, 0, 0);
        Asked.all(LAST_TWO, "sway(0, b)", (d, b) -> d.sway(0, b), 2);
        Asked.all(Deeds.MOST, "sway(0, b)", (d, b) -> d.sway(0, b), 20000, 0, 0, 0);
    }

    private static void gaining() {
        Document.says("if by something that may stand there (by READINGS) his BEST is less than his BEST by all");
        Asked.all(Deeds.LATE, "gains", (d, b) -> d.gains(b), 1, 3);
        Asked.all("heir a;heir b;thing m 1;estate 5;coin a #1;will m #1;", "only 5 may stand", (d, b) -> d.gains(b), 0, 3);
        Asked.all(Deeds.SPLIT, "gains", (d, b) -> d.gains(b), 3, 3);
        Asked.all(Deeds.EMPTY, "gains", (d, b) -> d.gains(b), 0, 0, 0);
        Asked.all("heir a;heir b;heir c;heir d;thing m 1;will m #1;", "all four", (d, b) -> d.gains(b), 15);
        Asked.all("heir a;heir b;heir c;heir d;thing m 1;thing n 1;thing o 1;thing p 1;thing q 1;will q #1;", "the last thing",
            (d, b) -> d.gains(b), 15);
    }

    private static void settling() {
        Document.says("as much as others, cut, the first HEIRS 1 more each, till it is gone");
        int[][] due = {{0, 0, 0, 0}, {1, 1, 0, 0}, {2, 1, 1, 0}, {3, 1, 1, 1}, {4, 2, 1, 1}, {98, 33, 33, 32}, {99, 33, 33, 33}};
        for (int[] row : due) {
            Asked.all("heir a;heir b;heir cc;thing m " + row[0] + ";will m #1;", "settlement of " + row[0] + " left",
                (d, h) -> d.settlement(h), row[1], row[2], row[3]);
        }
        Asked.all("heir a;heir b;heir c;heir d;thing m 7;will m #1;", "four heirs", (d, h) -> d.settlement(h), 2, 2, 2, 1);
        Document.says("(E and V of THINGS that go to somebody by the first READING)");
        Asked.all("heir a;heir b;thing m 50;thing n 8;estate 3;coin a #1;coin b #1;will n #1;", "nobody's m",
            (d, h) -> d.settlement(h), 6, 5);
        Document.says("it can be, if nothing below 0 is left");
        Asked.all("heir a;heir b;thing m 5;estate 4;coin a 4;will m b;", "nothing left", (d, h) -> d.settlement(h), 4, 5);
        Asked.all("heir a;", "nothing at all", (d, h) -> d.settlement(h), 0);
    }

    private static void readings() {
        Document.promises(8, "How many READINGS.");
        Asked.each("readings()", BlottedDeed::readings, Deeds.EMPTY, 0, "", 1, "estate 1;", 0, Deeds.MILL, 4, Deeds.WIDE, 20000);
    }

    private static void reading() {
        Document.promises(9, "no such READING, HEIR, THING (so below, ahead of others)");
        Asked x = new Asked(Deeds.MILL);
        x.takes("reading(i, 0)", 0, 3, Check.IOOBE, (d, n) -> d.reading(n, 0));
        x.takes("reading(0, blot)", 0, 3, Check.NOSUCH, (d, n) -> d.reading(0, n));
        x.refusesAll("reading(i, 4)", Check.IOOBE, (d, n) -> d.reading(n, 4), -1, 4);
        x.refusesAll("reading(i, -1)", Check.IOOBE, (d, n) -> d.reading(n, -1), -1, 4);
        new Asked(Deeds.WIDE).takes("reading(i, 2)", 0, 19999, Check.IOOBE, (d, n) -> d.reading(n, 2));
        new Asked(Deeds.EMPTY).refusesAll("reading(0, blot)", Check.IOOBE, (d, n) -> d.reading(0, n), 0, 3, -1);
        new Asked(CLEAN).refusesAll("reading(0, blot)", Check.NOSUCH, (d, n) -> d.reading(0, n), 0, -1);
    }

    private static void alive() {
        Document.promises(10, "How many of its CANDIDATES stand there by some READING.");
        Asked.all(Deeds.MILL, "alive", (d, b) -> d.alive(b), 2, 2, 2, 2);
        Asked.all(Deeds.WIDE, "alive", (d, b) -> d.alive(b), 2, 100, 100);
        Asked.all("heir a;estate 5;coin a #1;", "one alone", (d, b) -> d.alive(b), 1);
        Asked.all(Deeds.EMPTY, "alive", (d, b) -> d.alive(b), 0, 0, 0);
        new Asked(Deeds.MILL).takes("alive", 0, 3, Check.NOSUCH, (d, n) -> d.alive(n));
        new Asked(CLEAN).refusesAll("alive without blots", Check.NOSUCH, (d, n) -> d.alive(n), -1, 0);
    }

    private static void bars() {
        Document.promises(11, "NONE: there are READINGS, or none even so.");
        Asked.each("bars()", BlottedDeed::bars, "", -1, Deeds.MILL, -1, "heir a;estate 5;coin a #1;", -1, "estate 1;", 0,
            "heir a;heir b;thing m 5;will m a;will m b;least a 1;", -1, "heir a;heir b;thing m 5;will m a;will m b;", 1);
    }

    private static void gets() {
        Document.promises(12, "Coin of a HEIR by the i-th READING (what 0), his WORTH (1).");
        Asked x = new Asked(Deeds.MILL);
        x.takes("gets(i, 0, 0)", 0, 3, Check.IOOBE, (d, n) -> d.gets(n, 0, 0));
        x.takes("gets(0, heir, 0)", 0, 2, Check.IOOBE, (d, n) -> d.gets(0, n, 0));
        x.takes("gets(0, 0, what)", 0, 1, Check.ILLEGAL, (d, n) -> d.gets(0, 0, n));
        Asked y = new Asked(Deeds.MILL);
        y.refuses("gets(4, 0, 2)", Check.IOOBE, d -> d.gets(4, 0, 2));
        y.refuses("gets(0, 3, 2)", Check.IOOBE, d -> d.gets(0, 3, 2));
        y.refuses("gets(-1, -1, -1)", Check.IOOBE, d -> d.gets(-1, -1, -1));
        new Asked(Deeds.EMPTY).refuses("gets(0, 0, 0)", Check.IOOBE, d -> d.gets(0, 0, 0));
        new Asked("thing m 1;").refuses("gets(0, 0, 0) without heirs", Check.IOOBE, d -> d.gets(0, 0, 0));
    }

    private static void goes() {
        Document.promises(13, "To whom a THING goes by the i-th READING; NONE: nobody.");
        Asked.all(Deeds.MILL, "goes(i, 0)", (d, i) -> d.goes(i, 0), 0, 1, 0, 1);
        Asked.all(Deeds.MILL, "goes(i, 1)", (d, i) -> d.goes(i, 1), -1, -1, -1, -1);
        Asked x = new Asked(Deeds.MILL);
        x.takes("goes(i, 0)", 0, 3, Check.IOOBE, (d, n) -> d.goes(n, 0));
        x.takes("goes(0, thing)", 0, 1, Check.IOOBE, (d, n) -> d.goes(0, n));
        new Asked(Deeds.EMPTY).refuses("goes(0, 0)", Check.IOOBE, d -> d.goes(0, 0));
    }

    private static void often() {
        Document.promises(14, "By how many READINGS it goes to a HEIR.");
        Asked.all(Deeds.LATE, "often(0, h)", (d, h) -> d.often(0, h), 1, 10);
        Asked.all(Deeds.WIDE, "often(0, h)", (d, h) -> d.often(0, h), 10000, 10000);
        Asked.all(Deeds.WIDE, "often(1, h)", (d, h) -> d.often(1, h), 0, 0);
        Asked.all(Deeds.EMPTY, "often(0, h)", (d, h) -> d.often(0, h), 0, 0);
        Asked x = new Asked(Deeds.MILL);
        x.takes("often(thing, 0)", 0, 1, Check.IOOBE, (d, n) -> d.often(n, 0));
        x.takes("often(0, heir)", 0, 2, Check.IOOBE, (d, n) -> d.often(0, n));
    }

    private static void sure() {
        Document.promises(15, "Whether that is SURE.");
        Asked x = new Asked(Deeds.MILL);
        x.takes("sure(thing, 0)", 0, 1, Check.IOOBE, (d, n) -> d.sure(n, 0) ? 1 : 0);
        x.takes("sure(0, heir)", 0, 2, Check.IOOBE, (d, n) -> d.sure(0, n) ? 1 : 0);
        x.gives("nobody's cow", 0, d -> d.sure(1, 0) ? 1 : 0);
    }

    private static void coin() {
        Document.promises(16, "the least (what 0), the most (1); NONE: there are none.");
        Asked.all(Deeds.SPLIT, "coin(0, what)", (d, what) -> d.coin(0, what), 0, 9);
        Asked.all(Deeds.EMPTY, "coin(0, what)", (d, what) -> d.coin(0, what), -1, -1);
        Asked.all("heir a;estate 891;" + "coin a 99;".repeat(9), "the most coin", (d, what) -> d.coin(0, what), 891, 891);
        Asked x = new Asked(Deeds.MILL);
        x.takes("coin(heir, 0)", 0, 2, Check.IOOBE, (d, n) -> d.coin(n, 0));
        x.takes("coin(0, what)", 0, 1, Check.ILLEGAL, (d, n) -> d.coin(0, n));
        x.refuses("coin(3, 2)", Check.IOOBE, d -> d.coin(3, 2));
        Asked none = new Asked(Deeds.EMPTY);
        none.refusesAll("coin(0, what)", Check.ILLEGAL, (d, n) -> d.coin(0, n), -1, 2);
        none.refusesAll("coin(heir, 0)", Check.IOOBE, (d, n) -> d.coin(n, 0), -1, 2);
    }

    private static void worth() {
        Document.promises(17, "BEST (what 0), WORST (1): the WORTH; the first such READING (2, 3); NONE: there are none.");
        Asked.all(Deeds.MILL, "worth(0, what)", (d, what) -> d.worth(0, what), 51, 0, 2, 1);
        Asked.all(Deeds.EMPTY, "worth(1, what)", (d, what) -> d.worth(1, what), -1, -1, -1, -1);
        Asked x = new Asked(Deeds.MILL);
        x.takes("worth(heir, 0)", 0, 2, Check.IOOBE, (d, n) -> d.worth(n, 0));
        x.takes("worth(0, what)", 0, 3, Check.ILLEGAL, (d, n) -> d.worth(0, n));
        x.refuses("worth(3, 4)", Check.IOOBE, d -> d.worth(3, 4));
        new Asked(Deeds.EMPTY).refusesAll("worth(0, what)", Check.ILLEGAL, (d, n) -> d.worth(0, n), -1, 4);
    }

    private static void cleaned() {
        Document.promises(18, "CLEANED: how many may be left (0 without READINGS).");
        Asked.all(Deeds.EMPTY, "cleaned", (d, b) -> d.cleaned(b), 0, 0, 0);
        new Asked(Deeds.MILL).takes("cleaned", 0, 3, Check.NOSUCH, (d, n) -> d.cleaned(n));
        new Asked(Deeds.EMPTY).takes("cleaned", 0, 2, Check.NOSUCH, (d, n) -> d.cleaned(n));
        new Asked(CLEAN).refusesAll("cleaned without blots", Check.NOSUCH, (d, n) -> d.cleaned(n), -1, 0);
    }

    private static void settles() {
        Document.promises(19, "SETTLES most; NONE: there are no BLOTS.");
        Asked.each("settles()", BlottedDeed::settles, "", -1, CLEAN, -1, "estate 1;", -1, "heir a;coin #1 0;", 0, Deeds.EMPTY, 0,
            Deeds.EIGHT, 0);
    }

    private static void fewest() {
        Document.promises(20, "FEWEST: 0 how many, 1 the bits.");
        Asked.all(Deeds.WILLS, "fewest(1, what)", (d, what) -> d.fewest(1, what), 1, 2);
        Asked x = new Asked(Deeds.WILLS);
        x.takes("fewest(thing, 0)", 0, 1, Check.IOOBE, (d, n) -> d.fewest(n, 0));
        x.takes("fewest(0, what)", 0, 1, Check.ILLEGAL, (d, n) -> d.fewest(0, n));
        x.refuses("fewest(2, 2)", Check.IOOBE, d -> d.fewest(2, 2));
        new Asked("heir a;").refuses("fewest(0, 0) without things", Check.IOOBE, d -> d.fewest(0, 0));
    }

    private static void sway() {
        Document.promises(21, "SWAY of a BLOT on a THING.");
        Asked x = new Asked(Deeds.WILLS);
        x.takes("sway(thing, 0)", 0, 1, Check.IOOBE, (d, n) -> d.sway(n, 0));
        x.takes("sway(0, blot)", 0, 1, Check.NOSUCH, (d, n) -> d.sway(0, n));
        x.refusesAll("sway(thing, 2)", Check.IOOBE, (d, n) -> d.sway(n, 2), -1, 2);
        new Asked(CLEAN).refuses("sway(0, 0) without blots", Check.NOSUCH, d -> d.sway(0, 0));
    }

    private static void gains() {
        Document.promises(22, "Who GAINS by a BLOT: HEIRS, as bits.");
        Asked.all(Deeds.WILLS, "gains", (d, b) -> d.gains(b), 3, 7);
        new Asked(Deeds.MILL).takes("gains", 0, 3, Check.NOSUCH, (d, n) -> d.gains(n));
        new Asked(Deeds.EMPTY).takes("gains", 0, 2, Check.NOSUCH, (d, n) -> d.gains(n));
    }

    private static void settlement() {
        Document.promises(23, "NONE: it can't be, or there are no READINGS.");
        Asked.all(Deeds.EMPTY, "settlement", (d, h) -> d.settlement(h), -1, -1);
        Asked.all(Deeds.MILL, "settlement", (d, h) -> d.settlement(h), 17, 26, 27);
        new Asked(Deeds.MILL).takes("settlement", 0, 2, Check.IOOBE, (d, n) -> d.settlement(n));
        new Asked(Deeds.EMPTY).takes("settlement", 0, 1, Check.IOOBE, (d, n) -> d.settlement(n));
        new Asked().refusesAll("settlement without heirs", Check.IOOBE, (d, n) -> d.settlement(n), -1, 0);
    }
}
