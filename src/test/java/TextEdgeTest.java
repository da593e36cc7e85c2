import java.util.function.Consumer;
import java.util.stream.LongStream;

/** The sentences of the document's head, of ==== 1 and of promises 1 to 7 that name a boundary, one by one. */
public final class TextEdgeTest {
    private static final String FOUR = "heir a;heir b;heir c;heir d;";
    private static final String FIVE = "thing m 1;thing n 1;thing o 1;thing p 1;thing q 1;";
    private static final String BASE = "heir a;thing m 1;";
    private static final String EIGHT_BLOTS = BASE + "when #2 #1 m #1 #1;when #2 #1 m #1 #1;";
    /** 4 times 4 times 4 times 4 times 4 times 2 times 10: the least number of rows above 20,000 that can be told. */
    private static final String ROWS_20480 = FOUR + "thing m 1;" + "coin #1 0;".repeat(5) + "when #0 a m a #1;";

    public static void main(String[] args) {
        callsAndBytes();
        clauses();
        heirs();
        things();
        estate();
        least();
        parts();
        coinAndWill();
        when();
        names();
        namesToldAhead();
        placesOfBlots();
        blotsAndWidths();
        blottedNums();
        blottedHeirs();
        blottedIs();
        rows();
        numbers();
        words();
        blanks();
        theFirstFault();
        whatCannotStand();
        noneSuch();
        tooMany();
        theEnd();
        newObject();
        feed();
        deed();
        deedBehindDeeds();
        faultyDeed();
        refusedDeed();
        fault();
        told();
        blot();
        candidate();
        Document.covers(1, 7);
        Check.end();
    }

    private static Asked good(String text, int blots) {
        Asked x = new Asked();
        x.feed(text);
        x.gives("deed of '" + text + "'", blots, d -> d.deed(text.length()));
        x.gives("fault() of '" + text + "'", -1, BlottedDeed::fault);
        return x;
    }

    /** A text whose fault stands behind its first piece. */
    private static void bad(int kind, String ahead, String from) {
        String text = ahead + from;
        Asked x = new Asked();
        x.feed(text);
        x.gives("deed of '" + text + "'", kind - 10, d -> d.deed(text.length()));
        x.gives("fault() of '" + text + "'", ahead.length(), BlottedDeed::fault);
        x.gives("told(0) behind '" + text + "'", 0, d -> d.told(0));
    }

    private static void callsAndBytes() {
        Document.says("An object is used for at most 512 calls after it has been made");
        Asked last = new Asked(Deeds.MILL);
        last.idle(508);
        last.gives("the last calls", 4, BlottedDeed::readings);
        Document.says("A DEED is a text of up to 600 bytes");
        good("", 0);
        good(" ".repeat(593) + "heir a;", 0).gives("told(0)", 1, d -> d.told(0));
        Asked full = new Asked();
        full.feed(" ".repeat(593) + "heir a;");
        full.refuses("deed(601)", Check.ILLEGAL, d -> d.deed(601));
        full.gives("deed(600)", 0, d -> d.deed(600));
    }

    private static void clauses() {
        Document.says("{ CLAUSE \";\" }, at most 40");
        String forty = "estate 2;".repeat(39) + "estate 1;";
        good(forty, 0).gives("told(4)", 1, d -> d.told(4));
        good(forty + "  ", 0);
        bad(3, forty, "estate 3;");
        bad(3, forty + " ", "heir a;");
        bad(3, forty, "coin a 1;");
    }

    private static void heirs() {
        Document.says("(HEIRS, numbered from 0 on, 4 at most)");
        Asked x = good(FOUR + "estate 10;coin a 1;coin b 2;coin c 3;coin d 4;", 0);
        x.gives("told(0)", 4, d -> d.told(0));
        for (int h = 0; h < 4; h++) {
            int heir = h;
            x.gives("coin(" + h + ", 0)", h + 1, d -> d.coin(heir, 0));
        }
        x.refuses("coin(4, 0)", Check.IOOBE, d -> d.coin(4, 0));
        bad(3, FOUR, "heir e;");
    }

    private static void things() {
        Document.says("(THINGS likewise, 5; worth V, 0 to 99)");
        Asked x = good(FOUR + FIVE + "will m a;will n b;will o c;will p d;", 0);
        x.gives("told(1)", 5, d -> d.told(1));
        for (int t = 0; t < 4; t++) {
            int thing = t;
            x.gives("goes(0, " + t + ")", t, d -> d.goes(0, thing));
        }
        x.gives("goes(0, 4)", -1, d -> d.goes(0, 4));
        x.refuses("goes(0, 5)", Check.IOOBE, d -> d.goes(0, 5));
        bad(3, FIVE, "thing r 1;");
        good("heir a;thing m 0;will m a;", 0).gives("gets(0, 0, 1)", 0, d -> d.gets(0, 0, 1));
        good("heir a;thing m 99;will m a;", 0).gives("gets(0, 0, 1)", 99, d -> d.gets(0, 0, 1));
        bad(2, "thing m ", "100;");
    }

    private static void estate() {
        Document.says("\"estate\" E (coin, 0 to 999; 0 without; the last counts)");
        String[] texts = {"", "estate 0;", "estate 999;", "estate 999;estate 1;", "estate 1;estate 0;"};
        int[] due = {0, 0, 999, 1, 0};
        for (int i = 0; i < texts.length; i++) {
            good(texts[i], 0).gives("told(4) of '" + texts[i] + "'", due[i], d -> d.told(4));
        }
        bad(2, "estate ", "1000;");
        bad(2, "estate 5;estate ", "1000;");
    }

    private static void least() {
        Document.says("\"least\" HEIR N (that much coin at least, 0 to 999; 0 without; the last counts)");
        String five = "heir a;heir b;estate 5;coin a 5;";
        String nine = "heir a;estate 891;" + "coin a 99;".repeat(9);
        String[] texts = {five, five + "least a 0;", five + "least a 5;", five + "least a 6;", five + "least a 999;",
            five + "least a 999;least a 5;", five + "least a 0;least a 6;", five + "least a 6;least b 0;",
            nine + "least a 891;", nine + "least a 892;"};
        int[] due = {1, 1, 1, 0, 0, 1, 0, 0, 1, 0};
        for (int i = 0; i < texts.length; i++) {
            good(texts[i], 0).gives("readings() of '" + texts[i] + "'", due[i], BlottedDeed::readings);
        }
        bad(2, "heir a;least a ", "1000;");
    }

    private static void parts() {
        Document.says("or a PART of it, numbered from 0 on, 9 at most");
        Asked x = good("heir a;coin a #1;" + "coin a 0;".repeat(7) + "coin a #1;", 2);
        x.gives("told(2)", 9, d -> d.told(2));
        x.gives("blot(0, 3)", 0, d -> d.blot(0, 3));
        x.gives("blot(1, 3)", 8, d -> d.blot(1, 3));
        String nine = BASE + "coin a 0;".repeat(9);
        good(nine + "estate 0;heir b;thing n 1;least a 0;", 0);
        bad(3, nine, "coin a 0;");
        bad(3, nine, "will m a;");
        bad(3, nine, "when is a m a 0;");
    }

    private static void coinAndWill() {
        Document.says("\"coin\" HEIR NUM (the HEIR gets so much, 0 to 99)");
        good("heir a;coin a 0;", 0).gives("coin(0, 0)", 0, d -> d.coin(0, 0));
        good("heir a;estate 99;coin a 99;", 0).gives("coin(0, 0)", 99, d -> d.coin(0, 0));
        bad(2, "heir a;coin a ", "100;");
        Document.says("\"will\" THING HEIR (he gets the THING)");
        good("heir a;heir b;thing m 1;will m b;", 0).gives("goes(0, 0)", 1, d -> d.goes(0, 0));
        Asked second = good("heir a;heir b;thing m 1;thing n 1;will n b;", 0);
        second.gives("goes(0, 0)", -1, d -> d.goes(0, 0));
        second.gives("goes(0, 1)", 1, d -> d.goes(0, 1));
    }

    private static void when() {
        Document.says("if the first HEIR gets the THING by a will, IS being \"is\", or does not, IS being \"not\":"
            + " the second HEIR gets so much coin");
        String two = "heir a;heir b;thing m 1;estate 99;";
        String[] clauses = {"when is a m b 99;will m a;", "when not a m b 99;will m b;", "when not a m b 99;",
            "when is a m b 99;will m b;", "when not a m b 99;will m a;", "when is a m b 99;"};
        int[] due = {99, 99, 99, -1, -1, -1};
        for (int i = 0; i < clauses.length; i++) {
            good(two + clauses[i], 0).gives("coin(1, 0) by '" + clauses[i] + "'", due[i], d -> d.coin(1, 0));
        }
        bad(2, two + "when is a m b ", "100;");
    }

    private static void names() {
        Document.says("NAME: 1 to 9 small letters, of HEIRS and THINGS each another one");
        good("heir a;thing z 1;", 0);
        good("heir abcdefghi;thing rstuvwxyz 1;", 0);
        bad(2, "heir ", "abcdefghij;");
        bad(2, "thing ", "abcdefghij 1;");
        bad(1, "heir ", ";");
        bad(1, "thing ", "1;");
        for (char sign : new char[] {'`', '{', 'A', 'Z', '0', '-', (char) 228}) {
            bad(1, "heir ", sign + ";");
            bad(1, "heir a", sign + ";");
        }
        good("heir abcdefgh;heir abcdefghi;heir abcdefghj;heir jabcdefgh;thing ab 1;thing ba 1;thing aab 1;", 0);
        good("heir a;heir aa;heir aaa;heir z;thing zz 1;thing zzz 1;thing b 1;thing bb 1;thing ba 1;", 0);
        bad(2, "heir a;heir ", "a;");
        bad(2, "heir a;thing ", "a 1;");
        bad(2, "thing a 1;heir ", "a;");
        bad(2, "thing a 1;thing ", "a 1;");
        bad(2, "heir abcdefghi;heir ", "abcdefghi;");
    }

    private static void namesToldAhead() {
        Document.says("HEIR, THING: such a NAME told ahead");
        good("heir a;coin a 0;", 0);
        bad(2, "coin ", "a 0;heir a;");
        good(BASE + "will m a;", 0);
        bad(2, "heir a;will ", "m a;thing m 1;");
        bad(2, BASE + "coin ", "m 0;");
        bad(2, BASE + "will ", "a a;");
        bad(2, BASE + "least ", "b 0;");
        bad(2, BASE + "when is ", "b m a 0;");
        bad(2, BASE + "when is a ", "n a 0;");
        bad(2, BASE + "when is a m ", "b 0;");
        bad(2, BASE + "coin ", "aa 0;");
    }

    private static void placesOfBlots() {
        Document.says("In PARTS, for HEIR, NUM and IS, may stand a BLOT");
        good(BASE + "coin #1 #1;will m #1;when #2 #1 m #1 #1;", 7);
        bad(1, BASE + "will ", "#1 a;");
        bad(1, BASE + "when is a ", "#1 a 1;");
        bad(1, "heir ", "#1;");
        bad(1, "thing ", "#1 1;");
        bad(1, "thing m ", "#1;");
        bad(1, "estate ", "#1;");
        bad(1, "heir a;least ", "#1 1;");
        bad(1, "heir a;least a ", "#1;");
        bad(1, "heir a;", "#1;");
    }

    private static void blotsAndWidths() {
        Document.says("(BLOTS, numbered from 0 on, 8 at most; W 0 to 9 letters or digits wide, 0: nobody knows)");
        Asked x = good(EIGHT_BLOTS + "coin a 0;", 8);
        x.gives("told(3)", 8, d -> d.told(3));
        x.gives("blot(0, 0)", 2, d -> d.blot(0, 0));
        x.gives("blot(7, 0)", 0, d -> d.blot(7, 0));
        x.refuses("blot(8, 0)", Check.NOSUCH, d -> d.blot(8, 0));
        bad(3, EIGHT_BLOTS + "coin ", "#1 0;");
        bad(3, EIGHT_BLOTS + "coin a ", "#3;");
        good("heir abcdefghi;coin #0 0;", 1).gives("blot(0, 1)", 0, d -> d.blot(0, 1));
        good("heir abcdefghi;coin #9 0;", 1).gives("blot(0, 1)", 9, d -> d.blot(0, 1));
        bad(2, "heir abcdefghi;coin #", "10 0;");
    }

    /** What a blot's candidates are: the first, the last, and how many. */
    private static void span(Asked x, int blot, int first, int last, int many) {
        x.gives("candidate(" + blot + ", 0)", first, d -> d.candidate(blot, 0));
        x.gives("the last of blot " + blot, last, d -> d.candidate(blot, many - 1));
        x.gives("behind the last of blot " + blot, -1, d -> d.candidate(blot, many));
        x.gives("blot(" + blot + ", 2)", many, d -> d.blot(blot, 2));
    }

    private static void blottedNums() {
        Document.says("it hides a NUM (of one digit 0 to 9, of two 10 to 99, with W 0: 0 to 99)");
        span(good("heir a;coin a #1;", 1), 0, 0, 9, 10);
        span(good("heir a;coin a #2;", 1), 0, 10, 99, 90);
        span(good("heir a;coin a #0;", 1), 0, 0, 99, 100);
        span(good(BASE + "when is a m a #2;", 1), 0, 10, 99, 90);
        bad(2, "heir a;coin a #", "3;");
        bad(2, BASE + "when is a m a #", "3;");
    }

    private static void blottedHeirs() {
        Document.says("a HEIR (of those told by now, whose NAME is so long, with W 0: all)");
        Asked x = good("heir a;heir bo;heir c;coin #1 0;coin #2 0;coin #0 0;heir d;", 3);
        span(x, 0, 0, 2, 2);
        span(x, 1, 1, 1, 1);
        span(x, 2, 0, 2, 3);
        bad(2, "heir a;heir bo;coin #", "3 0;heir cat;");
        bad(2, "coin #", "0 5;heir a;");
        bad(2, BASE + "will m #", "2;");
        bad(2, BASE + "when is #", "2 m a 0;");
        bad(2, BASE + "when is a m #", "2 0;");
    }

    private static void blottedIs() {
        Document.says("or IS (\"is\", 2, or \"not\", 3; with W 0: both)");
        span(good(BASE + "when #2 a m a 0;", 1), 0, 0, 0, 1);
        span(good(BASE + "when #3 a m a 0;", 1), 0, 1, 1, 1);
        span(good(BASE + "when #0 a m a 0;", 1), 0, 0, 1, 2);
        bad(2, BASE + "when #", "1 a m a 0;");
        bad(2, BASE + "when #", "4 a m a 0;");
        Document.says("its CANDIDATES in this order, HEIRS by number; there is one at least");
        Asked x = good("heir zz;heir a;heir yy;heir b;coin #2 0;coin #1 0;coin #0 0;", 3);
        span(x, 0, 0, 2, 2);
        span(x, 1, 1, 3, 2);
        span(x, 2, 0, 3, 4);
    }

    private static void rows() {
        Document.says("Rows of CANDIDATES (one for each BLOT) are 20,000 at most");
        good("", 0).gives("told(6) without blots", 1, d -> d.told(6));
        good(Deeds.WIDE, 3).gives("told(6)", 20000, d -> d.told(6));
        good("heir a;heir b;" + "coin a #1;".repeat(3) + "coin #1 #1;", 5).gives("told(6)", 20000, d -> d.told(6));
        bad(4, ROWS_20480, "");
        bad(4, "heir a;" + "coin a #0;".repeat(8), "");
    }

    private static void numbers() {
        Document.says("Numbers: digits, as many as stand there");
        good("estate 0000000000000000000000000000999;", 0).gives("told(4)", 999, d -> d.told(4));
        for (String number : new String[] {"0001000", "9990", "4294967297", "18446744073709551617", "9".repeat(300)}) {
            bad(2, "estate ", number + ";");
        }
        good("heir a;coin a #02;", 1).gives("blot(0, 1)", 2, d -> d.blot(0, 1));
        good("heir a;coin a #00;", 1).gives("blot(0, 1)", 0, d -> d.blot(0, 1));
        bad(2, "heir a;coin a #", "010;");
        for (char sign : new char[] {'/', ':', '-', '.'}) {
            bad(1, "estate ", sign + "1;");
            bad(1, "estate 1", sign + ";");
        }
    }

    private static void words() {
        Document.says("WORDS and NAMES: small letters, as many as stand there (behind one, ahead of another one, stands a blank)");
        good("heir a;", 0);
        bad(1, "", "heira;");
        bad(1, "", "jeir a;");
        bad(1, "", "heis a;");
        bad(1, "heir a ", "b;");
        bad(1, "heir a;", "coina 1;");
        bad(2, BASE + "will ", "ma;");
        bad(2, BASE + "when ", "isa m a 1;");
        good("heir a;thing m5;estate7;coin a7;coin a#1;when#2#1m#1#1;", 5);
    }

    private static void blanks() {
        Document.says("blanks (32) may stand ahead of all these, and at the end");
        good("  ", 0);
        good("  heir  a  ;  thing  m  5  ;  estate  5  ;  least  a  0  ;  coin  a  #  1  ;  when  #  0  a  m  a  5  ;  ", 2);
        for (int sign : new int[] {0, 9, 10, 13, 31, 33, 127, 128, 160, 255}) {
            String other = Character.toString((char) sign);
            bad(1, "", other + "heir a;");
            bad(1, "heir a;", other);
            bad(1, "heir", other + "a;");
        }
    }

    private static void theFirstFault() {
        Document.says("FAULTS, the first from the left, at its first byte");
        bad(2, "heir a;coin ", "b 100?");
        bad(2, "heir a;coin a ", "100?");
        bad(3, FOUR, "heir abcdefghij?");
        bad(1, ROWS_20480, "?");
        bad(2, "estate    ", "1234;");
        bad(2, "heir    ", "abcdefghijk;");
        bad(3, FOUR + "    ", "heir e;");
    }

    private static void whatCannotStand() {
        Document.says("1 what can't stand there (at the length, if the text ends too early)");
        String[] cut = {"heir", "heir ", "heir b", "heir b ", "thing", "thing n", "thing n ", "thing n 1", "estate", "estate ",
            "estate 1", "least", "least a", "least a 1", "coin", "coin a", "coin a 1", "coin #", "coin #1", "coin a #",
            "coin a #1", "will", "will m", "will m a", "will m #", "when", "when is", "when is a", "when is a m",
            "when is a m a", "when is a m a 1", "when #", "when #0", "when is #", "when is a m #", "when is a m a #"};
        for (String clause : cut) {
            bad(1, BASE + clause, "");
        }
        bad(1, "", ";");
        bad(1, "heir a;", ";");
        bad(1, "", "5;");
        bad(1, "", "hei");
        bad(1, "", "heirs a;");
        bad(1, "estate 5 ", "5;");
        bad(1, "heir a;coin a ", "a;");
        bad(1, "heir a;coin ", "5 5;");
        bad(1, BASE + "when ", "5 a m a 5;");
        bad(1, "heir a;coin a #", "a;");
        bad(1, "heir a;coin a #", "#1;");
    }

    private static void noneSuch() {
        Document.says("2 a number that is none such, a NAME of more than 9 letters, one told twice, or that is none such"
            + " (as HEIR, THING); of IS another WORD; a W without CANDIDATES");
        bad(2, "thing m ", "100;");
        bad(2, "heir ", "abcdefghij;");
        bad(2, "heir a;heir ", "a;");
        bad(2, "heir abcdefghi;coin ", "abcdefghij 0;");
        bad(2, "thing abcdefghi 1;heir a;will ", "abcdefghij a;");
        for (String word : new String[] {"i", "iss", "us", "it", "no", "nots", "nut", "a", "abcdefghij", "when"}) {
            bad(2, BASE + "when ", word + " a m a 0;");
        }
        good(BASE + "when is a m a 0;when not a m a 0;", 0);
        bad(2, "heir a;coin #", "2 0;");
        bad(2, "heir a;coin #  ", "2 0;");
    }

    private static void tooMany() {
        Document.says("3 a CLAUSE, HEIR, THING or PART too many (at its word), a 9th BLOT (at its #)");
        bad(3, "estate 1;".repeat(40), "estate");
        bad(3, FOUR, "heir");
        bad(3, FIVE, "thing");
        bad(3, "heir a;" + "coin a 0;".repeat(9), "coin");
        bad(3, EIGHT_BLOTS + "coin ", "#");
        bad(3, EIGHT_BLOTS + "coin a  ", "# 1;");
    }

    private static void theEnd() {
        Document.says("4 at the end (the length): rows are too many; of one the least");
        bad(4, ROWS_20480 + "   ", "");
        bad(4, ROWS_20480 + "estate 1;", "");
        bad(1, ROWS_20480 + "estate 1", "");
        bad(1, "estate 1;".repeat(40), "estat 1;");
        bad(1, "estate 1;".repeat(40), ";");
        bad(1, EIGHT_BLOTS + "will ", "#1 a;");
    }

    private static void newObject() {
        Document.promises(1, "No HEIRS.");
        Asked x = new Asked();
        for (int what = 0; what < 7; what++) {
            int w = what;
            x.gives("told(" + w + ")", w == 6 ? 1 : 0, d -> d.told(w));
        }
        x.gives("readings()", 1, BlottedDeed::readings);
        x.refuses("coin(0, 0)", Check.IOOBE, d -> d.coin(0, 0));
        x.refuses("goes(0, 0)", Check.IOOBE, d -> d.goes(0, 0));
        x.refuses("alive(0)", Check.NOSUCH, d -> d.alive(0));
        x.refuses("struck(0)", Check.IOOBE, d -> d.struck(0));
        x.refuses("more(0, 0)", Check.IOOBE, d -> d.more(0, 0));
        x.refuses("deed(1)", Check.ILLEGAL, d -> d.deed(1));
    }

    private static void feed() {
        Document.promises(2, "Twenty bytes come on the TAPE, of each number the highest first: how many there are");
        Asked x = new Asked();
        // "heir", " a;e", "stat", "e 12", "3;", then a byte above 127
        x.gives("feed", 20, d -> d.feed(0x68656972, 0x20613b65, 0x73746174, 0x65203132, 0x333b80ff));
        x.gives("count(3)", 20, d -> d.count(3));
        x.gives("deed(18)", 0, d -> d.deed(18));
        x.gives("told(4)", 123, d -> d.told(4));
        x.gives("feed", 20, d -> d.feed(-1, Integer.MIN_VALUE, Integer.MAX_VALUE, 0, 1));
        x.gives("feed", 40, d -> d.feed(0, 0, 0, 0, 0));
        Document.promises(2, "NONE, doing nothing, if there would be more than 600");
        Asked full = new Asked();
        full.feed("heir a;estate 123;" + " ".repeat(562));
        full.gives("the 30th", 600, d -> d.feed(0x20202020, 0x20202020, 0x20202020, 0x20202020, 0x2068653b));
        full.gives("the 31st", -1, d -> d.feed(0x3f3f3f3f, 0x3f3f3f3f, 0x3f3f3f3f, 0x3f3f3f3f, 0x3f3f3f3f));
        full.gives("the 32nd", -1, d -> d.feed(0, 0, 0, 0, 0));
        full.gives("count(3)", 600, d -> d.count(3));
        full.gives("deed(597)", 0, d -> d.deed(597));
        full.gives("told(4)", 123, d -> d.told(4));
        full.gives("feed on an empty tape", 20, d -> d.feed(0, 0, 0, 0, 0));
    }

    private static Asked testified() {
        Asked x = new Asked("heir a;estate 5;coin a #1;");
        x.gives("copy", 1, d -> d.copy(0, 0, 5));
        x.gives("habit", 1, d -> d.habit(0, 1, 2, 3));
        x.gives("image()", 1, BlottedDeed::image);
        return x;
    }

    private static void counts(Asked x, int... due) {
        for (int what = 0; what < due.length; what++) {
            int w = what;
            x.gives("count(" + w + ")", due[w], d -> d.count(w));
        }
    }

    private static void deed() {
        Document.promises(3, "The first n bytes of the TAPE (empty then) are the DEED (COPIES, HABITS, IMAGES gone): how many BLOTS");
        Asked x = testified();
        x.feed("heir b;heir c;coin b #1;");
        x.gives("deed(14)", 0, d -> d.deed(14));
        x.gives("told(0)", 2, d -> d.told(0));
        x.gives("told(4)", 0, d -> d.told(4));
        counts(x, 0, 0, 0, 0);
        x.gives("restore()", -1, BlottedDeed::restore);
        String[] texts = {"heir abc;", "estate 123;", "heir a;coin a #12;", "heir a;"};
        int[] bytes = {7, 9, 16, 6};
        for (int i = 0; i < texts.length; i++) {
            int n = bytes[i];
            Asked cut = new Asked();
            cut.feed(texts[i]);
            cut.gives("deed(" + n + ") of '" + texts[i] + "'", -9, d -> d.deed(n));
            cut.gives("its fault()", n, BlottedDeed::fault);
        }
        for (String end : new String[] {"heir aa", "estate 12", "heir a;coin a #1"}) {
            Asked cut = new Asked();
            cut.feed(" ".repeat(600 - end.length()) + end);
            cut.gives("deed(600) that ends in '" + end + "'", -9, d -> d.deed(600));
            cut.gives("its fault()", 600, BlottedDeed::fault);
        }
        Asked none = testified();
        none.feed("heir b;");
        none.gives("deed(0)", 0, d -> d.deed(0));
        none.gives("told(0)", 0, d -> d.told(0));
        counts(none, 0, 0, 0, 0);
        Asked eight = new Asked();
        eight.feed(EIGHT_BLOTS);
        eight.gives("deed", 8, d -> d.deed(EIGHT_BLOTS.length()));
    }

    /** Nothing of deeds that were told earlier, with faults or without, is left in the latest one. */
    private static void deedBehindDeeds() {
        String full = FOUR + FIVE + "estate 999;least a 99;least d 99;coin a 9;will q d;" + "coin #1 0;".repeat(6)
            + "when #2 #1 m a 0;";
        String[] earlier = {full, Deeds.WIDE, full, "estate 1;",
            "heir x;heir y;thing z 9;estate 9;least x 9;coin x #1;will z #1;coin y ?"};
        int[] blots = {8, 3, 8, 0, -9};
        String[] latest = {"", "heir a;thing m 1;", Deeds.MILL, Deeds.LATE, "heir a;estate 5;coin a 4;least a 5;"};
        for (String text : latest) {
            BlottedDeed used = new BlottedDeed();
            for (int i = 0; i < earlier.length; i++) {
                Check.same("earlier deed " + i, blots[i], Check.tell(used, earlier[i]));
            }
            Check.tell(used, text);
            long[] due = answers(Check.told(text));
            long[] got = answers(used);
            for (int i = 0; i < due.length; i++) {
                Check.same("answer " + i + " of '" + text + "' behind others", due[i], got[i]);
            }
        }
    }

    /** What a deed answers to some two hundred calls, throws among them. */
    private static long[] answers(BlottedDeed x) {
        LongStream.Builder all = LongStream.builder();
        Consumer<Check.Call> ask = call -> all.add(Check.answer(call));
        for (int n = 0; n < 9; n++) {
            int number = n;
            ask.accept(() -> x.told(number));
            ask.accept(() -> x.struck(number));
            ask.accept(() -> x.slips(number));
            ask.accept(() -> x.middle(number));
            ask.accept(() -> x.rows(number));
            ask.accept(() -> x.alive(number));
            ask.accept(() -> x.cleaned(number));
            ask.accept(() -> x.gains(number));
            ask.accept(() -> x.more(number, 1));
            ask.accept(() -> x.more(number, 2));
            ask.accept(() -> x.weak(number));
            ask.accept(() -> x.settlement(number));
            ask.accept(() -> x.fewest(number, 1));
            ask.accept(() -> x.steps(0, number, 0));
        }
        for (int n = 0; n < 25; n++) {
            int five = n / 5;
            int rest = n % 5;
            ask.accept(() -> x.blot(five, rest));
            ask.accept(() -> x.candidate(five, rest));
            ask.accept(() -> x.holding(five, 5 * rest));
            ask.accept(() -> x.reading(five, rest));
            ask.accept(() -> x.often(five, rest));
            ask.accept(() -> x.worth(five, rest));
            ask.accept(() -> x.gets(five, rest, 1));
            ask.accept(() -> x.when(five, rest, 0, 1));
            ask.accept(() -> x.sway(five, rest));
            ask.accept(() -> x.pairs(five, rest));
        }
        ask.accept(x::readings);
        ask.accept(x::bars);
        ask.accept(x::settles);
        ask.accept(x::bare);
        ask.accept(x::likeliest);
        return all.build().toArray();
    }

    private static void faultyDeed() {
        Document.promises(3, "or the FAULT less 10 (all stays)");
        String[] texts = {"?", "heir b;heir c;estate 9;coin b #3;", FOUR + "heir e;", ROWS_20480};
        for (int i = 0; i < texts.length; i++) {
            String text = texts[i];
            Asked x = testified();
            x.feed(text);
            x.gives("deed of '" + text + "'", i - 9, d -> d.deed(text.length()));
            x.gives("told(0)", 1, d -> d.told(0));
            x.gives("told(3)", 1, d -> d.told(3));
            x.gives("told(4)", 5, d -> d.told(4));
            x.gives("told(6)", 10, d -> d.told(6));
            x.gives("reading(0, 0)", 5, d -> d.reading(0, 0));
            x.gives("odds(0)", 16, d -> d.odds(0));
            counts(x, 1, 1, 1, 0);
        }
    }

    private static void refusedDeed() {
        Document.promises(3, "n is not 0 to the TAPE's bytes (it stays)");
        Asked x = testified();
        x.refusesAll("deed on an empty tape", Check.ILLEGAL, (d, n) -> d.deed(n), -1, 1, Integer.MIN_VALUE, Integer.MAX_VALUE);
        x.feed("heir b;heir c;coin b");
        x.refusesAll("deed", Check.ILLEGAL, (d, n) -> d.deed(n), -1, 21, 600, Integer.MIN_VALUE, Integer.MAX_VALUE);
        counts(x, 1, 1, 1, 20);
        x.gives("told(4)", 5, d -> d.told(4));
        x.gives("deed(14)", 0, d -> d.deed(14));
        x.gives("told(0)", 2, d -> d.told(0));
        Asked full = new Asked();
        full.feed(" ".repeat(600));
        full.refuses("deed(601)", Check.ILLEGAL, d -> d.deed(601));
        full.gives("deed(600)", 0, d -> d.deed(600));
    }

    private static void fault() {
        Document.promises(4, "The place of the FAULT of the latest deed(); NONE without.");
        Asked x = new Asked();
        x.gives("fault() of a new object", -1, BlottedDeed::fault);
        x.feed("?");
        x.gives("deed(1)", -9, d -> d.deed(1));
        x.gives("the first place", 0, BlottedDeed::fault);
        x.refuses("deed(1)", Check.ILLEGAL, d -> d.deed(1));
        x.gives("the place, behind a refused deed", 0, BlottedDeed::fault);
        x.feed("heir a" + " ".repeat(594));
        x.gives("deed(600)", -9, d -> d.deed(600));
        x.gives("the last place", 600, BlottedDeed::fault);
        x.gives("deed(0)", 0, d -> d.deed(0));
        x.gives("fault() behind a deed without", -1, BlottedDeed::fault);
    }

    private static void told() {
        Document.promises(5, "0 HEIRS, 1 THINGS, 2 PARTS, 3 BLOTS, 4 E, 5 PLACES, 6 rows");
        Asked x = new Asked(Deeds.MILL);
        int[] due = {3, 2, 4, 4, 20, 9, 3600};
        for (int what = 0; what < due.length; what++) {
            int w = what;
            x.gives("told(" + w + ")", due[w], d -> d.told(w));
        }
        Asked most = new Asked(BASE + "when is a m a 0;".repeat(9));
        most.gives("the most places", 36, d -> d.told(5));
        Document.promises(5, "another what (so below)");
        new Asked(Deeds.MILL).takes("told", 0, 6, Check.ILLEGAL, (d, n) -> d.told(n));
        new Asked(Deeds.EMPTY).takes("told", 0, 6, Check.ILLEGAL, (d, n) -> d.told(n));
    }

    private static void blot() {
        Document.promises(6, "0 what it hides (0 NUM, 1 HEIR, 2 IS), 1 W, 2 how many CANDIDATES, 3 its PART");
        Asked x = new Asked(Deeds.MILL);
        int[][] due = {{0, 1, 10, 0}, {1, 3, 2, 2}, {2, 0, 2, 3}, {0, 2, 90, 3}};
        for (int b = 0; b < due.length; b++) {
            for (int what = 0; what < 4; what++) {
                int blot = b;
                int w = what;
                x.gives("blot(" + b + ", " + w + ")", due[b][w], d -> d.blot(blot, w));
            }
        }
        new Asked(Deeds.MILL).takes("blot(0, what)", 0, 3, Check.ILLEGAL, (d, n) -> d.blot(0, n));
        Document.promises(6, "no such BLOT (so below)");
        Asked y = new Asked(Deeds.MILL);
        y.takes("blot(blot, 0)", 0, 3, Check.NOSUCH, (d, n) -> d.blot(n, 0));
        y.refuses("blot(4, 4)", Check.NOSUCH, d -> d.blot(4, 4));
        new Asked().refuses("blot(0, 0) without blots", Check.NOSUCH, d -> d.blot(0, 0));
    }

    private static void candidate() {
        Document.promises(7, "Its i-th CANDIDATE; NONE: none such.");
        Asked x = new Asked(Deeds.MILL);
        x.knows("candidate(0, i)", 0, 9, (d, n) -> d.candidate(0, n));
        x.knows("candidate(1, i)", 0, 1, (d, n) -> d.candidate(1, n));
        x.knows("candidate(2, i)", 0, 1, (d, n) -> d.candidate(2, n));
        x.knows("candidate(3, i)", 0, 89, (d, n) -> d.candidate(3, n));
        Asked y = new Asked(Deeds.MILL);
        y.takes("candidate(blot, 0)", 0, 3, Check.NOSUCH, (d, n) -> d.candidate(n, 0));
        y.refuses("candidate(4, -1)", Check.NOSUCH, d -> d.candidate(4, -1));
        new Asked("heir a;coin a #0;").knows("candidate of all nums", 0, 99, (d, n) -> d.candidate(0, n));
    }
}
