/** Promises 2 to 7: the tape, the text of a deed with its faults, and what it tells. */
public final class TextTest {
    public static void main(String[] args) {
        tape();
        refusedDeeds();
        faultsOfSigns();
        faultsOfNumbersAndNames();
        faultsOfBlots();
        faultsOfLimits();
        blanksAndDigits();
        theFirstBytesAlone();
        manyRows();
        names();
        allStaysBehindAFault();
        whatIsTold();
        candidates();
        Check.end();
    }

    private static void tape() {
        BlottedDeed x = new BlottedDeed();
        Check.due("count(3) of a new one", 0, () -> x.count(3));
        for (int i = 1; i <= 30; i++) {
            Check.due("feed " + i, 20L * i, () -> x.feed(0x20202020, 0x20202020, 0x20202020, 0x20202020, 0x20202020));
        }
        Check.due("feed 31", -1, () -> x.feed(1, 2, 3, 4, 5));
        Check.due("count(3)", 600, () -> x.count(3));
        Check.due("601 bytes", Check.ILLEGAL, () -> x.deed(601));
        Check.due("the tape stays", 600, () -> x.count(3));
        Check.due("600 blanks", 0, () -> x.deed(600));
        Check.due("the tape is empty", 0, () -> x.count(3));
        // "heir" " a;c" "oin " "a #1" ";" and what is no byte of a deed
        x.feed(0x68656972, 0x20613b63, 0x6f696e20, 0x61202331, 0x3bffff80);
        Check.due("the highest byte comes first", 1, () -> x.deed(17));
        Check.due("told(0)", 1, () -> x.told(0));
        Check.due("the rest is gone", 0, () -> x.count(3));
        x.feed(-1, -1, -1, -1, -1);
        fault(x, 20, 1, 0);
    }

    private static void refusedDeeds() {
        BlottedDeed x = new BlottedDeed();
        Check.due("deed(-1)", Check.ILLEGAL, () -> x.deed(-1));
        Check.due("deed(1)", Check.ILLEGAL, () -> x.deed(1));
        Check.due("deed(0)", 0, () -> x.deed(0));
        Check.due("fault()", -1, x::fault);
        fault(x, "?", 1, 0);
        Check.due("deed(1)", Check.ILLEGAL, () -> x.deed(1));
        Check.due("a refused deed tells no other fault", 0, x::fault);
        Check.due("status(2)", 3, () -> x.status(2));
        Check.due("deed(0)", 0, () -> x.deed(0));
        Check.due("fault()", -1, x::fault);
    }

    private static void fault(BlottedDeed x, int n, int kind, int place) {
        Check.due("deed(" + n + ")", kind - 10, () -> x.deed(n));
        Check.due("its fault()", place, x::fault);
    }

    private static void fault(BlottedDeed x, String text, int kind, int place) {
        Check.feed(x, text);
        Check.due("deed '" + text + "'", kind - 10, () -> x.deed(text.length()));
        Check.due("fault of '" + text + "'", place, x::fault);
        Check.due("tape behind '" + text + "'", 0, () -> x.count(3));
    }

    private static void bad(String text, int kind, int place) {
        fault(new BlottedDeed(), text, kind, place);
    }

    private static void good(String text, int blots) {
        BlottedDeed x = new BlottedDeed();
        Check.same("deed '" + text + "'", blots, Check.tell(x, text));
        Check.due("fault of '" + text + "'", -1, x::fault);
    }

    private static void faultsOfSigns() {
        bad(";", 1, 0);
        bad("  ;", 1, 2);
        bad("heir a;;", 1, 7);
        bad("5;", 1, 0);
        bad("#1;", 1, 0);
        bad("Heir a;", 1, 0);
        bad("heira;", 1, 0);
        bad("hei", 1, 0);
        bad("heir", 1, 4);
        bad("heir  ", 1, 6);
        bad("heir ;", 1, 5);
        bad("heir 5;", 1, 5);
        bad("heir #1;", 1, 5);
        bad("heir a b;", 1, 7);
        bad("heir aB;", 1, 6);
        bad("heir a" + (char) 0 + ";", 1, 6);
        bad("heir a" + (char) 225 + ";", 1, 6);
        bad("heir a  ", 1, 8);
        bad("heir a;x", 1, 7);
        bad("thing m;", 1, 7);
        bad("thing m -1;", 1, 8);
        bad("thing m #1;", 1, 8);
        bad("thing m 1", 1, 9);
        bad("estate;", 1, 6);
        bad("estate a;", 1, 7);
        bad("estate #1;", 1, 7);
        bad("estate 5 5;", 1, 9);
        bad("heir a;least #1 5;", 1, 13);
        bad("heir a;least a #1;", 1, 15);
        bad("heir a;least a", 1, 14);
        bad("heir a;coin a;", 1, 13);
        bad("heir a;coin a a;", 1, 14);
        bad("heir a;coin 5 5;", 1, 12);
        bad("heir a;thing m 1;will #1 a;", 1, 22);
        bad("heir a;thing m 1;when is a #1 a 5;", 1, 27);
        bad("heir a;thing m 1;when 5 a m a 5;", 1, 22);
        bad("heir a;coin a # x;", 1, 16);
        bad("heir a;coin a #", 1, 15);
        bad("heir a;coin a ##1;", 1, 15);
    }

    private static void faultsOfNumbersAndNames() {
        bad("heir abcdefghij;", 2, 5);
        good("heir abcdefghi;", 0);
        bad("heir abcdefghi;heir abcdefghij;", 2, 20);
        bad("thing abcdefghij 5;", 2, 6);
        bad("thing a 5;heir a;", 2, 15);
        bad("thing a 5;thing a 6;", 2, 16);
        bad("heir a;heir a;", 2, 12);
        bad("thing a 100;", 2, 8);
        good("thing a 99;", 0);
        bad("thing a 99999999999999999999;", 2, 8);
        bad("thing a 4294967297;", 2, 8);
        bad("estate 1000;", 2, 7);
        good("estate 999;", 0);
        bad("heir a;least a 1000;", 2, 15);
        good("heir a;least a 999;", 0);
        bad("least a 1;heir a;", 2, 6);
        bad("thing a 1;least a 1;", 2, 16);
        bad("heir abcdefghi;least abcdefghij 1;", 2, 21);
        bad("heir a;coin a 100;", 2, 14);
        good("heir a;coin a 99;", 0);
        bad("heir a;coin b 1;", 2, 12);
        bad("heir a;will a a;", 2, 12);
        bad("heir a;thing m 1;will m m;", 2, 24);
        bad("heir a;thing m 1;will mm a;", 2, 22);
        bad("heir a;thing m 1;when is m m a 5;", 2, 25);
        bad("heir a;thing m 1;when is a a a 5;", 2, 27);
        bad("heir a;thing m 1;when is a m m 5;", 2, 29);
        bad("heir a;thing m 1;when is a m a 100;", 2, 31);
        bad("heir a;thing m 1;when iss a m a 5;", 2, 22);
        bad("heir a;thing m 1;when no a m a 5;", 2, 22);
        good("heir is;thing not 1;when is is not is 5;", 0);
        good("heir heir;heir coin;coin coin 5;", 0);
        // the first from the left
        bad("heir a;coin b 100", 2, 12);
        bad("heir abcdefghij?;", 2, 5);
        bad("heir a;coin a 100?", 2, 14);
    }

    private static void faultsOfBlots() {
        bad("heir a;coin a #3;", 2, 15);
        bad("heir a;coin a #9;", 2, 15);
        bad("heir a;coin a #10;", 2, 15);
        bad("heir a;coin a # 3;", 2, 16);
        bad("coin #0 5;", 2, 6);
        bad("heir a;coin #2 5;", 2, 13);
        bad("heir a;coin #2 5;heir bo;", 2, 13);
        good("heir a;heir bo;coin #2 5;", 1);
        good("heir abcdefghi;coin #9 5;", 1);
        bad("heir a;thing m 1;when #1 a m a 5;", 2, 23);
        bad("heir a;thing m 1;when #4 a m a 5;", 2, 23);
        good("heir a;thing m 1;when #0 a m a 5;", 1);
        good("heir a;thing m 1;when #2 a m a 5;", 1);
        good("heir a;thing m 1;when #3 #0 m #1 #1;", 4);
    }

    private static void faultsOfLimits() {
        bad("heir a;heir b;heir c;heir d;heir e;", 3, 28);
        bad("heir a;heir b;heir c;heir d; heir a;", 3, 29);
        bad("thing a 1;thing b 1;thing c 1;thing d 1;thing e 1;thing f 1;", 3, 50);
        good("thing a 1;thing b 1;thing c 1;thing d 1;thing e 1;", 0);
        String clause = "estate 1;";
        good(clause.repeat(40), 0);
        good(clause.repeat(40) + "  ", 0);
        bad(clause.repeat(41), 3, 360);
        bad(clause.repeat(40) + " estate ?", 3, 361);
        bad(clause.repeat(40) + "estat 1;", 1, 360);
        bad(clause.repeat(40) + ";", 1, 360);
        String part = "coin a 1;";
        good("heir a;" + part.repeat(9), 0);
        bad("heir a;" + part.repeat(10), 3, 88);
        bad("heir a;thing m 1;" + part.repeat(9) + "will m a;", 3, 98);
        bad("heir a;thing m 1;" + part.repeat(9) + "when is a m a 1;", 3, 98);
        String blot = "coin #1 1;";
        good("heir a;" + blot.repeat(8), 8);
        bad("heir a;" + blot.repeat(9), 3, 92);
        bad("heir a;" + blot.repeat(8) + "coin a #;", 3, 94);
        bad("heir a;thing m 1;" + blot.repeat(8) + "will #1 a;", 1, 102);
        // 10 times 10 times 10 times 20 rows are just not too many
        String thousand = "coin a #1;coin a #1;coin a #1;";
        good("heir a;heir b;heir c;heir d;" + thousand + "coin #1 #1;coin a 1;".replace("#1 #1", "#1 5"), 4);
        good("heir a;heir b;" + thousand + "coin #1 #1;", 5);
        bad("heir a;heir b;heir c;" + thousand + "coin #1 #1;", 4, 62);
        bad("heir a;heir b;heir c;" + thousand + "coin #1 #1;  ", 4, 64);
        bad("heir a;heir b;heir c;" + thousand + "coin #1 #1", 1, 61);
        bad("heir a;heir b;heir c;" + thousand + "coin #1 #1;?", 1, 62);
        bad("heir a;" + "coin a #0;".repeat(8), 4, 87);
    }

    private static void blanksAndDigits() {
        good("", 0);
        good("   ", 0);
        good("  heir   a  ;  thing m 5;", 0);
        good("heir a;thing m5;estate7;coin a5;coin a#1;will m#1;when#0#1m#1#2;", 6);
        good("heir a;coin a # 1 ;", 1);
        good("heir a;coin a #01;", 1);
        bad("heir a;coin a\t5;", 1, 13);
        bad("heir a;\n", 1, 7);
        BlottedDeed x = Check.told("heir a;thing m 0099;estate 00000000000000000012;coin a 012;");
        Check.due("E with leading zeros", 12, () -> x.told(4));
        Check.due("readings", 1, x::readings);
        BlottedDeed y = Check.told("heir a;estate 5;estate 7;estate 3;coin a 3;least a 9;least a 2;");
        Check.due("the last estate counts", 3, () -> y.told(4));
        Check.due("the last least counts", 1, y::readings);
    }

    private static void theFirstBytesAlone() {
        String[] texts = {"heir a;", "heir abc;", "estate 55;", "heir a;coin a #1;", "heir a;coin a #1;", "heir a ;"};
        int[] bytes = {6, 7, 8, 15, 16, 7};
        for (int i = 0; i < texts.length; i++) {
            BlottedDeed x = new BlottedDeed();
            Check.feed(x, texts[i]);
            fault(x, bytes[i], 1, bytes[i]);
        }
        BlottedDeed y = new BlottedDeed();
        Check.feed(y, "heir a;heir bo;");
        Check.due("no more than was asked for", 0, () -> y.deed(7));
        Check.due("told(0)", 1, () -> y.told(0));
        String full = " ".repeat(560);
        good(full + "heir a;thing m 1;coin a #1;coin a #0;   ", 2);
        bad(full + "heir a;thing m 1;coin a #1;will m aaaaaa", 2, 594);
        bad(full + "heir a;thing m 1;coin a #1;coin a 000001", 1, 600);
        bad(full + "heir a;thing m 1;coin a #1;coin a #00001", 1, 600);
        bad(full + "heir a;thing m 1;coin a #1;coin a     # ", 1, 600);
        bad(full + "heir a;thing m 1;coin a #1;coin a      #", 1, 600);
        bad(full + "heir a;thing m 1;coin a #1;coin        a", 1, 600);
    }

    private static void manyRows() {
        BlottedDeed x = Check.told("heir a;heir b;thing m 1;estate 5;coin a #1;coin a #1;coin b #1;when is b m #1 #1;");
        Check.due("20,000 rows are not too many", 20000, () -> x.told(6));
        Check.due("their readings", 21 * 20, x::readings);
        Check.due("the last of them", 9, () -> x.reading(419, 4));
    }

    private static void names() {
        good("heir a;heir aa;heir b;heir bb;thing z 1;thing zz 1;thing aaa 1;thing ba 1;thing ab 1;", 0);
        BlottedDeed x = Check.told("heir b;heir bb;heir aaaaaaaaa;heir zzzzzzzzz;estate 6;coin bb 1;coin zzzzzzzzz 5;");
        int[] due = {0, 1, 0, 5};
        for (int h = 0; h < due.length; h++) {
            int heir = h;
            Check.due("coin(" + h + ", 0)", due[h], () -> x.coin(heir, 0));
        }
        for (String word : new String[] {"jeir a;", "heis a;", "shing m 1;", "xoin a 1;", "fstate 1;", "estatf 1;"}) {
            bad(word, 1, 0);
        }
        bad("heir a;thing m 1;when us a m a 5;", 2, 22);
        bad("heir a;thing m 1;when nut a m a 5;", 2, 22);
        bad("heir a;thing m 1;when i a m a 5;", 2, 22);
    }

    private static void allStaysBehindAFault() {
        BlottedDeed x = Check.told("heir a;estate 5;coin a #1;");
        x.copy(0, 0, 5);
        x.habit(0, 1, 2, 3);
        x.image();
        fault(x, "heir b;heir cc;estate 9;coin b #0;coin cc #9;", 2, 43);
        Check.due("told(0)", 1, () -> x.told(0));
        Check.due("told(4)", 5, () -> x.told(4));
        Check.due("blot(0, 1)", 1, () -> x.blot(0, 1));
        Check.due("reading(0, 0)", 5, () -> x.reading(0, 0));
        Check.due("count(0)", 1, () -> x.count(0));
        Check.due("count(1)", 1, () -> x.count(1));
        Check.due("count(2)", 1, () -> x.count(2));
        Check.tell(x, "heir b;coin b 0;");
        Check.due("told(3) of another deed", 0, () -> x.told(3));
        Check.due("told(4) of another deed", 0, () -> x.told(4));
        Check.due("copies are gone", 0, () -> x.count(0));
        Check.due("habits are gone", 0, () -> x.count(1));
        Check.due("images are gone", 0, () -> x.count(2));
    }

    private static void whatIsTold() {
        BlottedDeed x = Check.told("heir ann;heir bo;thing mill 5;estate 30;coin ann 7;coin #3 #1;will mill #0;"
            + "when #0 ann mill #2 #2;when not bo mill ann 3;");
        long[] due = {2, 1, 5, 6, 30, 13, 1L * 10 * 2 * 2 * 90};
        for (int what = 0; what < due.length; what++) {
            int w = what;
            Check.due("told(" + w + ")", due[w], () -> x.told(w));
        }
        Check.due("told(-1)", Check.ILLEGAL, () -> x.told(-1));
        Check.due("told(7)", Check.ILLEGAL, () -> x.told(7));
        int[][] blots = {{1, 3, 1, 1}, {0, 1, 10, 1}, {1, 0, 2, 2}, {2, 0, 2, 3}, {1, 2, 1, 3}, {0, 2, 90, 3}};
        for (int b = 0; b < blots.length; b++) {
            for (int what = 0; what < 4; what++) {
                int blot = b;
                int w = what;
                Check.due("blot(" + b + ", " + w + ")", blots[b][w], () -> x.blot(blot, w));
            }
        }
        Check.due("blot(0, 4)", Check.ILLEGAL, () -> x.blot(0, 4));
        Check.due("blot(0, -1)", Check.ILLEGAL, () -> x.blot(0, -1));
        Check.due("blot(6, 4)", Check.NOSUCH, () -> x.blot(6, 4));
        Check.due("blot(-1, 0)", Check.NOSUCH, () -> x.blot(-1, 0));
    }

    private static void candidates() {
        BlottedDeed x = Check.told("heir ann;heir bo;heir cat;thing m 5;coin #3 #1;coin ann #2;when #3 ann m bo 1;heir di;");
        int[][] due = {{0, 0, 0}, {0, 1, 2}, {0, 2, -1}, {0, -1, -1}, {1, 0, 0}, {1, 9, 9}, {1, 10, -1}, {2, 0, 10},
            {2, 89, 99}, {2, 90, -1}, {3, 0, 1}, {3, 1, -1}};
        for (int[] row : due) {
            Check.due("candidate(" + row[0] + ", " + row[1] + ")", row[2], () -> x.candidate(row[0], row[1]));
        }
        Check.due("candidate(4, 0)", Check.NOSUCH, () -> x.candidate(4, 0));
        Check.due("candidate(-1, 0)", Check.NOSUCH, () -> x.candidate(-1, 0));
        BlottedDeed y = Check.told("heir ann;heir bo;thing m 1;coin #0 #0;when #0 ann m bo 1;when #2 ann m bo 1;heir cy;");
        Check.due("W 0: all heirs told by now", 2, () -> y.blot(0, 2));
        Check.due("W 0: all nums", 100, () -> y.blot(1, 2));
        Check.due("candidate(1, 99)", 99, () -> y.candidate(1, 99));
        Check.due("candidate(2, 0)", 0, () -> y.candidate(2, 0));
        Check.due("candidate(2, 1)", 1, () -> y.candidate(2, 1));
        Check.due("candidate(3, 0)", 0, () -> y.candidate(3, 0));
        Check.due("candidate(3, 1)", -1, () -> y.candidate(3, 1));
    }
}
