/** Promises 1 and 8 to 45, with answers that were found by hand. */
public final class PromiseTest {
    public static void main(String[] args) {
        newObject();
        readingsInOrder();
        aliveAndHolding();
        bars();
        getsAndGoes();
        oftenAndSure();
        coinAndWorth();
        cleanedAndSettles();
        fewest();
        sway();
        gains();
        settlement();
        copiesAndHabits();
        odds();
        likely();
        slips();
        more();
        weak();
        struck();
        apartAndMiddle();
        when();
        steps();
        pairsAndRows();
        bare();
        images();
        statusAndCount();
        withoutReadings();
        Check.end();
    }

    private static void newObject() {
        BlottedDeed x = new BlottedDeed();
        for (int what = 0; what < 6; what++) {
            int w = what;
            Check.due("told(" + w + ")", 0, () -> x.told(w));
        }
        Check.due("told(6)", 1, () -> x.told(6));
        Check.due("readings()", 1, x::readings);
        Check.due("fault()", -1, x::fault);
        Check.due("rows(0)", 1, () -> x.rows(0));
        Check.due("rows(1)", 0, () -> x.rows(1));
        Check.due("odds(0)", 1, () -> x.odds(0));
        Check.due("apart(0, 0)", 0, () -> x.apart(0, 0));
        for (int what = 0; what < 4; what++) {
            int w = what;
            Check.due("count(" + w + ")", 0, () -> x.count(w));
        }
    }

    private static void readingsInOrder() {
        BlottedDeed x = Check.told(Deeds.MILL);
        int[][] rows = {{0, 0, 0, 11}, {0, 1, 1, 11}, {1, 0, 0, 10}, {1, 1, 1, 10}};
        Check.due("readings()", 4, x::readings);
        for (int i = 0; i < 4; i++) {
            for (int b = 0; b < 4; b++) {
                int reading = i;
                int blot = b;
                Check.due("reading(" + i + ", " + b + ")", rows[i][b], () -> x.reading(reading, blot));
            }
        }
        Check.due("reading(4, 0)", Check.IOOBE, () -> x.reading(4, 0));
        Check.due("reading(-1, 9)", Check.IOOBE, () -> x.reading(-1, 9));
        Check.due("reading(0, 4)", Check.NOSUCH, () -> x.reading(0, 4));
        Check.due("reading(0, -1)", Check.NOSUCH, () -> x.reading(0, -1));
        BlottedDeed y = Check.told("heir a;heir bo;heir c;thing m 1;will m #1;");
        Check.due("a heir by number, not by place", 2, () -> y.reading(1, 0));
        BlottedDeed z = Check.told("heir a;heir b;thing m 1;will m a;will m a;");
        Check.due("a will told twice for one heir is lawful", 1, z::readings);
    }

    private static void aliveAndHolding() {
        BlottedDeed x = Check.told(Deeds.MILL);
        int[] alive = {2, 2, 2, 2};
        for (int b = 0; b < 4; b++) {
            int blot = b;
            Check.due("alive(" + b + ")", alive[b], () -> x.alive(blot));
        }
        Check.due("alive(4)", Check.NOSUCH, () -> x.alive(4));
        Check.due("holding(3, 10)", 2, () -> x.holding(3, 10));
        Check.due("holding(3, 12)", 0, () -> x.holding(3, 12));
        Check.due("holding(3, 9)", -1, () -> x.holding(3, 9));
        Check.due("holding(1, 1)", 2, () -> x.holding(1, 1));
        Check.due("holding(1, 2)", -1, () -> x.holding(1, 2));
        Check.due("holding(2, -1)", -1, () -> x.holding(2, -1));
        Check.due("holding(4, 0)", Check.NOSUCH, () -> x.holding(4, 0));
        BlottedDeed y = Check.told(Deeds.SPLIT);
        Check.due("alive(0) of the split", 10, () -> y.alive(0));
        Check.due("holding(0, 9) of the split", 1, () -> y.holding(0, 9));
    }

    private static void bars() {
        String[] texts = {
            Deeds.MILL, "heir a;estate 5;coin a 4;", "heir a;heir b;thing m 1;will m a;will m b;", "heir a;least a 1;",
            "heir a;estate 5;coin a #1;least a 6;", "heir a;estate 5;coin a 4;least a 6;",
            "heir a;heir b;thing m 1;estate 5;will m a;will m b;when is a m b 5;",
            "heir a;heir b;thing m 1;estate 5;will m a;will m b;when is b m b 5;",
            "heir a;heir b;thing m 1;estate 5;when not b m b 5;will m a;will m b;",
        };
        int[] due = {-1, 0, 1, 2, 0, -1, 1, -1, 1};
        for (int i = 0; i < texts.length; i++) {
            BlottedDeed x = Check.told(texts[i]);
            Check.due("bars() of " + texts[i], due[i], x::bars);
        }
    }

    private static void getsAndGoes() {
        BlottedDeed x = Check.told(Deeds.MILL);
        int[][] due = {{0, 0, 0}, {0, 1, 50}, {1, 0, 9}, {2, 0, 11}, {2, 1, 11}};
        for (int[] row : due) {
            Check.due("gets(0, " + row[0] + ", " + row[1] + ")", row[2], () -> x.gets(0, row[0], row[1]));
        }
        Check.due("gets(3, 1, 1)", 59, () -> x.gets(3, 1, 1));
        Check.due("gets(3, 1, 2)", Check.ILLEGAL, () -> x.gets(3, 1, 2));
        Check.due("gets(3, 3, 2)", Check.IOOBE, () -> x.gets(3, 3, 2));
        Check.due("gets(4, 1, 2)", Check.IOOBE, () -> x.gets(4, 1, 2));
        Check.due("goes(3, 0)", 1, () -> x.goes(3, 0));
        Check.due("goes(3, 1)", -1, () -> x.goes(3, 1));
        Check.due("goes(3, 2)", Check.IOOBE, () -> x.goes(3, 2));
        Check.due("goes(4, 0)", Check.IOOBE, () -> x.goes(4, 0));
        BlottedDeed y = Check.told("heir a;heir b;thing m 9;estate 7;when is a m b 5;when not b m b 2;when not a m b 1;"
            + "when is b m b 3;will m a;");
        Check.due("conditions look at wills behind them", 7, () -> y.gets(0, 1, 0));
        BlottedDeed z = Check.told("heir a;thing m 9;estate 6;when is a m a 5;when not a m a 6;");
        Check.due("what is not willed nobody gets", 6, () -> z.gets(0, 0, 1));
    }

    private static void oftenAndSure() {
        BlottedDeed x = Check.told(Deeds.WILLS);
        Check.due("often(0, 0)", 3, () -> x.often(0, 0));
        Check.due("often(0, 2)", 0, () -> x.often(0, 2));
        Check.due("often(1, 2)", 2, () -> x.often(1, 2));
        Check.due("often(2, 0)", Check.IOOBE, () -> x.often(2, 0));
        Check.due("often(0, 3)", Check.IOOBE, () -> x.often(0, 3));
        Check.due("sure(0, 0)", 0, () -> x.sure(0, 0) ? 1 : 0);
        Check.due("sure(0, -1)", Check.IOOBE, () -> x.sure(0, -1) ? 1 : 0);
        Check.due("sure(-1, 0)", Check.IOOBE, () -> x.sure(-1, 0) ? 1 : 0);
        BlottedDeed y = Check.told(Deeds.SPLIT);
        Check.due("sure(0, 0) of the split", 1, () -> y.sure(0, 0) ? 1 : 0);
        Check.due("sure(0, 1) of the split", 0, () -> y.sure(0, 1) ? 1 : 0);
    }

    private static void coinAndWorth() {
        BlottedDeed x = Check.told(Deeds.MILL);
        Check.due("coin(2, 0)", 10, () -> x.coin(2, 0));
        Check.due("coin(2, 1)", 11, () -> x.coin(2, 1));
        Check.due("coin(2, 2)", Check.ILLEGAL, () -> x.coin(2, 2));
        Check.due("coin(3, 2)", Check.IOOBE, () -> x.coin(3, 2));
        int[][] due = {{51, 0, 2, 1}, {59, 9, 1, 0}, {11, 10, 0, 2}};
        for (int heir = 0; heir < 3; heir++) {
            for (int what = 0; what < 4; what++) {
                int h = heir;
                int w = what;
                Check.due("worth(" + h + ", " + w + ")", due[h][w], () -> x.worth(h, w));
            }
        }
        Check.due("worth(0, 4)", Check.ILLEGAL, () -> x.worth(0, 4));
        Check.due("worth(0, -1)", Check.ILLEGAL, () -> x.worth(0, -1));
        Check.due("worth(-1, 4)", Check.IOOBE, () -> x.worth(-1, 4));
    }

    private static void cleanedAndSettles() {
        BlottedDeed x = Check.told(Deeds.WILLS);
        Check.due("cleaned(0)", 3, () -> x.cleaned(0));
        Check.due("cleaned(1)", 2, () -> x.cleaned(1));
        Check.due("cleaned(2)", Check.NOSUCH, () -> x.cleaned(2));
        Check.due("settles()", 1, x::settles);
        BlottedDeed y = Check.told(Deeds.SPLIT);
        Check.due("settles(), of alike ones the first", 0, y::settles);
        BlottedDeed z = Check.told("heir a;thing m 1;will m a;");
        Check.due("settles() without blots", -1, z::settles);
    }

    private static void fewest() {
        BlottedDeed x = Check.told(Deeds.WILLS);
        int[][] due = {{1, 1}, {1, 2}};
        for (int t = 0; t < 2; t++) {
            for (int what = 0; what < 2; what++) {
                int thing = t;
                int w = what;
                Check.due("fewest(" + t + ", " + w + ")", due[t][w], () -> x.fewest(thing, w));
            }
        }
        Check.due("fewest(0, 2)", Check.ILLEGAL, () -> x.fewest(0, 2));
        Check.due("fewest(2, 2)", Check.IOOBE, () -> x.fewest(2, 2));
        BlottedDeed y = Check.told(Deeds.MILL);
        Check.due("of sets of one the least bits", 2, () -> y.fewest(0, 1));
        Check.due("what goes to nobody is known", 0, () -> y.fewest(1, 0));
        // one thing of three goes to a, and n and o tell of m only together
        BlottedDeed z = Check.told("heir a;heir b;thing m 1;thing n 1;thing o 1;estate 1;will n #1;will o #1;will m #1;"
            + "when is a n a 1;when is a o a 1;when is a m a 1;");
        Check.due("readings of one of three", 3, z::readings);
        Check.due("one blot", 1, () -> z.fewest(0, 0));
        Check.due("its own, although two others would do", 4, () -> z.fewest(0, 1));
        BlottedDeed w = Check.told("heir a;heir b;thing m 1;estate 9;coin a #1;coin b #1;when is a m a 1;will m #0;"
            + "when is b m b 1;");
        Check.due("coin does not tell the heir", 4, () -> w.fewest(0, 1));
    }

    private static void sway() {
        BlottedDeed x = Check.told(Deeds.WILLS);
        Check.due("sway(0, 0)", 6, () -> x.sway(0, 0));
        Check.due("sway(0, 1)", 0, () -> x.sway(0, 1));
        Check.due("sway(1, 1)", 6, () -> x.sway(1, 1));
        Check.due("sway(2, 2)", Check.IOOBE, () -> x.sway(2, 2));
        Check.due("sway(0, 2)", Check.NOSUCH, () -> x.sway(0, 2));
        BlottedDeed y = Check.told(Deeds.MILL);
        Check.due("two blots differ at once", 0, () -> y.sway(0, 1));
        // if the num is 0, it does not matter who has m: two of the readings
        BlottedDeed z = Check.told("heir a;heir b;thing m 1;will m #1;when is a m b #1;");
        Check.due("readings()", 11, z::readings);
        Check.due("sway of a part of the readings", 2, () -> z.sway(0, 0));
    }

    private static void gains() {
        BlottedDeed x = Check.told(Deeds.WILLS);
        Check.due("gains(0)", 3, () -> x.gains(0));
        Check.due("gains(1)", 7, () -> x.gains(1));
        Check.due("gains(2)", Check.NOSUCH, () -> x.gains(2));
        BlottedDeed y = Check.told(Deeds.MILL);
        int[] due = {5, 3, 3, 5};
        for (int b = 0; b < 4; b++) {
            int blot = b;
            Check.due("gains(" + b + ") of the mill", due[b], () -> y.gains(blot));
        }
    }

    private static void settlement() {
        BlottedDeed x = Check.told(Deeds.MILL);
        int[] due = {17, 26, 27};
        BlottedDeed y = Check.told(Deeds.WILLS);
        int[] rest = {6, 6, 5};
        for (int h = 0; h < 3; h++) {
            int heir = h;
            Check.due("settlement(" + h + ")", due[h], () -> x.settlement(heir));
            Check.due("settlement(" + h + ") of the wills", rest[h], () -> y.settlement(heir));
        }
        Check.due("settlement(3)", Check.IOOBE, () -> x.settlement(3));
        Check.due("settlement(-1)", Check.IOOBE, () -> x.settlement(-1));
    }

    private static void copiesAndHabits() {
        BlottedDeed x = Check.told(Deeds.MILL);
        Check.due("copy of a num without candidate", 1, () -> x.copy(0, 0, 99));
        Check.due("copy of a heir without candidate", 2, () -> x.copy(3, 1, 2));
        Check.due("copy of an is", 3, () -> x.copy(1, 2, 1));
        long[][] wrong = {{-1, 0, 0, Check.ILLEGAL}, {4, 0, 0, Check.ILLEGAL}, {0, 0, 100, Check.ILLEGAL},
            {0, 0, -1, Check.ILLEGAL}, {0, 1, 3, Check.ILLEGAL}, {0, 2, 2, Check.ILLEGAL}, {0, 4, 0, Check.NOSUCH},
            {9, -1, 0, Check.NOSUCH}};
        for (long[] row : wrong) {
            Check.due("copy", row[3], () -> x.copy((int) row[0], (int) row[1], (int) row[2]));
        }
        for (int i = 4; i <= 12; i++) {
            Check.due("copy " + i, i, () -> x.copy(0, 3, 5));
        }
        Check.due("copy 13", -1, () -> x.copy(0, 3, 5));
        Check.due("copy 13, wrong", Check.ILLEGAL, () -> x.copy(0, 3, 100));
        int[][] bad = {{-1, 1, 2, 3}, {4, 1, 2, 3}, {0, -1, 2, 3}, {0, 100, 2, 3}, {0, 1, -1, 3}, {0, 1, 100, 3},
            {0, 1, 1, 3}, {0, 1, 2, 0}, {0, 1, 2, 16}};
        for (int[] row : bad) {
            Check.due("habit", Check.ILLEGAL, () -> x.habit(row[0], row[1], row[2], row[3]));
        }
        for (int i = 1; i <= 8; i++) {
            Check.due("habit " + i, i, () -> x.habit(3, 99, 0, 15));
        }
        Check.due("habit 9", -1, () -> x.habit(0, 0, 99, 1));
        Check.due("habit 9, wrong", Check.ILLEGAL, () -> x.habit(0, 0, 99, 0));
        Check.due("forget()", 20, x::forget);
        Check.due("forget() again", 0, x::forget);
        Check.due("copy behind forget()", 1, () -> x.copy(0, 0, 0));
        Check.due("habit behind forget()", 1, () -> x.habit(0, 0, 1, 1));
    }

    private static void odds() {
        BlottedDeed x = Check.told(Deeds.MILL);
        x.copy(0, 0, 1);
        Check.due("odds(0)", 0, () -> x.odds(0));
        Check.due("odds(2)", 16, () -> x.odds(2));
        x.habit(0, 1, 0, 4);
        Check.due("it writes 1 for 0", 4, () -> x.odds(0));
        x.habit(0, 7, 1, 5);
        Check.due("it writes 7 for 1, else 1", 11, () -> x.odds(2));
        x.habit(0, 7, 0, 6);
        Check.due("the last habit of one hand and y counts", 0, () -> x.odds(0));
        x.habit(1, 1, 0, 3);
        Check.due("another hand's habit", 0, () -> x.odds(0));
        x.copy(1, 0, 1);
        Check.due("both do not write 7 for 1", 11 * 16, () -> x.odds(2));
        x.forget();
        x.habit(0, 1, 0, 4);
        x.copy(0, 1, 1);
        Check.due("a habit is of nums alone: heirs", 0, () -> x.odds(0));
        Check.due("a habit is of nums alone: heirs", 16, () -> x.odds(1));
        x.forget();
        x.habit(0, 1, 0, 4);
        x.copy(0, 2, 0);
        Check.due("a habit is of nums alone: is", 16, () -> x.odds(0));
        Check.due("odds(4)", Check.IOOBE, () -> x.odds(4));
        Check.due("odds(-1)", Check.IOOBE, () -> x.odds(-1));
        x.forget();
        for (int i = 0; i < 12; i++) {
            x.copy(i % 4, 0, 1);
        }
        Check.due("twelve copies", 1L << 48, () -> x.odds(3));
        Check.due("likeliest()", 2, x::likeliest);
    }

    private static void likely() {
        BlottedDeed x = Check.told(Deeds.MILL);
        int[][] even = {{0, 0, 0, 1}, {0, 0, 1, 2}, {0, 2, 0, 0}, {0, 2, 1, 1}, {1, 0, 0, 0}, {1, 0, 1, 1}};
        for (int[] row : even) {
            Check.due("likely without copies", row[3], () -> x.likely(row[0], row[1], row[2]));
        }
        Check.due("likeliest() without copies", 0, x::likeliest);
        x.copy(0, 1, 1);
        Check.due("above", 1, () -> x.likely(0, 1, 0));
        Check.due("below", 1, () -> x.likely(0, 1, 1));
        Check.due("likeliest()", 1, x::likeliest);
        x.copy(0, 0, 50);
        Check.due("above, if none has odds", 0, () -> x.likely(0, 1, 0));
        Check.due("below, if none has odds", 1, () -> x.likely(0, 1, 1));
        Check.due("likeliest(), if none has odds", -1, x::likeliest);
        Check.due("likely(0, 1, 2)", Check.ILLEGAL, () -> x.likely(0, 1, 2));
        Check.due("likely(2, 1, 2)", Check.IOOBE, () -> x.likely(2, 1, 2));
        Check.due("likely(0, 3, 2)", Check.IOOBE, () -> x.likely(0, 3, 2));
        // a has m, if the num is 1, else b; its hand writes 2 for 1 in 6 of 16
        BlottedDeed y = Check.told("heir a;heir b;thing m 1;estate 3;will m #1;coin a #1;when is b m a 1;when is a m a 2;");
        y.copy(2, 1, 2);
        y.habit(2, 2, 1, 6);
        Check.due("odds of m to a", 6, () -> y.odds(0));
        Check.due("odds of m to b", 16, () -> y.odds(1));
        Check.due("6 of 22 in least terms, above", 3, () -> y.likely(0, 0, 0));
        Check.due("6 of 22 in least terms, below", 11, () -> y.likely(0, 0, 1));
        Check.due("16 of 22 in least terms, above", 8, () -> y.likely(0, 1, 0));
    }

    private static void slips() {
        BlottedDeed x = Check.told(Deeds.MILL);
        Check.due("slips(0) without copies", 0, () -> x.slips(0));
        Check.due("slips(1) without copies", 0, () -> x.slips(1));
        x.copy(0, 0, 1);
        x.copy(1, 1, 1);
        x.copy(2, 3, 11);
        Check.due("slips(0)", 1, () -> x.slips(0));
        Check.due("slips(1), of alike ones the first", 1, () -> x.slips(1));
        x.copy(2, 3, 99);
        x.copy(2, 0, 1);
        Check.due("slips(0)", 2, () -> x.slips(0));
        Check.due("slips(1)", 3, () -> x.slips(1));
        x.habit(0, 1, 0, 15);
        Check.due("a habit is no excuse", 3, () -> x.slips(1));
        Check.due("slips(2)", Check.ILLEGAL, () -> x.slips(2));
        Check.due("slips(-1)", Check.ILLEGAL, () -> x.slips(-1));
    }

    private static void more() {
        BlottedDeed x = Check.told(Deeds.MILL);
        // ann 0, bob 9, ann, is ann clara 11
        int[][] due = {{0, 2, 2}, {0, 10, 1}, {1, 2, 1}, {9, 10, 1}, {0, 2, 1}, {0, 1, 1}, {0, 2, 1}, {2, 1, 1}, {11, 90, 1}};
        for (int p = 0; p < due.length; p++) {
            for (int what = 0; what < 3; what++) {
                int place = p;
                int w = what;
                Check.due("more(" + p + ", " + w + ")", due[p][w], () -> x.more(place, w));
            }
        }
        Check.due("more(9, 3)", Check.IOOBE, () -> x.more(9, 3));
        Check.due("more(-1, 3)", Check.IOOBE, () -> x.more(-1, 3));
        Check.due("more(0, 3)", Check.ILLEGAL, () -> x.more(0, 3));
        BlottedDeed y = Check.told("heir a;thing m 1;coin #0 0;when not a m a 07;will m a;heir b;heir cc;");
        Check.due("the blot's own candidates", 1, () -> y.blot(0, 2));
        Check.due("candidates of all heirs", 2, () -> y.more(0, 1));
        Check.due("readings of that", 2, () -> y.more(0, 2));
        Check.due("not is three letters wide", 1, () -> y.more(2, 1));
        Check.due("a num is as wide as it is great", 10, () -> y.more(5, 1));
        Check.due("all ten are lawful", 10, () -> y.more(5, 2));
        BlottedDeed z = Check.told("heir a;estate 19;coin a 10;coin a 9;");
        Check.due("10 is two digits wide", 90, () -> z.more(1, 1));
        Check.due("9 is one digit wide", 10, () -> z.more(3, 1));
        BlottedDeed w = Check.told("heir a;heir b;thing m 1;" + "when is b m a 5;".repeat(9));
        Check.due("told(5) of nine conditions", 36, () -> w.told(5));
        Check.due("the last place", 5, () -> w.more(35, 0));
        Check.due("candidates at the last place", 10, () -> w.more(35, 1));
        Check.due("readings of the last place", 10, () -> w.more(35, 2));
        Check.due("no place 36", Check.IOOBE, () -> w.more(36, 0));
        Check.due("weak(0) of nine conditions", 0, () -> w.weak(0));
    }

    private static void weak() {
        BlottedDeed x = Check.told(Deeds.WILLS);
        Check.due("weak(0)", 1, () -> x.weak(0));
        Check.due("weak(1)", 1, () -> x.weak(1));
        Check.due("weak(2)", Check.IOOBE, () -> x.weak(2));
        Check.due("weak(-1)", Check.IOOBE, () -> x.weak(-1));
        BlottedDeed y = Check.told("heir a;heir b;thing m 1;thing n 1;will m a;will m a;will n a;when not a n b 1;");
        Check.due("two wills hold it", 0, () -> y.weak(0));
        Check.due("the estate holds it", 0, () -> y.weak(1));
    }

    private static void struck() {
        BlottedDeed x = Check.told(Deeds.MILL);
        // without his 9 bob has not his least; without the will it is "not", whoever stands in it
        int[] due = {20, 0, 4, 0};
        for (int p = 0; p < 4; p++) {
            int part = p;
            Check.due("struck(" + p + ")", due[p], () -> x.struck(part));
        }
        Check.due("struck(4)", Check.IOOBE, () -> x.struck(4));
        Check.due("struck(-1)", Check.IOOBE, () -> x.struck(-1));
        BlottedDeed y = Check.told("heir a;heir b;thing m 1;will m a;will m #1;will m b;");
        Check.due("no readings", 0, y::readings);
        Check.due("struck(0): the blot is b", 1, () -> y.struck(0));
        Check.due("struck(1): unlike heirs still", 0, () -> y.struck(1));
        Check.due("struck(2): the blot is a", 1, () -> y.struck(2));
        BlottedDeed z = Check.told("heir a;coin a #1;");
        Check.due("its blots have their candidates as ever", 10, () -> z.struck(0));
    }

    private static void apartAndMiddle() {
        BlottedDeed x = Check.told(Deeds.WILLS);
        Check.due("apart(0, 5)", 2, () -> x.apart(0, 5));
        Check.due("apart(0, 1)", 1, () -> x.apart(0, 1));
        Check.due("apart(3, 0)", 1, () -> x.apart(3, 0));
        Check.due("apart(3, 3)", 0, () -> x.apart(3, 3));
        Check.due("apart(6, 0)", Check.IOOBE, () -> x.apart(6, 0));
        Check.due("apart(0, -1)", Check.IOOBE, () -> x.apart(0, -1));
        Check.due("middle(0)", 0, () -> x.middle(0));
        Check.due("middle(1)", 2, () -> x.middle(1));
        Check.due("middle(2)", Check.ILLEGAL, () -> x.middle(2));
        // (a, 0), (b, 0), (b, 1) .. (b, 9): the second is next to all
        BlottedDeed y = Check.told("heir a;heir b;thing m 1;will m #1;when is a m b #1;");
        Check.due("readings round a middle", 11, y::readings);
        Check.due("their middle", 1, () -> y.middle(0));
        Check.due("its greatest number", 1, () -> y.middle(1));
        // the first 400 have m go to a, and differ by the last two blots alone; by the next three others differ
        BlottedDeed z = Check.told("heir a;heir b;heir cc;heir dd;thing m 1;thing n 1;thing o 1;estate 2;will m #1;"
            + "when #0 a m cc 1;when #0 a m cc 1;when is b o b #0;will n #0;");
        Check.due("readings()", 800, z::readings);
        Check.due("apart(0, 399)", 2, () -> z.apart(0, 399));
        Check.due("apart(0, 400)", 3, () -> z.apart(0, 400));
        Check.due("apart(0, 799)", 5, () -> z.apart(0, 799));
        Check.due("middle(0)", 0, () -> z.middle(0));
        Check.due("middle(1) of the first 400 alone", 2, () -> z.middle(1));
    }

    private static void when() {
        BlottedDeed x = Check.told(Deeds.MILL);
        Check.due("when(0, 0, 2, 0)", 10, () -> x.when(0, 0, 2, 0));
        Check.due("when(0, 0, 2, 1)", 11, () -> x.when(0, 0, 2, 1));
        Check.due("when(0, 0, 0, 1)", 1, () -> x.when(0, 0, 0, 1));
        Check.due("when(0, 2, 0, 0)", -1, () -> x.when(0, 2, 0, 0));
        Check.due("when(1, 0, 0, 0)", -1, () -> x.when(1, 0, 0, 0));
        Check.due("when(0, 0, 0, 2)", Check.ILLEGAL, () -> x.when(0, 0, 0, 2));
        Check.due("when(2, 0, 0, 2)", Check.IOOBE, () -> x.when(2, 0, 0, 2));
        Check.due("when(0, 3, 0, 2)", Check.IOOBE, () -> x.when(0, 3, 0, 2));
        Check.due("when(0, 0, -1, 2)", Check.IOOBE, () -> x.when(0, 0, -1, 2));
    }

    private static void steps() {
        BlottedDeed x = Check.told(Deeds.WILLS);
        int[][] due = {{2, 1, 0, -1}, {1, 1, -1, -1}};
        for (int t = 0; t < 2; t++) {
            for (int what = 0; what < 4; what++) {
                int thing = t;
                int w = what;
                Check.due("steps(0, " + t + ", " + w + ")", due[t][w], () -> x.steps(0, thing, w));
            }
        }
        Check.due("steps(5, 0, 8)", -1, () -> x.steps(5, 0, 8));
        Check.due("steps(5, 0, 9)", Check.ILLEGAL, () -> x.steps(5, 0, 9));
        Check.due("steps(5, 0, -1)", Check.ILLEGAL, () -> x.steps(5, 0, -1));
        Check.due("steps(6, 0, 9)", Check.IOOBE, () -> x.steps(6, 0, 9));
        Check.due("steps(0, 2, 9)", Check.IOOBE, () -> x.steps(0, 2, 9));
        BlottedDeed y = Check.told(Deeds.SPLIT);
        Check.due("what is known needs none", 0, () -> y.steps(4, 0, 0));
        // (0, a, 0 to 9), then (0, b, 5), (1, b, 4) .. (5, b, 0): the last num leaves two at most
        BlottedDeed z = Check.told("heir a;heir b;thing m 1;estate 5;coin a #1;will m #1;when is a m a 5;when is b m a #1;");
        Check.due("readings()", 16, z::readings);
        int[][] walks = {{0, 2, 2, 0}, {5, 2, 2, 1}, {6, 1, 2, -1}, {10, 2, 2, 1}, {15, 2, 2, 0}};
        for (int[] walk : walks) {
            for (int what = 0; what < 3; what++) {
                int w = what;
                Check.due("steps(" + walk[0] + ", 0, " + w + ")", walk[w + 1], () -> z.steps(walk[0], 0, w));
            }
        }
    }

    private static void pairsAndRows() {
        BlottedDeed x = Check.told(Deeds.WILLS);
        Check.due("pairs(0, 1)", 2, () -> x.pairs(0, 1));
        Check.due("pairs(1, 0)", 2, () -> x.pairs(1, 0));
        Check.due("pairs(1, 1)", Check.ILLEGAL, () -> x.pairs(1, 1));
        Check.due("pairs(2, 2)", Check.IOOBE, () -> x.pairs(2, 2));
        Check.due("pairs(0, -1)", Check.IOOBE, () -> x.pairs(0, -1));
        BlottedDeed n = Check.told("heir a;thing m 1;thing n 1;");
        Check.due("nobody is no heir", 0, () -> n.pairs(0, 1));
        BlottedDeed y = Check.told("heir a;heir b;thing m 1;estate 9;least a 1;coin a #1;coin b #1;will m a;will m #1;");
        Check.due("rows(9)", 9, () -> y.rows(9));
        Check.due("rows(0)", 0, () -> y.rows(0));
        Check.due("rows(18)", 1, () -> y.rows(18));
        Check.due("rows(999)", 0, () -> y.rows(999));
        Check.due("rows(1000)", Check.ILLEGAL, () -> y.rows(1000));
        Check.due("rows(-1)", Check.ILLEGAL, () -> y.rows(-1));
    }

    private static void bare() {
        BlottedDeed x = Check.told(Deeds.MILL);
        Check.due("bare()", 4, x::bare);
        BlottedDeed y = Check.told(Deeds.WILLS);
        Check.due("bare() of the wills", 0, y::bare);
        BlottedDeed z = Check.told("heir a;heir b;thing m 1;");
        Check.due("bare() without wills", 3, z::bare);
    }

    private static void images() {
        BlottedDeed x = Check.told(Deeds.MILL);
        Check.due("restore() without image", -1, x::restore);
        x.copy(0, 0, 1);
        x.habit(0, 1, 0, 4);
        Check.due("image()", 1, x::image);
        x.copy(0, 1, 1);
        Check.due("image()", 2, x::image);
        x.forget();
        Check.due("image()", 3, x::image);
        Check.due("image() too many", -1, x::image);
        Check.due("count(2)", 3, () -> x.count(2));
        x.copy(3, 3, 10);
        x.copy(3, 3, 10);
        Check.due("restore()", 2, x::restore);
        Check.due("copies", 0, () -> x.count(0));
        Check.due("restore()", 1, x::restore);
        Check.due("copies", 2, () -> x.count(0));
        Check.due("odds(1)", 64, () -> x.odds(1));
        Check.due("restore()", 0, x::restore);
        Check.due("copies", 1, () -> x.count(0));
        Check.due("habits", 1, () -> x.count(1));
        Check.due("odds(1)", 4, () -> x.odds(1));
        x.copy(0, 1, 1);
        Check.due("what comes behind it is told behind it", 64, () -> x.odds(1));
    }

    private static void statusAndCount() {
        BlottedDeed x = Check.told(Deeds.MILL);
        x.image();
        Check.answer(() -> x.goes(9, 9));
        Check.answer(() -> x.reading(9, 9));
        Check.answer(() -> x.blot(9, 9));
        Check.answer(() -> x.copy(9, 9, 9));
        Check.answer(() -> x.alive(9));
        Check.answer(() -> x.told(9));
        Check.due("status(0)", 2, () -> x.status(0));
        Check.due("status(1)", 3, () -> x.status(1));
        Check.due("status(2)", 1, () -> x.status(2));
        x.restore();
        x.restore();
        Check.tell(x, "?");
        Check.tell(x, Deeds.MILL);
        Check.due("no image, no deed changes it", 2, () -> x.status(0));
        Check.due("what is answered is not refused", 1, () -> x.status(2));
        Check.due("status(3)", -1, () -> x.status(3));
        Check.due("status(-1)", -1, () -> x.status(-1));
        x.copy(0, 0, 0);
        x.copy(0, 0, 0);
        x.copy(0, 0, 0);
        x.habit(0, 0, 1, 1);
        x.habit(0, 0, 1, 1);
        x.image();
        x.feed(0, 0, 0, 0, 0);
        int[] due = {3, 2, 1, 20, -1};
        for (int what = 0; what < due.length; what++) {
            int w = what;
            Check.due("count(" + w + ")", due[w], () -> x.count(w));
        }
        Check.due("count(-1)", -1, () -> x.count(-1));
    }

    private static void withoutReadings() {
        BlottedDeed x = Check.told(Deeds.EMPTY);
        Check.due("readings()", 0, x::readings);
        Check.due("reading(0, 0)", Check.IOOBE, () -> x.reading(0, 0));
        Check.due("alive(0)", 0, () -> x.alive(0));
        Check.due("holding(0, 9)", 0, () -> x.holding(0, 9));
        Check.due("often(0, 0)", 0, () -> x.often(0, 0));
        Check.due("sure(0, 0)", 0, () -> x.sure(0, 0) ? 1 : 0);
        for (int what = 0; what < 4; what++) {
            int w = what;
            Check.due("worth(1, " + w + ")", -1, () -> x.worth(1, w));
        }
        Check.due("coin(0, 0)", -1, () -> x.coin(0, 0));
        Check.due("coin(0, 1)", -1, () -> x.coin(0, 1));
        Check.due("coin(0, 2)", Check.ILLEGAL, () -> x.coin(0, 2));
        Check.due("cleaned(2)", 0, () -> x.cleaned(2));
        Check.due("settles()", 0, x::settles);
        Check.due("fewest(0, 0)", 0, () -> x.fewest(0, 0));
        Check.due("fewest(0, 1)", 0, () -> x.fewest(0, 1));
        Check.due("sway(0, 1)", 0, () -> x.sway(0, 1));
        Check.due("gains(1)", 0, () -> x.gains(1));
        Check.due("settlement(0)", -1, () -> x.settlement(0));
        Check.due("likely(0, 0, 0)", 0, () -> x.likely(0, 0, 0));
        Check.due("likely(0, 0, 1)", 1, () -> x.likely(0, 0, 1));
        Check.due("likeliest()", -1, x::likeliest);
        Check.due("slips(0)", -1, () -> x.slips(0));
        Check.due("slips(1)", -1, () -> x.slips(1));
        for (int what = 0; what < 3; what++) {
            int w = what;
            Check.due("more(0, " + w + ")", -1, () -> x.more(0, w));
        }
        Check.due("more(0, 3)", Check.ILLEGAL, () -> x.more(0, 3));
        Check.due("more(7, 0)", Check.IOOBE, () -> x.more(7, 0));
        Check.due("weak(0)", -1, () -> x.weak(0));
        Check.due("struck(0)", 0, () -> x.struck(0));
        Check.due("middle(0)", -1, () -> x.middle(0));
        Check.due("middle(1)", -1, () -> x.middle(1));
        Check.due("when(0, 0, 0, 0)", -1, () -> x.when(0, 0, 0, 0));
        Check.due("bare()", 0, x::bare);
        Check.due("rows(0)", 2, () -> x.rows(0));
    }
}
