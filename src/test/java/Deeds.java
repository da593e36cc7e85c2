/** The deeds that several tests ask. */
final class Deeds {
    /** Four readings: (0, ann, is, 11), (0, bob, not, 11), (1, ann, is, 10), (1, bob, not, 10). */
    static final String MILL = "heir ann;heir bob;heir clara;thing mill 50;thing cow 8;estate 20;least bob 3;"
        + "coin ann #1;coin bob 9;will mill #3;when #0 ann mill clara #2;";
    /** Six readings: m to a or b, n to a, b or cc; no coin. */
    static final String WILLS = "heir a;heir b;heir cc;thing m 10;thing n 7;will m #1;will n #0;";
    /** Ten readings: a has 0 to 9, b the rest of 9. */
    static final String SPLIT = "heir a;heir b;thing m 4;estate 9;coin a #1;coin b #1;will m a;";
    /** No readings, two heirs, one thing, a blot of each kind. */
    static final String EMPTY = "heir a;heir b;thing m 4;estate 999;coin a #1;will m #1;when #0 a m b 5;";
    /** 20,000 rows, all of them readings: m to a or b, and two nums that nobody gets. */
    static final String WIDE = "heir a;heir b;thing m 1;thing n 1;will m #1;when is a n b #0;when is a n b #0;";
    /** 20,000 readings too, and a blot that hides the third heir alone. */
    static final String MOST = "heir a;heir b;heir abcdefghi;thing m 1;thing n 1;will m #1;when is a n b #0;"
        + "when is a n #9 #0;";
    /** 256 readings: seven "is" or "not" that decide nothing, and m to a or b. */
    static final String EIGHT = "heir a;heir b;thing m 1;thing n 1;" + "when #0 a n b 0;".repeat(7) + "will m #1;";

    /** Eleven readings: (0, a), (0, b), (1, b) .. (9, b); m goes to the heir, and the num is paid if that is a. */
    static final String LATE = "heir a;heir b;thing m 1;when is a m b #1;will m #1;";

    private Deeds() {
    }
}
