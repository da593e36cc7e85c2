/** One new object that is asked call by call; behind each call its status() must count what was refused, no more. */
final class Asked {
    private static final int CALLS = 512;

    private final BlottedDeed deed = new BlottedDeed();
    private final int[] refused = new int[3];
    private int calls;

    interface Call {
        long make(BlottedDeed deed);
    }

    interface CallOf {
        long make(BlottedDeed deed, int number);
    }

    Asked() {
    }

    /** An object whose deed is a text without a fault. */
    Asked(String text) {
        feed(text);
        Check.same("deed of '" + text + "' has no fault", 1, ask(d -> d.deed(text.length())) >= 0 ? 1 : 0);
    }

    private long ask(Call call) {
        calls++;
        if (calls > CALLS) {
            Check.same("calls of one object", CALLS, calls);
        }
        return Check.answer(() -> call.make(deed));
    }

    /** Puts a text on the tape, filled up with zero bytes to a multiple of twenty. */
    void feed(String text) {
        calls += (text.length() + 19) / 20;
        Check.feed(deed, text);
    }

    /** Fills the object's calls up to a number. */
    void idle(int upTo) {
        while (calls < upTo) {
            ask(BlottedDeed::readings);
        }
    }

    /** The call answers so, and is not refused. */
    void gives(String what, long want, Call call) {
        Check.same(what, want, ask(call));
        countsAsDue(what);
    }

    /** The call throws so; that is counted once, and nothing else changes. */
    void refuses(String what, long kind, Call call) {
        long[] before = state();
        Check.same(what, kind, ask(call));
        refused[kind == Check.IOOBE ? 0 : kind == Check.NOSUCH ? 1 : 2]++;
        countsAsDue(what);
        long[] behind = state();
        for (int i = 0; i < before.length; i++) {
            Check.same(what + " leaves all as it was (" + i + ")", before[i], behind[i]);
        }
    }

    private void countsAsDue(String what) {
        for (int kind = 0; kind < refused.length; kind++) {
            int k = kind;
            Check.same("status(" + k + ") behind " + what, refused[k], ask(d -> d.status(k)));
        }
    }

    private long[] state() {
        long[] state = new long[6];
        for (int what = 0; what < 4; what++) {
            int w = what;
            state[what] = ask(d -> d.count(w));
        }
        state[4] = ask(BlottedDeed::fault);
        state[5] = ask(BlottedDeed::readings);
        return state;
    }

    /** The call is answered for the first and the last number, and refused for those next to them and the farthest. */
    void takes(String what, int first, int last, long kind, CallOf call) {
        for (int number : new int[] {first, last}) {
            long answer = ask(d -> call.make(d, number));
            boolean threw = answer == Check.IOOBE || answer == Check.NOSUCH || answer == Check.ILLEGAL;
            Check.same(what + " of " + number + " is answered", 0, threw || answer == Check.OTHER ? 1 : 0);
            countsAsDue(what + " of " + number);
        }
        refusesAll(what, kind, call, first - 1, last + 1, Integer.MIN_VALUE, Integer.MAX_VALUE);
    }

    void refusesAll(String what, long kind, CallOf call, int... numbers) {
        for (int number : numbers) {
            refuses(what + " of " + number, kind, d -> call.make(d, number));
        }
    }

    /** The call has an answer for the first and the last number, and NONE, unrefused, for those outside. */
    void knows(String what, int first, int last, CallOf call) {
        for (int number : new int[] {first, last}) {
            Check.same(what + " of " + number + " is none such", 0, ask(d -> call.make(d, number)) == -1 ? 1 : 0);
        }
        for (int number : new int[] {first - 1, last + 1, Integer.MIN_VALUE, Integer.MAX_VALUE}) {
            gives(what + " of " + number, -1, d -> call.make(d, number));
        }
    }

    /** What a call answers for each of these texts as a new object's deed. */
    static void each(String what, Call call, Object... textsAndAnswers) {
        for (int i = 0; i + 1 < textsAndAnswers.length; i += 2) {
            String text = (String) textsAndAnswers[i];
            new Asked(text).gives(what + " of '" + text + "'", (Integer) textsAndAnswers[i + 1], call);
        }
    }

    /** What a call answers for the numbers from 0 on, with a text as a new object's deed. */
    static void all(String text, String what, CallOf call, int... due) {
        Asked x = new Asked(text);
        for (int i = 0; i < due.length; i++) {
            int number = i;
            x.gives(what + " of " + i, due[i], d -> call.make(d, number));
        }
    }
}
