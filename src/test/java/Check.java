/** What all tests share: feeding a text, comparing answers, and noting what a call throws. */
final class Check {
    static final long IOOBE = Long.MIN_VALUE + 1;
    static final long NOSUCH = Long.MIN_VALUE + 2;
    static final long ILLEGAL = Long.MIN_VALUE + 3;
    static final long OTHER = Long.MIN_VALUE + 4;

    /** What stands ahead of a wrong answer's row: the run that it belongs to. */
    static CharSequence context = "";

    private static int wrong = 0;
    private static int asked = 0;

    interface Call {
        long make();
    }

    private Check() {
    }

    /** The answer of a call, or the number of what it throws. */
    static long answer(Call call) {
        try {
            return call.make();
        } catch (IndexOutOfBoundsException e) {
            return e.getClass() == IndexOutOfBoundsException.class ? IOOBE : OTHER;
        } catch (java.util.NoSuchElementException e) {
            return e.getClass() == java.util.NoSuchElementException.class ? NOSUCH : OTHER;
        } catch (IllegalArgumentException e) {
            return e.getClass() == IllegalArgumentException.class ? ILLEGAL : OTHER;
        } catch (RuntimeException e) {
            return OTHER;
        }
    }

    static void due(String what, long want, Call call) {
        same(what, want, answer(call));
    }

    static void same(String what, long want, long got) {
        asked++;
        if (want != got) {
            wrong++;
            if (wrong <= 40) {
                System.out.println(context + " " + what + " answered " + name(got) + ", due is " + name(want));
            }
        }
    }

    static String name(long answer) {
        if (answer == IOOBE) {
            return "throws.IndexOutOfBoundsException";
        }
        if (answer == NOSUCH) {
            return "throws.NoSuchElementException";
        }
        if (answer == ILLEGAL) {
            return "throws.IllegalArgumentException";
        }
        return answer == OTHER ? "throws.another" : Long.toString(answer);
    }

    /** Puts a text on the tape, filled up with zero bytes. */
    static void feed(BlottedDeed deed, String text) {
        for (int at = 0; at < text.length(); at += 20) {
            deed.feed(four(text, at), four(text, at + 4), four(text, at + 8), four(text, at + 12), four(text, at + 16));
        }
    }

    private static int four(String text, int at) {
        int number = 0;
        for (int i = at; i < at + 4; i++) {
            number = number << 8 | (i < text.length() ? text.charAt(i) & 255 : 0);
        }
        return number;
    }

    /** Feeds a text and has it read as the deed. */
    static int tell(BlottedDeed deed, String text) {
        feed(deed, text);
        return deed.deed(text.length());
    }

    static BlottedDeed told(String text) {
        BlottedDeed deed = new BlottedDeed();
        int blots = tell(deed, text);
        if (blots < 0) {
            same("deed of '" + text + "' at " + deed.fault(), 0, blots);
        }
        return deed;
    }

    static void end() {
        System.out.println(asked + " answers, " + wrong + " not as due");
        if (wrong > 0 || asked == 0) {
            System.exit(1);
        }
    }
}
