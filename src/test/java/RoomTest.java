import java.lang.management.ManagementFactory;

/** What a run makes is counted: calls make nothing but what is thrown, whatever the deed. */
public final class RoomTest {
    /** 16,384 readings, so that every call goes through as much as it can. */
    private static final String WIDE = "heir a;heir b;heir c;heir d;thing m 1;thing n 2;thing o 3;thing p 4;thing q 5;"
        + "will m #1;will n #1;will o #1;will p #1;when #2 #1 q #1 5;when is #1 q a 5;";

    public static void main(String[] args) {
        com.sun.management.ThreadMXBean threads = (com.sun.management.ThreadMXBean) ManagementFactory.getThreadMXBean();
        BlottedDeed warm = Check.told(WIDE);
        ask(warm, 0);
        long before = threads.getThreadAllocatedBytes(Thread.currentThread().getId());
        BlottedDeed x = new BlottedDeed();
        long made = threads.getThreadAllocatedBytes(Thread.currentThread().getId()) - before;
        Check.same("a new object is small: " + made, 1, made < 60_000 ? 1 : 0);
        Check.feed(x, "heir a;heir b;heir c;heir d;thing m 1;will m #1;");
        x.deed(48);
        before = threads.getThreadAllocatedBytes(Thread.currentThread().getId());
        Check.feed(x, WIDE);
        int blots = x.deed(WIDE.length());
        made = threads.getThreadAllocatedBytes(Thread.currentThread().getId()) - before;
        Check.same("blots", 8, blots);
        Check.same("the first wide deed makes room once: " + made, 1, made < 1_500_000 ? 1 : 0);
        Check.due("readings", 16384, x::readings);
        before = threads.getThreadAllocatedBytes(Thread.currentThread().getId());
        for (int turn = 0; turn < 12; turn++) {
            ask(x, turn % 5);
        }
        made = threads.getThreadAllocatedBytes(Thread.currentThread().getId()) - before;
        Check.same("some 500 calls make next to nothing: " + made, 1, made < 100_000 ? 1 : 0);
        Check.end();
    }

    private static void ask(BlottedDeed x, int thing) {
        int other = (thing + 1) % 5;
        x.copy(0, 0, 1);
        x.habit(0, 1, 2, 3);
        x.bars();
        x.settles();
        x.bare();
        x.likeliest();
        for (int what = 0; what < 2; what++) {
            x.coin(1, what);
            x.worth(1, what);
            x.worth(1, what + 2);
            x.fewest(thing, what);
            x.likely(thing, 1, what);
            x.slips(what);
            x.middle(what);
            x.when(thing, 1, 2, what);
            x.steps(5, thing, what);
        }
        for (int blot = 0; blot < 5; blot++) {
            x.alive(blot);
            x.cleaned(blot);
            x.sway(thing, blot);
            x.gains(blot);
        }
        x.settlement(0);
        x.weak(thing);
        x.more(0, 2);
        x.struck(thing);
        x.pairs(thing, other);
        x.rows(5);
        x.image();
        x.restore();
        x.forget();
    }
}
