import java.util.ArrayList;
import java.util.List;
import java.util.Random;

/** Runs of random deeds and calls, from fixed seeds, with the answers of Model as what is due. */
public final class ModelTest {
    private static final int RUNS = 800;
    private static final String[] NAMES = {
        "a", "bo", "cy", "dan", "eve", "fay", "gustav", "is", "not", "heir", "abcdefghi", "zz", "mill", "cow",
    };

    private final Random random;
    private final BlottedDeed deed = new BlottedDeed();
    private final Model model = new Model();
    private final StringBuilder log = new StringBuilder();
    private boolean willsOnly;

    private ModelTest(long seed) {
        random = new Random(seed);
        log.append("seed ").append(seed).append(' ');
    }

    public static void main(String[] args) {
        int runs = args.length > 0 ? Integer.parseInt(args[0]) : RUNS;
        for (int run = 0; run < runs; run++) {
            new ModelTest(run).run();
        }
        Check.end();
    }

    private int upTo(int bound) {
        return random.nextInt(bound);
    }

    private <T> T oneOf(List<T> list) {
        return list.get(upTo(list.size()));
    }

    private void run() {
        askAll();
        for (int deeds = 0; deeds < 3; deeds++) {
            tell();
            askAll();
        }
    }

    private void tell() {
        String text = deedText();
        if (upTo(4) == 0) {
            text = spoil(text);
        }
        if (text.length() > 600) {
            text = text.substring(0, 600);
        }
        log.append("| ").append(text).append(" |");
        for (int at = 0; at < text.length(); at += 20) {
            String twenty = (text.substring(at) + " ".repeat(20)).substring(0, 20);
            int[] n = new int[5];
            for (int i = 0; i < 20; i++) {
                n[i / 4] = n[i / 4] << 8 | twenty.charAt(i);
            }
            due("feed", model.feed(twenty), () -> deed.feed(n[0], n[1], n[2], n[3], n[4]));
        }
        int length = text.length();
        due("deed", model.deed(length), () -> deed.deed(length));
        due("fault", model.fault(), deed::fault);
    }

    private void due(String call, long want, Check.Call made) {
        Check.context = log;
        Check.due(call, want, made);
    }

    // ---- texts

    private String gap() {
        return upTo(6) == 0 ? " ".repeat(upTo(3)) : "";
    }

    private String deedText() {
        List<String> names = new ArrayList<>(List.of(NAMES));
        java.util.Collections.shuffle(names, random);
        List<String> heirs = new ArrayList<>();
        List<String> things = new ArrayList<>();
        willsOnly = upTo(8) == 0;
        long[] rows = {1};
        StringBuilder text = new StringBuilder();
        int heirCount = 1 + upTo(4);
        int thingCount = upTo(6);
        int early = 1 + upTo(heirCount);
        for (int i = 0; i < heirCount; i++) {
            if (i == early && !things.isEmpty()) {
                text.append(part(heirs, things, rows));
            }
            heirs.add(names.get(i));
            text.append(gap()).append("heir ").append(names.get(i)).append(gap()).append(';');
            if (i == 0) {
                for (int t = 0; t < thingCount; t++) {
                    things.add(names.get(4 + t));
                    text.append("thing ").append(names.get(4 + t)).append(gap()).append(upTo(60)).append(gap()).append(';');
                }
            }
        }
        int partCount = upTo(9);
        for (int p = 0; p < partCount; p++) {
            text.append(part(heirs, things, rows));
        }
        while (upTo(3) == 0) {
            text.append("least ").append(oneOf(heirs)).append(' ').append(willsOnly ? 0 : upTo(5)).append(';');
        }
        if (upTo(8) != 0) {
            int estate = upTo(8) == 0 ? upTo(200) : likelyEstate(text.toString());
            text.append(gap()).append("estate").append(gap()).append(estate).append(gap()).append(';');
        }
        return text.append(gap()).toString();
    }

    /** What all coin is by some row of a deed, so that there be readings. */
    private int likelyEstate(String text) {
        Model probe = new Model();
        probe.tape.append(text);
        return probe.deed(text.length()) < 0 ? 0 : oneOf(probe.all).sum;
    }

    private String part(List<String> heirs, List<String> things, long[] rows) {
        int kind = things.isEmpty() ? 0 : willsOnly ? 1 : upTo(3);
        if (kind == 0) {
            return "coin " + heir(heirs, rows) + " " + num(rows) + ";";
        }
        if (kind == 1) {
            return "will " + oneOf(things) + " " + heir(heirs, rows) + gap() + ";";
        }
        String is = blotted(rows, 2) ? "#" + oneOf(List.of(0, 0, 2, 3)) : oneOf(List.of("is", "not"));
        return "when " + is + " " + heir(heirs, rows) + " " + oneOf(things) + " " + heir(heirs, rows) + " "
            + num(rows) + ";";
    }

    /** Whether a blot may come here, so that the model need not reckon too many rows. */
    private boolean blotted(long[] rows, int by) {
        if (rows[0] * by > 1500 && upTo(40) != 0 || upTo(3) == 0) {
            return false;
        }
        rows[0] *= by;
        return true;
    }

    private String heir(List<String> heirs, long[] rows) {
        String name = oneOf(heirs);
        if (!blotted(rows, heirs.size())) {
            return name;
        }
        return gap() + "#" + gap() + (upTo(2) == 0 ? 0 : name.length());
    }

    private String num(long[] rows) {
        int kind = upTo(5);
        int value = kind == 0 ? upTo(100) : upTo(10);
        if (blotted(rows, kind == 0 ? 90 : 10)) {
            return gap() + "#" + (kind == 0 ? upTo(2) * 2 : 1);
        }
        return (upTo(10) == 0 ? "00" : "") + value;
    }

    private String spoil(String text) {
        StringBuilder spoiled = new StringBuilder(text);
        int changes = 1 + upTo(2);
        for (int i = 0; i < changes && spoiled.length() > 0; i++) {
            int at = upTo(spoiled.length());
            char sign = oneOf(List.of('a', 'z', '{', '`', '0', '9', '/', ':', '#', ';', ' ', (char) 0, (char) 200, 'A'));
            switch (upTo(5)) {
                case 0 -> spoiled.setCharAt(at, sign);
                case 1 -> spoiled.insert(at, sign);
                case 2 -> spoiled.deleteCharAt(at);
                case 3 -> spoiled.setLength(at);
                default -> spoiled.insert(spoiled.lastIndexOf(";") + 1, oneOf(List.of(
                    "heir a;heir b;heir c;heir d;heir e;", "estate 5;".repeat(41), "coin a 5;".repeat(10), "coin a #0 ;",
                    "will q a;", "thing x 99;thing y 100;", "coin a #1;".repeat(9), "least a 1000;", "heir abcdefghij;")));
            }
        }
        return spoiled.toString();
    }

    // ---- calls

    private int reading() {
        int size = model.readings.size();
        return upTo(12) == 0 ? oneOf(List.of(-1, size, size + 1, Integer.MAX_VALUE, Integer.MIN_VALUE)) : upTo(size + 1);
    }

    private int one(int size) {
        return upTo(12) == 0 ? oneOf(List.of(-1, size, size + 7, Integer.MAX_VALUE, Integer.MIN_VALUE)) : upTo(size + 1);
    }

    private int heir() {
        return one(Math.max(model.told.heirs.size() - upTo(2), 0));
    }

    private int thing() {
        return one(Math.max(model.told.things.size() - upTo(2), 0));
    }

    private int blot() {
        return one(Math.max(model.told.blots.size() - upTo(2), 0));
    }

    private void askAll() {
        for (int turn = 0; turn < 5; turn++) {
            testify();
            askText();
            askReadings();
            askBlots();
            askCopies();
            askMore();
        }
        for (int what = -1; what < 5; what++) {
            int w = what;
            due("status " + w, model.status(w), () -> deed.status(w));
            due("count " + w, model.count(w), () -> deed.count(w));
        }
    }

    private void testify() {
        int changes = upTo(4);
        for (int i = 0; i < changes; i++) {
            int hand = one(4);
            int b = blot();
            int tells = upTo(3) == 0 ? one(100) : b >= 0 && b < model.told.blots.size() && !model.readings.isEmpty()
                ? oneOf(model.readings).row[b] : one(3);
            int written = upTo(3) == 0 ? one(100) : tells;
            int meant = one(upTo(2) == 0 ? 10 : 100);
            int p = upTo(18);
            due("copy", model.copy(hand, b, tells), () -> deed.copy(hand, b, tells));
            due("habit", model.habit(hand, written, meant, p), () -> deed.habit(hand, written, meant, p));
        }
        if (upTo(12) == 0) {
            due("forget", model.forget(), deed::forget);
        }
        if (upTo(5) == 0) {
            due("image", model.image(), deed::image);
        }
        if (upTo(5) == 0) {
            due("restore", model.restore(), deed::restore);
        }
    }

    private void askText() {
        int what = one(7);
        due("told " + what, model.told(what), () -> deed.told(what));
        int b = blot();
        int of = one(4);
        due("blot", model.blot(b, of), () -> deed.blot(b, of));
        int i = one(100);
        due("candidate", model.candidate(b, i), () -> deed.candidate(b, i));
        int n = model.tape.length() + 1;
        due("deed too long", model.deed(n), () -> deed.deed(n));
        due("deed of -1", model.deed(-1), () -> deed.deed(-1));
        due("fault", model.fault(), deed::fault);
    }

    private void askReadings() {
        due("readings", model.readings(), deed::readings);
        due("bars", model.bars(), deed::bars);
        due("settles", model.settles(), deed::settles);
        due("bare", model.bare(), deed::bare);
        int i = reading();
        int j = reading();
        int h = heir();
        int o = heir();
        int t = thing();
        int u = thing();
        int what = one(2);
        int four = one(4);
        int nine = one(9);
        due("gets", model.gets(i, h, what), () -> deed.gets(i, h, what));
        due("goes", model.goes(i, t), () -> deed.goes(i, t));
        due("often", model.often(t, h), () -> deed.often(t, h));
        due("sure", model.sure(t, h), () -> deed.sure(t, h) ? 1 : 0);
        due("coin", model.coin(h, what), () -> deed.coin(h, what));
        due("worth", model.worth(h, four), () -> deed.worth(h, four));
        due("fewest " + t + " " + what, model.fewest(t, what), () -> deed.fewest(t, what));
        due("settlement", model.settlement(h), () -> deed.settlement(h));
        due("apart", model.apart(i, j), () -> deed.apart(i, j));
        due("middle", model.middle(what), () -> deed.middle(what));
        due("when", model.when(t, h, o, what), () -> deed.when(t, h, o, what));
        due("steps", model.steps(i, t, nine), () -> deed.steps(i, t, nine));
        due("pairs", model.pairs(t, u), () -> deed.pairs(t, u));
    }

    private void askBlots() {
        int i = reading();
        int b = blot();
        int t = thing();
        int value = one(100);
        int small = one(10);
        due("reading", model.reading(i, b), () -> deed.reading(i, b));
        due("alive", model.alive(b), () -> deed.alive(b));
        due("cleaned", model.cleaned(b), () -> deed.cleaned(b));
        due("sway", model.sway(t, b), () -> deed.sway(t, b));
        due("gains", model.gains(b), () -> deed.gains(b));
        due("holding", model.holding(b, value), () -> deed.holding(b, value));
        due("holding", model.holding(b, small), () -> deed.holding(b, small));
    }

    private void askCopies() {
        int i = reading();
        int t = thing();
        int h = heir();
        int what = one(2);
        due("odds", model.odds(i), () -> deed.odds(i));
        due("likely", model.likely(t, h, what), () -> deed.likely(t, h, what));
        due("likeliest", model.likeliest(), deed::likeliest);
        due("slips", model.slips(what), () -> deed.slips(what));
    }

    private void askMore() {
        int place = one(model.told.places().size());
        int what = one(3);
        int part = one(model.told.parts.size());
        int t = thing();
        int estate = upTo(3) == 0 ? one(1000) : upTo(60);
        due("more", model.more(place, what), () -> deed.more(place, what));
        due("weak", model.weak(t), () -> deed.weak(t));
        due("struck", model.struck(part), () -> deed.struck(part));
        due("rows", model.rows(estate), () -> deed.rows(estate));
        due("rows", model.rows(model.told.estate), () -> deed.rows(model.told.estate));
    }
}
