import java.util.ArrayList;
import java.util.HashMap;
import java.util.HashSet;
import java.util.List;
import java.util.Map;
import java.util.Set;
import java.util.function.ToIntFunction;

/**
 * The document told a second time, as plainly as can be and without regard to speed or room, so that
 * BlottedDeed can be held against it. Answers of calls that throw are the numbers in Check.
 */
final class Model {
    static final int NUM = 0;
    static final int HEIR = 1;
    static final int IS = 2;

    static final class Fault extends RuntimeException {
        private static final long serialVersionUID = 1L;
        final int kind;
        final int place;

        Fault(int kind, int place) {
            this.kind = kind;
            this.place = place;
        }
    }

    static final class Token {
        char type;
        String text;
        int at;
    }

    /** A num, heir or is of a part: what stands there, or the blot that hides it. */
    static final class Slot {
        int kind;
        int value;
        int blot = -1;
    }

    static final class Part {
        String verb;
        int thing = -1;
        final List<Slot> slots = new ArrayList<>();
    }

    static final class Blot {
        int kind;
        int width;
        int part;
        List<Integer> candidates;
    }

    static final class Told {
        final List<String> heirs = new ArrayList<>();
        final List<String> things = new ArrayList<>();
        final List<Integer> worths = new ArrayList<>();
        final Map<Integer, Integer> least = new HashMap<>();
        final List<Part> parts = new ArrayList<>();
        final List<Blot> blots = new ArrayList<>();
        int estate;

        long rows() {
            long many = 1;
            for (Blot blot : blots) {
                many *= blot.candidates.size();
            }
            return many;
        }

        List<Slot> places() {
            List<Slot> all = new ArrayList<>();
            for (Part part : parts) {
                all.addAll(part.slots);
            }
            return all;
        }

        List<Integer> candidates(int kind, int width) {
            List<Integer> found = new ArrayList<>();
            if (kind == NUM) {
                for (int n = 0; n < 100; n++) {
                    if (width == 0 || width == Integer.toString(n).length()) {
                        found.add(n);
                    }
                }
            } else if (kind == HEIR) {
                for (int h = 0; h < heirs.size(); h++) {
                    if (width == 0 || width == heirs.get(h).length()) {
                        found.add(h);
                    }
                }
            } else {
                for (int is = 0; is < 2; is++) {
                    if (width == 0 || width == (is == 0 ? "is" : "not").length()) {
                        found.add(is);
                    }
                }
            }
            return found;
        }
    }

    /** What follows from one row. */
    static final class Outcome {
        int[] row;
        int[] coin;
        int[] goes;
        int sum;
        boolean law0;
        boolean law1;
        boolean law2;

        boolean lawful() {
            return law0 && law1 && law2;
        }
    }

    // ---- the text

    static final class Reader {
        private final List<Token> tokens = new ArrayList<>();
        private int next;
        private final int length;
        private final Told told = new Told();

        Reader(String text) {
            length = text.length();
            int at = 0;
            while (at < text.length()) {
                char c = text.charAt(at);
                int end = at + 1;
                char type = c;
                if (c >= 'a' && c <= 'z') {
                    type = 'w';
                    while (end < text.length() && text.charAt(end) >= 'a' && text.charAt(end) <= 'z') {
                        end++;
                    }
                } else if (c >= '0' && c <= '9') {
                    type = 'n';
                    while (end < text.length() && text.charAt(end) >= '0' && text.charAt(end) <= '9') {
                        end++;
                    }
                } else if (c != '#' && c != ';') {
                    type = '?';
                }
                if (c != ' ') {
                    Token token = new Token();
                    token.type = type;
                    token.text = text.substring(at, end);
                    token.at = at;
                    tokens.add(token);
                }
                at = end;
            }
            Token token = new Token();
            token.type = '.';
            token.text = "";
            token.at = length;
            tokens.add(token);
        }

        private Token peek() {
            return tokens.get(next);
        }

        private Token take(char type) {
            Token token = peek();
            if (token.type != type) {
                throw new Fault(1, token.at);
            }
            next++;
            return token;
        }

        Told read() {
            int clauses = 0;
            while (peek().type != '.') {
                Token verb = take('w');
                boolean part = List.of("coin", "will", "when").contains(verb.text);
                if (!part && !List.of("heir", "thing", "estate", "least").contains(verb.text)) {
                    throw new Fault(1, verb.at);
                }
                clauses++;
                if (clauses > 40 || verb.text.equals("heir") && told.heirs.size() == 4
                        || verb.text.equals("thing") && told.things.size() == 5 || part && told.parts.size() == 9) {
                    throw new Fault(3, verb.at);
                }
                clause(verb.text);
                take(';');
            }
            if (told.rows() > 20000) {
                throw new Fault(4, length);
            }
            return told;
        }

        private void clause(String verb) {
            switch (verb) {
                case "heir" -> told.heirs.add(freshName());
                case "thing" -> {
                    String name = freshName();
                    int worth = number(99);
                    told.things.add(name);
                    told.worths.add(worth);
                }
                case "estate" -> told.estate = number(999);
                case "least" -> {
                    int heir = known(told.heirs);
                    told.least.put(heir, number(999));
                }
                default -> part(verb);
            }
        }

        private void part(String verb) {
            Part part = new Part();
            part.verb = verb;
            told.parts.add(part);
            if (verb.equals("coin")) {
                part.slots.add(slot(HEIR));
                part.slots.add(slot(NUM));
            } else if (verb.equals("will")) {
                part.thing = known(told.things);
                part.slots.add(slot(HEIR));
            } else {
                part.slots.add(slot(IS));
                part.slots.add(slot(HEIR));
                part.thing = known(told.things);
                part.slots.add(slot(HEIR));
                part.slots.add(slot(NUM));
            }
        }

        private String freshName() {
            Token token = take('w');
            if (token.text.length() > 9 || told.heirs.contains(token.text) || told.things.contains(token.text)) {
                throw new Fault(2, token.at);
            }
            return token.text;
        }

        private int known(List<String> names) {
            Token token = take('w');
            if (!names.contains(token.text)) {
                throw new Fault(2, token.at);
            }
            return names.indexOf(token.text);
        }

        private int number(int most) {
            Token token = take('n');
            java.math.BigInteger value = new java.math.BigInteger(token.text);
            if (value.compareTo(java.math.BigInteger.valueOf(most)) > 0) {
                throw new Fault(2, token.at);
            }
            return value.intValue();
        }

        private Slot slot(int kind) {
            Slot slot = new Slot();
            slot.kind = kind;
            if (peek().type == '#') {
                Token sign = take('#');
                if (told.blots.size() == 8) {
                    throw new Fault(3, sign.at);
                }
                int at = peek().at;
                Blot blot = new Blot();
                blot.kind = kind;
                blot.width = number(9);
                blot.part = told.parts.size() - 1;
                blot.candidates = told.candidates(kind, blot.width);
                if (blot.candidates.isEmpty()) {
                    throw new Fault(2, at);
                }
                slot.blot = told.blots.size();
                told.blots.add(blot);
            } else if (kind == NUM) {
                slot.value = number(99);
            } else if (kind == HEIR) {
                slot.value = known(told.heirs);
            } else {
                slot.value = known(List.of("is", "not"));
            }
            return slot;
        }
    }

    // ---- the state

    Told told = new Told();
    List<Outcome> all = new ArrayList<>();
    List<Outcome> readings = new ArrayList<>();
    List<int[]> copies = new ArrayList<>();
    List<int[]> habits = new ArrayList<>();
    private final List<List<List<int[]>>> images = new ArrayList<>();
    StringBuilder tape = new StringBuilder();
    private int fault = -1;
    final int[] refused = new int[3];

    Model() {
        reckonAll();
    }

    private void reckonAll() {
        all = new ArrayList<>();
        readings = new ArrayList<>();
        for (int[] row : rowsOf(told.blots)) {
            all.add(outcome(row, -1));
        }
        for (Outcome outcome : all) {
            if (outcome.lawful()) {
                readings.add(outcome);
            }
        }
    }

    private static List<int[]> rowsOf(List<Blot> blots) {
        List<int[]> rows = new ArrayList<>();
        rows.add(new int[0]);
        for (Blot blot : blots) {
            List<int[]> longer = new ArrayList<>();
            for (int[] row : rows) {
                for (int candidate : blot.candidates) {
                    int[] more = java.util.Arrays.copyOf(row, row.length + 1);
                    more[row.length] = candidate;
                    longer.add(more);
                }
            }
            rows = longer;
        }
        return rows;
    }

    private Outcome outcome(int[] row, int struck) {
        List<int[]> values = new ArrayList<>();
        for (Part part : told.parts) {
            values.add(part.slots.stream().mapToInt(s -> s.blot < 0 ? s.value : row[s.blot]).toArray());
        }
        Outcome outcome = outcomeOf(values, struck);
        outcome.row = row;
        return outcome;
    }

    private Outcome outcomeOf(List<int[]> values, int struck) {
        Outcome outcome = new Outcome();
        outcome.coin = new int[told.heirs.size()];
        outcome.goes = new int[told.things.size()];
        outcome.law1 = true;
        for (int t = 0; t < told.things.size(); t++) {
            List<Integer> willed = new ArrayList<>();
            for (int p = 0; p < told.parts.size(); p++) {
                if (p != struck && told.parts.get(p).verb.equals("will") && told.parts.get(p).thing == t) {
                    willed.add(values.get(p)[0]);
                }
            }
            outcome.goes[t] = willed.isEmpty() ? -1 : willed.get(0);
            outcome.law1 &= new HashSet<>(willed).size() <= 1;
        }
        for (int p = 0; p < told.parts.size(); p++) {
            Part part = told.parts.get(p);
            int[] v = values.get(p);
            if (p == struck || part.verb.equals("will")) {
                continue;
            }
            if (part.verb.equals("coin")) {
                outcome.coin[v[0]] += v[1];
            } else if (v[0] == 0 && outcome.goes[part.thing] == v[1] || v[0] == 1 && outcome.goes[part.thing] != v[1]) {
                outcome.coin[v[2]] += v[3];
            }
        }
        outcome.law2 = true;
        for (int h = 0; h < told.heirs.size(); h++) {
            outcome.sum += outcome.coin[h];
            outcome.law2 &= outcome.coin[h] >= told.least.getOrDefault(h, 0);
        }
        outcome.law0 = outcome.sum == told.estate;
        return outcome;
    }

    // ---- refusals

    private long index() {
        refused[0]++;
        return Check.IOOBE;
    }

    private long element() {
        refused[1]++;
        return Check.NOSUCH;
    }

    private long argument() {
        refused[2]++;
        return Check.ILLEGAL;
    }

    private static boolean in(int number, int size) {
        return number >= 0 && number < size;
    }

    private boolean isReading(int i) {
        return in(i, readings.size());
    }

    private boolean isHeir(int h) {
        return in(h, told.heirs.size());
    }

    private boolean isThing(int t) {
        return in(t, told.things.size());
    }

    private boolean isBlot(int b) {
        return in(b, told.blots.size());
    }

    // ---- the calls

    long feed(String twenty) {
        if (tape.length() + 20 > 600) {
            return -1;
        }
        tape.append(twenty);
        return tape.length();
    }

    long deed(int n) {
        if (n < 0 || n > tape.length()) {
            return argument();
        }
        String text = tape.substring(0, n);
        tape = new StringBuilder();
        try {
            told = new Reader(text).read();
        } catch (Fault f) {
            fault = f.place;
            return f.kind - 10;
        }
        fault = -1;
        copies.clear();
        habits.clear();
        images.clear();
        reckonAll();
        return told.blots.size();
    }

    long fault() {
        return fault;
    }

    long told(int what) {
        long[] answers = {told.heirs.size(), told.things.size(), told.parts.size(), told.blots.size(), told.estate,
            told.places().size(), told.rows()};
        return in(what, 7) ? answers[what] : argument();
    }

    long blot(int b, int what) {
        if (!isBlot(b)) {
            return element();
        }
        Blot blot = told.blots.get(b);
        int[] answers = {blot.kind, blot.width, blot.candidates.size(), blot.part};
        return in(what, 4) ? answers[what] : argument();
    }

    long candidate(int b, int i) {
        if (!isBlot(b)) {
            return element();
        }
        List<Integer> candidates = told.blots.get(b).candidates;
        return in(i, candidates.size()) ? candidates.get(i) : -1;
    }

    long readings() {
        return readings.size();
    }

    long reading(int i, int b) {
        return !isReading(i) ? index() : !isBlot(b) ? element() : readings.get(i).row[b];
    }

    long alive(int b) {
        return isBlot(b) ? readings.stream().map(r -> r.row[b]).distinct().count() : element();
    }

    long bars() {
        if (!readings.isEmpty()) {
            return -1;
        }
        if (all.stream().anyMatch(r -> r.law1 && r.law2)) {
            return 0;
        }
        if (all.stream().anyMatch(r -> r.law0 && r.law2)) {
            return 1;
        }
        return all.stream().anyMatch(r -> r.law0 && r.law1) ? 2 : -1;
    }

    private int worthBy(Outcome r, int heir) {
        int worth = r.coin[heir];
        for (int t = 0; t < r.goes.length; t++) {
            worth += r.goes[t] == heir ? told.worths.get(t) : 0;
        }
        return worth;
    }

    long gets(int i, int heir, int what) {
        if (!isReading(i) || !isHeir(heir)) {
            return index();
        }
        if (!in(what, 2)) {
            return argument();
        }
        return what == 0 ? readings.get(i).coin[heir] : worthBy(readings.get(i), heir);
    }

    long goes(int i, int thing) {
        return isReading(i) && isThing(thing) ? readings.get(i).goes[thing] : index();
    }

    private long times(int thing, int heir) {
        return readings.stream().filter(r -> r.goes[thing] == heir).count();
    }

    long often(int thing, int heir) {
        return isThing(thing) && isHeir(heir) ? times(thing, heir) : index();
    }

    long sure(int thing, int heir) {
        if (!isThing(thing) || !isHeir(heir)) {
            return index();
        }
        return !readings.isEmpty() && readings.stream().allMatch(r -> r.goes[thing] == heir) ? 1 : 0;
    }

    long coin(int heir, int what) {
        if (!isHeir(heir)) {
            return index();
        }
        if (!in(what, 2)) {
            return argument();
        }
        java.util.stream.IntStream coins = readings.stream().mapToInt(r -> r.coin[heir]);
        return (what == 0 ? coins.min() : coins.max()).orElse(-1);
    }

    long worth(int heir, int what) {
        if (!isHeir(heir)) {
            return index();
        }
        if (!in(what, 4)) {
            return argument();
        }
        int[] worths = readings.stream().mapToInt(r -> worthBy(r, heir)).toArray();
        if (worths.length == 0) {
            return -1;
        }
        java.util.stream.IntStream stream = java.util.Arrays.stream(worths);
        int wanted = (what % 2 == 0 ? stream.max() : stream.min()).getAsInt();
        if (what < 2) {
            return wanted;
        }
        int first = 0;
        while (worths[first] != wanted) {
            first++;
        }
        return first;
    }

    private static int mostLeft(List<Outcome> among, int b) {
        Map<Integer, Integer> left = new HashMap<>();
        for (Outcome r : among) {
            left.merge(r.row[b], 1, Integer::sum);
        }
        return left.values().stream().mapToInt(n -> n).max().orElse(0);
    }

    long cleaned(int b) {
        return isBlot(b) ? mostLeft(readings, b) : element();
    }

    /** The number from 0 on whose measure is least, of these the first; NONE if there are none. */
    private static int firstLeast(int size, ToIntFunction<Integer> measure) {
        int found = -1;
        for (int i = 0; i < size; i++) {
            if (found < 0 || measure.applyAsInt(i) < measure.applyAsInt(found)) {
                found = i;
            }
        }
        return found;
    }

    long settles() {
        return firstLeast(told.blots.size(), b -> mostLeft(readings, b));
    }

    private boolean known(int set, int thing) {
        Map<String, Integer> shown = new HashMap<>();
        for (Outcome r : readings) {
            StringBuilder key = new StringBuilder();
            for (int b = 0; b < r.row.length; b++) {
                key.append((set >> b & 1) == 1 ? r.row[b] : -1).append(',');
            }
            Integer before = shown.put(key.toString(), r.goes[thing]);
            if (before != null && before != r.goes[thing]) {
                return false;
            }
        }
        return true;
    }

    long fewest(int thing, int what) {
        if (!isThing(thing)) {
            return index();
        }
        if (!in(what, 2)) {
            return argument();
        }
        for (int size = 0; size <= told.blots.size(); size++) {
            for (int set = 0; set < 1 << told.blots.size(); set++) {
                if (Integer.bitCount(set) == size && known(set, thing)) {
                    return what == 0 ? size : set;
                }
            }
        }
        throw new AssertionError("all blots cleaned leave nothing unknown");
    }

    private static int unlike(Outcome r, Outcome s) {
        int many = 0;
        for (int b = 0; b < r.row.length; b++) {
            many += r.row[b] == s.row[b] ? 0 : 1;
        }
        return many;
    }

    long sway(int thing, int b) {
        if (!isThing(thing)) {
            return index();
        }
        if (!isBlot(b)) {
            return element();
        }
        return readings.stream().filter(r -> readings.stream().anyMatch(
            s -> r.row[b] != s.row[b] && r.goes[thing] != s.goes[thing] && unlike(r, s) == 1)).count();
    }

    long gains(int b) {
        if (!isBlot(b)) {
            return element();
        }
        int bits = 0;
        for (int h = 0; h < told.heirs.size(); h++) {
            int heir = h;
            int best = readings.stream().mapToInt(r -> worthBy(r, heir)).max().orElse(0);
            Set<Integer> may = new HashSet<>();
            readings.forEach(r -> may.add(r.row[b]));
            for (int shown : may) {
                int then = readings.stream().filter(r -> r.row[b] == shown).mapToInt(r -> worthBy(r, heir)).max().orElse(0);
                bits |= then < best ? 1 << heir : 0;
            }
        }
        return bits;
    }

    long settlement(int heir) {
        if (!isHeir(heir)) {
            return index();
        }
        if (readings.isEmpty()) {
            return -1;
        }
        int left = told.estate;
        for (int t = 0; t < told.things.size(); t++) {
            left += readings.get(0).goes[t] >= 0 ? told.worths.get(t) : 0;
        }
        int[] share = new int[told.heirs.size()];
        for (int h = 0; h < share.length; h++) {
            int who = h;
            share[h] = readings.stream().mapToInt(r -> worthBy(r, who)).min().getAsInt();
            left -= share[h];
        }
        if (left < 0) {
            return -1;
        }
        for (int h = 0; left > 0; h = (h + 1) % share.length) {
            share[h]++;
            left--;
        }
        return share[heir];
    }

    long copy(int hand, int b, int tells) {
        if (!isBlot(b)) {
            return element();
        }
        int kind = told.blots.get(b).kind;
        if (!in(hand, 4) || !in(tells, kind == NUM ? 100 : kind == HEIR ? told.heirs.size() : 2)) {
            return argument();
        }
        if (copies.size() == 12) {
            return -1;
        }
        copies.add(new int[] {hand, b, tells});
        return copies.size();
    }

    long habit(int hand, int x, int y, int p) {
        if (!in(hand, 4) || !in(x, 100) || !in(y, 100) || x == y || p < 1 || p > 15) {
            return argument();
        }
        if (habits.size() == 8) {
            return -1;
        }
        habits.add(new int[] {hand, x, y, p});
        return habits.size();
    }

    long forget() {
        int gone = copies.size() + habits.size();
        copies.clear();
        habits.clear();
        return gone;
    }

    private long oddsBy(Outcome r) {
        long odds = 1;
        for (int[] copy : copies) {
            int there = r.row[copy[1]];
            int[] last = null;
            for (int[] habit : habits) {
                if (told.blots.get(copy[1]).kind == NUM && habit[0] == copy[0] && habit[2] == there) {
                    last = habit;
                }
            }
            int right = 16 - (last == null ? 0 : last[3]);
            odds *= copy[2] == there ? right : last != null && last[1] == copy[2] ? last[3] : 0;
        }
        return odds;
    }

    long odds(int i) {
        return isReading(i) ? oddsBy(readings.get(i)) : index();
    }

    long likely(int thing, int heir, int what) {
        if (!isThing(thing) || !isHeir(heir)) {
            return index();
        }
        if (!in(what, 2)) {
            return argument();
        }
        java.math.BigInteger his = java.math.BigInteger.ZERO;
        java.math.BigInteger sum = java.math.BigInteger.ZERO;
        for (Outcome r : readings) {
            java.math.BigInteger odds = java.math.BigInteger.valueOf(oddsBy(r));
            sum = sum.add(odds);
            his = r.goes[thing] == heir ? his.add(odds) : his;
        }
        if (sum.signum() == 0) {
            return what;
        }
        return (what == 0 ? his : sum).divide(his.gcd(sum)).longValueExact();
    }

    long likeliest() {
        int found = -1;
        for (int i = 0; i < readings.size(); i++) {
            long odds = oddsBy(readings.get(i));
            if (odds > (found < 0 ? 0 : oddsBy(readings.get(found)))) {
                found = i;
            }
        }
        return found;
    }

    private int slipsBy(Outcome r) {
        int many = 0;
        for (int[] copy : copies) {
            many += r.row[copy[1]] == copy[2] ? 0 : 1;
        }
        return many;
    }

    long slips(int what) {
        if (!in(what, 2)) {
            return argument();
        }
        int first = firstLeast(readings.size(), i -> slipsBy(readings.get(i)));
        return what == 1 || first < 0 ? first : slipsBy(readings.get(first));
    }

    private int widthAt(Slot slot, int value) {
        String stands = slot.kind == NUM ? Integer.toString(value)
            : slot.kind == HEIR ? told.heirs.get(value) : value == 0 ? "is" : "not";
        return stands.length();
    }

    private int clean(int place) {
        Slot slot = told.places().get(place);
        return slot.blot < 0 ? slot.value : readings.get(0).row[slot.blot];
    }

    private List<Integer> candidatesAnew(int place) {
        Slot slot = told.places().get(place);
        return told.candidates(slot.kind, widthAt(slot, clean(place)));
    }

    private List<Outcome> anew(int place) {
        List<Outcome> found = new ArrayList<>();
        for (int candidate : candidatesAnew(place)) {
            List<int[]> values = new ArrayList<>();
            int at = 0;
            for (Part part : told.parts) {
                int[] v = new int[part.slots.size()];
                for (int s = 0; s < v.length; s++) {
                    v[s] = at == place ? candidate : clean(at);
                    at++;
                }
                values.add(v);
            }
            Outcome outcome = outcomeOf(values, -1);
            if (outcome.lawful()) {
                found.add(outcome);
            }
        }
        return found;
    }

    long more(int place, int what) {
        if (!in(place, told.places().size())) {
            return index();
        }
        if (!in(what, 3)) {
            return argument();
        }
        if (readings.isEmpty()) {
            return -1;
        }
        return what == 0 ? clean(place) : what == 1 ? candidatesAnew(place).size() : anew(place).size();
    }

    long weak(int thing) {
        if (!isThing(thing)) {
            return index();
        }
        if (readings.isEmpty()) {
            return -1;
        }
        int many = 0;
        for (int place = 0; place < told.places().size(); place++) {
            many += anew(place).stream().map(r -> r.goes[thing]).distinct().count() > 1 ? 1 : 0;
        }
        return many;
    }

    long holding(int b, int candidate) {
        if (!isBlot(b)) {
            return element();
        }
        if (!told.blots.get(b).candidates.contains(candidate)) {
            return -1;
        }
        return readings.stream().filter(r -> r.row[b] == candidate).count();
    }

    long struck(int part) {
        if (!in(part, told.parts.size())) {
            return index();
        }
        return all.stream().filter(r -> outcome(r.row, part).lawful()).count();
    }

    long apart(int i, int j) {
        return isReading(i) && isReading(j) ? unlike(readings.get(i), readings.get(j)) : index();
    }

    long middle(int what) {
        if (!in(what, 2)) {
            return argument();
        }
        List<Outcome> some = readings.subList(0, Math.min(400, readings.size()));
        int[] far = some.stream().mapToInt(r -> some.stream().mapToInt(s -> unlike(r, s)).max().getAsInt()).toArray();
        int found = firstLeast(far.length, i -> far[i]);
        return what == 0 || found < 0 ? found : far[found];
    }

    long when(int thing, int heir, int other, int what) {
        if (!isThing(thing) || !isHeir(heir) || !isHeir(other)) {
            return index();
        }
        if (!in(what, 2)) {
            return argument();
        }
        java.util.stream.IntStream coins =
            readings.stream().filter(r -> r.goes[thing] == heir).mapToInt(r -> r.coin[other]);
        return (what == 0 ? coins.min() : coins.max()).orElse(-1);
    }

    long steps(int i, int thing, int what) {
        if (!isReading(i) || !isThing(thing)) {
            return index();
        }
        if (!in(what, 9)) {
            return argument();
        }
        List<Integer> cleaned = new ArrayList<>();
        List<Outcome> fit = readings;
        while (fit.stream().map(r -> r.goes[thing]).distinct().count() > 1) {
            List<Outcome> now = fit;
            int next = firstLeast(told.blots.size(),
                b -> cleaned.contains(b) ? Integer.MAX_VALUE : mostLeft(now, b));
            cleaned.add(next);
            fit = fit.stream().filter(r -> r.row[next] == readings.get(i).row[next]).toList();
        }
        return what == 0 ? cleaned.size() : what <= cleaned.size() ? cleaned.get(what - 1) : -1;
    }

    long pairs(int thing, int other) {
        if (!isThing(thing) || !isThing(other)) {
            return index();
        }
        if (thing == other) {
            return argument();
        }
        return readings.stream().filter(r -> r.goes[thing] >= 0 && r.goes[thing] == r.goes[other]).count();
    }

    long rows(int estate) {
        if (!in(estate, 1000)) {
            return argument();
        }
        return all.stream().filter(r -> r.law1 && r.law2 && r.sum == estate).count();
    }

    long bare() {
        int bits = 0;
        for (int h = 0; h < told.heirs.size() && !readings.isEmpty(); h++) {
            boolean has = false;
            for (int t = 0; t < told.things.size(); t++) {
                has |= times(t, h) > 0;
            }
            bits |= has ? 0 : 1 << h;
        }
        return bits;
    }

    long image() {
        if (images.size() == 3) {
            return -1;
        }
        images.add(List.of(new ArrayList<>(copies), new ArrayList<>(habits)));
        return images.size();
    }

    long restore() {
        if (images.isEmpty()) {
            return -1;
        }
        List<List<int[]>> last = images.remove(images.size() - 1);
        copies = new ArrayList<>(last.get(0));
        habits = new ArrayList<>(last.get(1));
        return images.size();
    }

    long status(int what) {
        return in(what, 3) ? refused[what] : -1;
    }

    long count(int what) {
        int[] answers = {copies.size(), habits.size(), images.size(), tape.length()};
        return in(what, 4) ? answers[what] : -1;
    }
}
