import java.util.ArrayList;
import java.util.Arrays;
import java.util.HashMap;
import java.util.HashSet;
import java.util.List;
import java.util.Map;
import java.util.Set;
import java.util.function.ToIntFunction;
import java.util.regex.Matcher;
import java.util.regex.Pattern;

/** The document once more, in the shortest words and without regard to cost: ModelTest compares it with LakeBins. */
final class Model {
    /** What makes a text no path and no day. */
    static final class Fault extends RuntimeException {
        private static final long serialVersionUID = 1;
        final int value;

        Fault(int kind, Token token) {
            super("a fault");
            value = kind + 16 * token.place();
        }
    }

    record Token(char kind, String text, int place) {
        int number() {
            return Integer.parseInt(text);
        }
    }

    record Facts(int heap, int near, int has, int far) {
    }

    record Person(String name, String kind, int carries, int brings) {
    }

    record Line(String act, int where, int holds) {
    }

    static final class State implements Cloneable {
        int[] lies;
        int[] holds;
        int[] in;
        int hour;
        int home;
        int redeemed;
        int paid;
        int deposit;
        int hands;
        int binned;
        int dropped;

        State copy() {
            State copy = new State();
            copy.lies = lies.clone();
            copy.holds = holds.clone();
            copy.in = in.clone();
            copy.hour = hour;
            copy.home = home;
            copy.redeemed = redeemed;
            copy.paid = paid;
            copy.deposit = deposit;
            return copy;
        }

        int total() {
            return Arrays.stream(lies).sum();
        }

        int near(int yard) {
            for (int y = yard + 1; y < lies.length; y++) {
                if (holds[y] > in[y]) {
                    return y - yard;
                }
            }
            return 9;
        }

        int toFirst() {
            return near(-1) == 9 ? 9 : near(-1) - 1;
        }
    }

    private static final Pattern TOKEN = Pattern.compile("([a-z]+)|([0-9]+)|([()<=+*;-])|([^\\n ])");
    private static final Set<String> RESERVED = new HashSet<>(List.of(("yards person carries brings bin holds lies winds pence"
        + " deposit drops takes walk empty put off sweep hour plain tidy dog child not and or").split(" ")));
    private static final List<String> KINDS = List.of("plain", "tidy", "dog", "child");

    private final StringBuilder tape = new StringBuilder();
    private List<Token> tokens = new ArrayList<>();
    private int at;

    int yards = 6;
    List<Person> people = new ArrayList<>();
    private Map<Integer, Integer> bins = new HashMap<>();
    private Map<Integer, Integer> heaps = new HashMap<>();
    private List<Integer> winds = new ArrayList<>();
    private int pence = 5;
    private int told;
    private ToIntFunction<Facts> drops;
    private ToIntFunction<Facts> takes;
    private List<Line> today = new ArrayList<>();
    State now;
    private Map<Integer, Integer> found = new HashMap<>();
    private List<State> done = new ArrayList<>();
    private Map<Integer, State> marks = new HashMap<>();
    private Map<Integer, Map<Integer, Integer>> markedFinds = new HashMap<>();

    Model() {
        now = begin();
    }

    private State begin() {
        State state = new State();
        state.lies = new int[yards];
        state.holds = new int[yards];
        state.in = new int[yards];
        for (int y = 0; y < yards; y++) {
            state.lies[y] = heaps.getOrDefault(y, 0);
            state.holds[y] = bins.getOrDefault(y, 0);
        }
        state.deposit = told;
        return state;
    }

    // ---- reading

    int feed(long... words) {
        for (long word : words) {
            for (int i = 7; i >= 0; i--) {
                int sign = (int) (word >> 8 * i & 255);
                if ((sign == 10 || sign >= 32 && sign <= 126) && tape.length() < 1000) {
                    tape.append((char) sign);
                }
            }
        }
        return tape.length();
    }

    private void scan() {
        tokens = new ArrayList<>();
        at = 0;
        Matcher matcher = TOKEN.matcher(tape);
        while (matcher.find()) {
            String text = matcher.group();
            char kind = matcher.group(1) != null ? (text.length() <= 8 ? 'w' : '?')
                : matcher.group(2) != null ? (text.length() <= 4 ? 'n' : '?')
                : matcher.group(3) != null ? 's' : '?';
            tokens.add(new Token(kind, text, matcher.start()));
        }
        tokens.add(new Token('e', "", tape.length()));
        tape.setLength(0);
    }

    private Token peek() {
        return tokens.get(at);
    }

    private boolean is(String text) {
        return peek().kind() != '?' && peek().kind() != 'e' && peek().text().equals(text);
    }

    private Token take(String text) {
        if (!is(text)) {
            throw new Fault(1, peek());
        }
        return tokens.get(at++);
    }

    private int number(int least, int most) {
        Token token = peek();
        if (token.kind() != 'n') {
            throw new Fault(1, token);
        }
        if (token.number() < least || token.number() > most) {
            throw new Fault(4, token);
        }
        at++;
        return token.number();
    }

    private String name() {
        if (peek().kind() != 'w' || RESERVED.contains(peek().text())) {
            throw new Fault(1, peek());
        }
        return tokens.get(at++).text();
    }

    private int personOf(String name) {
        for (int p = 0; p < people.size(); p++) {
            if (people.get(p).name().equals(name)) {
                return p;
            }
        }
        return -1;
    }

    int path() {
        Model next = new Model();
        next.tape.append(tape);
        tape.setLength(0);
        next.scan();
        try {
            Set<String> once = new HashSet<>();
            while (next.peek().kind() != 'e') {
                next.pathLine(once);
            }
        } catch (Fault fault) {
            return fault.value;
        }
        yards = next.yards;
        people = next.people;
        bins = next.bins;
        heaps = next.heaps;
        winds = next.winds;
        pence = next.pence;
        told = next.told;
        drops = next.drops;
        takes = next.takes;
        today = new ArrayList<>();
        found = new HashMap<>();
        done = new ArrayList<>();
        marks = new HashMap<>();
        now = begin();
        return 0;
    }

    private void pathLine(Set<String> once) {
        Token first = peek();
        if (first.kind() != 'w' || !List.of("yards", "person", "bin", "lies", "winds", "pence", "deposit", "drops", "takes")
                .contains(first.text())) {
            throw new Fault(1, first);
        }
        at++;
        boolean many = List.of("person", "bin", "lies").contains(first.text());
        if (!many && !once.add(first.text())) {
            throw new Fault(3, first);
        }
        switch (first.text()) {
            case "yards" -> yards = number(2, 8);
            case "pence" -> pence = number(0, 99);
            case "deposit" -> told = number(0, 9);
            case "drops" -> drops = tests(0);
            case "takes" -> takes = tests(0);
            case "bin" -> {
                int yard = newYard(bins);
                take("holds");
                bins.put(yard, number(1, 30));
            }
            case "lies" -> {
                int yard = newYard(heaps);
                heaps.put(yard, number(0, 99));
            }
            case "winds" -> {
                do {
                    Token token = peek();
                    winds.add(number(0, 2));
                    if (winds.size() > 12) {
                        throw new Fault(5, token);
                    }
                } while (peek().kind() == 'n');
            }
            default -> personLine(first);
        }
        take(";");
    }

    private int newYard(Map<Integer, Integer> has) {
        Token token = peek();
        int yard = number(0, 7);
        if (has.containsKey(yard)) {
            throw new Fault(3, token);
        }
        return yard;
    }

    private void personLine(Token first) {
        if (people.size() == 6) {
            throw new Fault(5, first);
        }
        Token token = peek();
        String name = name();
        if (personOf(name) >= 0) {
            throw new Fault(3, token);
        }
        String kind = peek().text();
        if (peek().kind() != 'w' || !KINDS.contains(kind)) {
            throw new Fault(1, peek());
        }
        at++;
        take("carries");
        int carries = number(0, 9);
        take("brings");
        people.add(new Person(name, kind, carries, number(0, 9)));
    }

    private ToIntFunction<Facts> tests(int deep) {
        ToIntFunction<Facts> left = test(deep);
        while (is("and") || is("or")) {
            boolean and = tokens.get(at++).text().equals("and");
            ToIntFunction<Facts> one = left;
            ToIntFunction<Facts> other = test(deep);
            left = f -> {
                boolean a = one.applyAsInt(f) != 0;
                boolean b = other.applyAsInt(f) != 0;
                return (and ? a && b : a || b) ? 1 : 0;
            };
        }
        return left;
    }

    private ToIntFunction<Facts> test(int deep) {
        ToIntFunction<Facts> one = sum(deep);
        if (is("<")) {
            at++;
            ToIntFunction<Facts> other = sum(deep);
            return f -> one.applyAsInt(f) < other.applyAsInt(f) ? 1 : 0;
        }
        if (is("=")) {
            at++;
            ToIntFunction<Facts> other = sum(deep);
            return f -> one.applyAsInt(f) == other.applyAsInt(f) ? 1 : 0;
        }
        return one;
    }

    private ToIntFunction<Facts> sum(int deep) {
        ToIntFunction<Facts> left = product(deep);
        while (is("+") || is("-")) {
            int way = tokens.get(at++).text().equals("+") ? 1 : -1;
            ToIntFunction<Facts> one = left;
            ToIntFunction<Facts> other = product(deep);
            left = f -> one.applyAsInt(f) + way * other.applyAsInt(f);
        }
        return left;
    }

    private ToIntFunction<Facts> product(int deep) {
        ToIntFunction<Facts> left = part(deep);
        while (is("*")) {
            at++;
            ToIntFunction<Facts> one = left;
            ToIntFunction<Facts> other = part(deep);
            left = f -> one.applyAsInt(f) * other.applyAsInt(f);
        }
        return left;
    }

    private ToIntFunction<Facts> part(int deep) {
        Token token = peek();
        boolean known = token.kind() == 'n' || List.of("heap", "near", "has", "far", "not", "(").contains(token.text());
        if (!known) {
            throw new Fault(1, token);
        }
        if (deep == 5) {
            throw new Fault(5, token);
        }
        at++;
        switch (token.text()) {
            case "heap": return Facts::heap;
            case "near": return Facts::near;
            case "has": return Facts::has;
            case "far": return Facts::far;
            case "not": {
                ToIntFunction<Facts> inner = part(deep + 1);
                return f -> inner.applyAsInt(f) == 0 ? 1 : 0;
            }
            case "(": {
                ToIntFunction<Facts> inner = tests(deep + 1);
                take(")");
                return inner;
            }
            default: return f -> token.number();
        }
    }

    int day() {
        scan();
        List<Line> lines = new ArrayList<>();
        try {
            while (peek().kind() != 'e') {
                lines.add(dayLine(lines.size()));
            }
        } catch (Fault fault) {
            return fault.value;
        }
        today = lines;
        return 0;
    }

    private Line dayLine(int ahead) {
        Token first = peek();
        if (!List.of("walk", "empty", "put", "off", "sweep", "hour").contains(first.text())) {
            throw new Fault(1, first);
        }
        if (ahead == 40) {
            throw new Fault(5, first);
        }
        at++;
        int where = -1;
        int holds = 0;
        if (first.text().equals("walk")) {
            Token token = peek();
            where = personOf(name());
            if (where < 0) {
                throw new Fault(2, token);
            }
        } else if (!first.text().equals("hour")) {
            where = number(0, 7);
        }
        if (first.text().equals("put")) {
            holds = number(1, 30);
        }
        take(";");
        return new Line(first.text(), where, holds);
    }

    // ---- walking

    int takes(State s, int person) {
        Person p = people.get(person);
        if (takes == null) {
            return p.brings();
        }
        return Math.min(9, Math.max(0, takes.applyAsInt(new Facts(s.total(), s.toFirst(), p.brings(), p.carries()))));
    }

    private int drops(Person p, int heap, int near, int has) {
        if (drops != null) {
            return Math.min(has, Math.max(0, drops.applyAsInt(new Facts(heap, near, has, p.carries()))));
        }
        if (p.kind().equals("dog")) {
            return heap > 0 ? has : 0;
        }
        boolean tidy = p.kind().equals("tidy");
        if (tidy ? heap > 9 : heap > 4) {
            return has;
        }
        return has > 0 && near > p.carries() + (tidy ? 2 : 0) ? 1 : 0;
    }

    State walked(State before, int person) {
        State s = before.copy();
        Person p = people.get(person);
        int has = takes(s, person);
        for (int y = 0; y < s.lies.length; y++) {
            if (p.kind().equals("child")) {
                int up = Math.min(s.deposit, s.lies[y]);
                s.lies[y] -= up;
                s.redeemed += up;
            }
            while (has > 0 && s.in[y] < s.holds[y]) {
                s.in[y]++;
                s.binned++;
                has--;
            }
            int falls = drops(p, s.lies[y], s.near(y), has);
            s.dropped += falls;
            has -= falls;
            s.lies[y] = Math.min(999, s.lies[y] + falls);
            if (has > 0) {
                s.hands++;
            }
        }
        s.home += has;
        return s;
    }

    State allWalked(State s) {
        for (int p = 0; p < people.size(); p++) {
            s = walked(s, p);
        }
        return s;
    }

    private int wind(int hour) {
        return winds.isEmpty() ? 0 : winds.get(hour % winds.size());
    }

    private State hourPassed(State before) {
        State s = before.copy();
        int step = wind(s.hour) == 1 ? 1 : wind(s.hour) == 2 ? -1 : 0;
        for (int y = 0; y < s.lies.length && step != 0; y++) {
            int to = y + step;
            if (to >= 0 && to < s.lies.length) {
                s.lies[y] -= before.lies[y] / 2;
                s.lies[to] += before.lies[y] / 2;
            }
        }
        for (int y = 0; y < s.lies.length; y++) {
            s.lies[y] = Math.min(999, s.lies[y]);
        }
        s.hour++;
        return s;
    }

    private State emptied(State before) {
        State s = before.copy();
        for (int y = 0; y < s.lies.length; y++) {
            s.in[y] = 0;
            s.paid += s.holds[y] > 0 ? pence : 0;
        }
        return s;
    }

    // ---- the face

    private boolean isYard(int yard) {
        return yard >= 0 && yard < yards;
    }

    private boolean isPerson(int person) {
        return person >= 0 && person < people.size();
    }

    private static boolean in(int value, int least, int most) {
        return value >= least && value <= most;
    }

    int yard(int yard, int what) {
        if (!isYard(yard) || !in(what, 0, 3)) {
            return -1;
        }
        return new int[] {now.lies[yard], now.holds[yard], now.in[yard], now.near(yard)}[what];
    }

    int person(int person, int what) {
        if (!isPerson(person) || !in(what, 0, 3)) {
            return -1;
        }
        Person p = people.get(person);
        return new int[] {KINDS.indexOf(p.kind()), p.carries(), p.brings(), takes(now, person)}[what];
    }

    int space() {
        return Arrays.stream(now.holds).sum() - Arrays.stream(now.in).sum();
    }

    int heaps(int lies) {
        int bits = 0;
        for (int y = 0; y < yards; y++) {
            bits += now.lies[y] > lies ? 1 << y : 0;
        }
        return bits;
    }

    int lies() {
        return now.total();
    }

    private void keep(State next) {
        done.add(now);
        now = next;
        if (done.size() > 16) {
            done.remove(0);
        }
    }

    int walk(int person) {
        if (!isPerson(person)) {
            return -1;
        }
        keep(walked(now, person));
        return now.home - done.get(done.size() - 1).home;
    }

    private boolean isBin(State s, int yard) {
        return isYard(yard) && s.holds[yard] > 0;
    }

    /** The state by a line of a day, or null. */
    private State by(State before, Line line) {
        State s = before.copy();
        int where = line.where();
        switch (line.act()) {
            case "walk": return isPerson(where) ? walked(before, where) : null;
            case "hour": return hourPassed(before);
            case "sweep":
                if (!isYard(where)) {
                    return null;
                }
                s.lies[where] = 0;
                return s;
            case "put":
                if (!isYard(where) || isBin(s, where) || !in(line.holds(), 1, 30)) {
                    return null;
                }
                s.holds[where] = line.holds();
                return s;
            default:
                if (!isBin(s, where)) {
                    return null;
                }
                s.in[where] = 0;
                s.paid += line.act().equals("empty") ? pence : 0;
                s.holds[where] = line.act().equals("off") ? 0 : s.holds[where];
                return s;
        }
    }

    private boolean hand(String act, int where, int holds) {
        State next = by(now, new Line(act, where, holds));
        if (next != null) {
            keep(next);
        }
        return next != null;
    }

    private State before() {
        return done.get(done.size() - 1);
    }

    int empty(int yard) {
        return hand("empty", yard, 0) ? before().in[yard] : -1;
    }

    boolean put(int yard, int holds) {
        return hand("put", yard, holds);
    }

    int off(int yard) {
        return hand("off", yard, 0) ? before().in[yard] : -1;
    }

    int sweep(int yard) {
        return hand("sweep", yard, 0) ? before().lies[yard] : -1;
    }

    int hour() {
        hand("hour", -1, 0);
        return wind(before().hour);
    }

    boolean undo() {
        if (done.isEmpty()) {
            return false;
        }
        now = done.remove(done.size() - 1);
        return true;
    }

    int judged(int what) {
        int cant = -1;
        int litters = -1;
        State s = begin();
        for (int i = 0; i < today.size(); i++) {
            State next = by(s, today.get(i));
            if (next == null) {
                cant = cant < 0 ? i : cant;
                continue;
            }
            if (today.get(i).act().equals("walk") && next.dropped > 0 && litters < 0) {
                litters = i;
            }
            s = next;
        }
        return what == 0 ? cant : what == 1 ? litters : what == 2 ? s.total() : -2;
    }

    int leaves(int person, int what) {
        if (!isPerson(person) || !in(what, 0, 11)) {
            return -1000;
        }
        State s = walked(now, person);
        switch (what) {
            case 8: return s.total() - now.total();
            case 9: return s.home - now.home;
            case 10: return s.binned;
            case 11: return s.redeemed - now.redeemed;
            default: return what < yards ? s.lies[what] - now.lies[what] : 0;
        }
    }

    int all() {
        return allWalked(now).total();
    }

    int place(int bins, int holds, int what) {
        if (!in(bins, 0, 4) || !in(holds, 1, 30) || !in(what, 0, 1)) {
            return -1;
        }
        int[] best = null;
        for (int set = 0; set < 1 << yards; set++) {
            State s = now.copy();
            boolean free = Integer.bitCount(set) <= bins;
            for (int y = 0; y < yards; y++) {
                if ((set >> y & 1) == 1) {
                    free &= s.holds[y] == 0;
                    s.holds[y] = holds;
                }
            }
            if (free) {
                int[] it = {allWalked(s).total(), Integer.bitCount(set), set};
                best = best == null || Arrays.compare(it, best) < 0 ? it : best;
            }
        }
        return what == 0 ? best[0] : best[2];
    }

    int move() {
        int least = all();
        int best = -1;
        for (int i = 0; i < 64; i++) {
            int a = i / 8;
            int b = i % 8;
            if (isBin(now, a) && isYard(b) && !isBin(now, b)) {
                State s = now.copy();
                s.holds[b] = s.holds[a];
                s.holds[a] = 0;
                s.in[a] = 0;
                int lies = allWalked(s).total();
                if (lies < least) {
                    least = lies;
                    best = i;
                }
            }
        }
        return best;
    }

    int full() {
        State s = now;
        for (int h = 1; h <= 40; h++) {
            s = allWalked(s);
            if (s.toFirst() == 9) {
                return h;
            }
            s = hourPassed(s);
        }
        return -1;
    }

    int without(int person) {
        if (!isPerson(person)) {
            return -1;
        }
        State s = now;
        for (int p = 0; p < people.size(); p++) {
            s = p == person ? s : walked(s, p);
        }
        return s.total();
    }

    int hands(int person) {
        return isPerson(person) ? walked(now, person).hands : -1;
    }

    int grows(int yard, int heap) {
        if (!isYard(yard) || !in(heap, 0, 99)) {
            return -1000;
        }
        State s = now.copy();
        s.lies[yard] = heap;
        return allWalked(s).lies[yard] - heap;
    }

    int order(int what) {
        if (what < -1 || what >= people.size()) {
            return -2;
        }
        int[] best = null;
        for (int[] row : rows(people.size())) {
            State s = now;
            for (int p : row) {
                s = walked(s, p);
            }
            int[] it = new int[row.length + 1];
            it[0] = s.total();
            System.arraycopy(row, 0, it, 1, row.length);
            best = best == null || Arrays.compare(it, best) < 0 ? it : best;
        }
        return best[what + 1];
    }

    private static List<int[]> rows(int n) {
        List<int[]> rows = new ArrayList<>();
        if (n == 0) {
            rows.add(new int[0]);
            return rows;
        }
        for (int[] shorter : rows(n - 1)) {
            for (int i = 0; i < n; i++) {
                int[] row = new int[n];
                System.arraycopy(shorter, 0, row, 0, i);
                row[i] = n - 1;
                System.arraycopy(shorter, i, row, i + 1, n - 1 - i);
                rows.add(row);
            }
        }
        return rows;
    }

    int rounds(int hours, int times, int what) {
        if (!in(hours, 1, 6) || !in(times, 0, 6) || !in(what, 0, 1)) {
            return -1;
        }
        int[] best = null;
        for (int set = 0; set < 1 << hours; set++) {
            if (Integer.bitCount(set) <= times) {
                State s = now;
                for (int h = 0; h < hours; h++) {
                    s = hourPassed(allWalked((set >> h & 1) == 1 ? emptied(s) : s));
                }
                int[] it = {s.total(), Integer.bitCount(set), set};
                best = best == null || Arrays.compare(it, best) < 0 ? it : best;
            }
        }
        return what == 0 ? best[0] : best[2];
    }

    int from(int person, int yard) {
        if (isPerson(person) && isYard(yard)) {
            for (int heap = 0; heap < 100; heap++) {
                if (drops(people.get(person), heap, now.near(yard), takes(now, person)) > 0) {
                    return heap;
                }
            }
        }
        return -1;
    }

    int bare(int yard) {
        if (!isYard(yard) || now.lies[yard] != 0) {
            return -1;
        }
        State s = now;
        for (int h = 1; h <= 40; h++) {
            s = hourPassed(allWalked(s));
            if (s.lies[yard] != 0) {
                return h;
            }
        }
        return -1;
    }

    int deposit(int most) {
        for (int d = 0; d < 10 && in(most, 0, 999); d++) {
            State s = now.copy();
            s.deposit = d;
            if (allWalked(s).total() <= most) {
                return d;
            }
        }
        return -1;
    }

    boolean find(int yard, int more) {
        if (!isYard(yard) || !in(more, -99, 99)) {
            return false;
        }
        found.put(yard, more);
        return true;
    }

    private List<Integer> suspects() {
        List<Integer> list = new ArrayList<>();
        for (int p = 0; p < people.size(); p++) {
            boolean all = true;
            for (Map.Entry<Integer, Integer> entry : found.entrySet()) {
                all &= leaves(p, entry.getKey()) == entry.getValue();
            }
            if (all) {
                list.add(p);
            }
        }
        return list;
    }

    int who() {
        return suspects().stream().mapToInt(p -> 1 << p).sum();
    }

    int look() {
        List<Integer> list = suspects();
        int best = -1;
        int least = list.size();
        for (int y = 0; y < yards; y++) {
            Map<Integer, Integer> groups = new HashMap<>();
            for (int p : list) {
                groups.merge(leaves(p, y), 1, Integer::sum);
            }
            int greatest = groups.values().stream().mapToInt(v -> v).max().orElse(0);
            if (greatest < least) {
                least = greatest;
                best = y;
            }
        }
        return best;
    }

    int mean(int odds) {
        if (!in(odds, 0, 10)) {
            return -1;
        }
        long sum = 0;
        for (int set = 0; set < 1 << people.size(); set++) {
            State s = now;
            long weight = 1;
            for (int p = 0; p < people.size(); p++) {
                boolean comes = (set >> p & 1) == 1;
                s = comes ? walked(s, p) : s;
                weight *= comes ? odds : 10 - odds;
            }
            sum += weight * s.total();
        }
        return (int) (sum * 1000 / Math.round(Math.pow(10, people.size())));
    }

    int weeks(int seed, int hours, int what) {
        if (!in(seed, 0, 9999) || !in(hours, 1, 99) || !in(what, 0, 2)) {
            return -1;
        }
        State s = now;
        long[] g = {seed};
        for (int h = 0; h < hours; h++) {
            for (int i = 0; i < 3 && !people.isEmpty(); i++) {
                s = walked(s, draw(g, people.size()));
            }
            s = hourPassed(draw(g, 5) == 0 ? emptied(s) : s);
        }
        return what == 0 ? s.total() : what == 1 ? s.home - now.home : s.paid - now.paid;
    }

    private static int draw(long[] g, int below) {
        g[0] = g[0] * 1103515245 + 12345 & 0x7FFFFFFF;
        return (int) ((g[0] >> 16) % below);
    }

    boolean mark(int mark, boolean back) {
        if (!in(mark, 0, 3) || back && !marks.containsKey(mark)) {
            return false;
        }
        if (back) {
            now = marks.get(mark);
            found = new HashMap<>(markedFinds.get(mark));
            done = new ArrayList<>();
        } else {
            marks.put(mark, now);
            markedFinds.put(mark, new HashMap<>(found));
        }
        return true;
    }

    int count(int what) {
        int bins = (int) Arrays.stream(now.holds).filter(h -> h > 0).count();
        int[] counts = {yards, people.size(), bins, now.hour, wind(now.hour), now.home, now.redeemed, now.paid,
            told, today.size(), found.size(), done.size(), tape.length()};
        return in(what, 0, 12) ? counts[what] : -1;
    }
}
