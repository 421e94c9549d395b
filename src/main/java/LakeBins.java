import java.util.NoSuchElementException;

/** A path by a lake: yards, bins, people and what they leave there. */
public final class LakeBins {
    public static final int NONE = -1;

    private static final int MOST_YARDS = 8;
    private static final int MOST_PEOPLE = 6;
    private static final int MOST_HOLDS = 30;
    private static final int MOST_TOLD_HEAP = 99;
    private static final int MOST_HEAP = 999;
    private static final int MOST_IN_HAND = 9;
    private static final int MOST_DEPOSIT = 9;
    private static final int FAR_OFF = 9;
    private static final int MARKS = 4;
    private static final int NOT_ASKED = -2;
    private static final int NO_CHANGE_ASKED = -1000;

    private static final int CANT_STAND = 1;
    private static final int NOBODY = 2;
    private static final int TOLD_ALREADY = 3;
    private static final int NOT_AS_TOLD = 4;
    private static final int TOO_MANY = 5;

    private final Tape tape = new Tape();
    private Plan plan = new Plan();
    private Plan sparePlan = new Plan();
    private Day today = new Day();
    private Day spareDay = new Day();
    private final Lake now = new Lake();
    private final Found found = new Found();
    private final History history = new History();
    private final Lake[] markedLakes = new Lake[MARKS];
    private final Found[] markedFinds = new Found[MARKS];
    private int marksLaid;
    private final Trials trials = new Trials(now, plan);
    private final Search search = new Search(now, plan, trials);

    public LakeBins() {
        for (int i = 0; i < MARKS; i++) {
            markedLakes[i] = new Lake();
            markedFinds[i] = new Found();
        }
        begin();
    }

    private void begin() {
        now.begin(plan);
        today.clear();
        found.clear();
        history.clear();
        marksLaid = 0;
        trials.use(plan);
        search.use(plan);
    }

    public int feed(long a, long b, long c) {
        tape.add(a);
        tape.add(b);
        tape.add(c);
        return tape.length;
    }

    public int path() {
        int fault = sparePlan.read(tape);
        tape.clear();
        if (fault == 0) {
            Plan told = sparePlan;
            sparePlan = plan;
            plan = told;
            begin();
        }
        return fault;
    }

    public int day() {
        int fault = spareDay.read(tape, plan);
        tape.clear();
        if (fault == 0) {
            Day told = spareDay;
            spareDay = today;
            today = told;
        }
        return fault;
    }

    public int yard(int yard, int what) {
        if (!now.hasYard(yard)) {
            return NONE;
        }
        switch (what) {
            case 0: return now.lying[yard];
            case 1: return now.holds[yard];
            case 2: return now.inside[yard];
            case 3: return now.nearOf(yard);
            default: return NONE;
        }
    }

    public int person(int person, int what) {
        if (!plan.hasPerson(person)) {
            return NONE;
        }
        switch (what) {
            case 0: return plan.kinds[person];
            case 1: return plan.carries[person];
            case 2: return plan.brings[person];
            case 3: return plan.takenBy(person, now);
            default: return NONE;
        }
    }

    public int space() {
        return now.room();
    }

    public int heaps(int lies) {
        return now.yardsAbove(lies);
    }

    public int lies() {
        return now.total();
    }

    public int walk(int person) {
        if (!plan.hasPerson(person)) {
            return NONE;
        }
        history.push(now);
        return trials.walkOf(person, now);
    }

    public int empty(int yard) {
        if (!now.hasBin(yard)) {
            return NONE;
        }
        history.push(now);
        return now.emptyBin(yard, plan.pence);
    }

    public boolean put(int yard, int holds) {
        if (!now.hasYard(yard) || now.hasBin(yard) || !isWithin(holds, 1, MOST_HOLDS)) {
            return false;
        }
        history.push(now);
        now.setBin(yard, holds);
        return true;
    }

    public int off(int yard) {
        if (!now.hasBin(yard)) {
            return NONE;
        }
        history.push(now);
        return now.takeBin(yard);
    }

    public int sweep(int yard) {
        if (!now.hasYard(yard)) {
            return NONE;
        }
        history.push(now);
        return now.sweepYard(yard);
    }

    public int hour() {
        history.push(now);
        return now.passHour(plan);
    }

    public boolean undo() {
        return history.pop(now);
    }

    public int judged(int what) {
        if (!isWithin(what, 0, 2)) {
            return NOT_ASKED;
        }
        trials.judge(today);
        if (what == 0) {
            return trials.firstImpossible;
        }
        return what == 1 ? trials.firstLittering : trials.liesAtLast;
    }

    public int leaves(int person, int what) {
        if (!plan.hasPerson(person) || !isWithin(what, 0, 11)) {
            return NO_CHANGE_ASKED;
        }
        return trials.changeBy(person, what);
    }

    public int all() {
        return trials.liesAfterAll(NONE);
    }

    public int place(int bins, int holds, int what) {
        if (!isWithin(bins, 0, 4) || !isWithin(holds, 1, MOST_HOLDS) || !isWithin(what, 0, 1)) {
            return NONE;
        }
        search.start();
        search.placeBins(bins, holds);
        return what == 0 ? search.least : search.bestSet;
    }

    public int move() {
        return search.bestMove();
    }

    public int full() {
        return trials.hoursTillFull();
    }

    public int without(int person) {
        return plan.hasPerson(person) ? trials.liesAfterAll(person) : NONE;
    }

    public int hands(int person) {
        return plan.hasPerson(person) ? trials.yardsWithFullHands(person) : NONE;
    }

    public int grows(int yard, int heap) {
        if (!now.hasYard(yard) || !isWithin(heap, 0, MOST_TOLD_HEAP)) {
            return NO_CHANGE_ASKED;
        }
        return trials.growthOf(yard, heap);
    }

    public int order(int what) {
        if (what != NONE && !plan.hasPerson(what)) {
            return NOT_ASKED;
        }
        search.start();
        search.tryOrders(0, 0);
        return what == NONE ? search.least : search.bestRow[what];
    }

    public int rounds(int hours, int times, int what) {
        if (!isWithin(hours, 1, Search.MOST_ROUNDS) || !isWithin(times, 0, Search.MOST_ROUNDS) || !isWithin(what, 0, 1)) {
            return NONE;
        }
        search.start();
        search.tryRounds(0, hours, times, 0);
        return what == 0 ? search.least : search.bestSet;
    }

    public int from(int person, int yard) {
        if (!plan.hasPerson(person) || !now.hasYard(yard)) {
            return NONE;
        }
        return trials.leastHeapThatDraws(person, yard);
    }

    public int bare(int yard) {
        if (!now.hasYard(yard) || now.lying[yard] > 0) {
            return NONE;
        }
        return trials.hoursTillLittered(yard);
    }

    public int deposit(int most) {
        return isWithin(most, 0, MOST_HEAP) ? trials.leastDeposit(most) : NONE;
    }

    public boolean find(int yard, int more) {
        if (!now.hasYard(yard) || !isWithin(more, -99, 99)) {
            return false;
        }
        found.set(yard, more);
        return true;
    }

    public int who() {
        return search.suspects(found);
    }

    public int look() {
        return search.yardThatParts(search.suspects(found));
    }

    public int mean(int odds) {
        return isWithin(odds, 0, 10) ? search.meanThousandths(odds) : NONE;
    }

    public int rests(int gets, int loses, int what) throws NoSuchElementException {
        if (!isWithin(gets, 0, 9) || !isWithin(loses, 0, 9) || what < NONE) {
            throw new NoSuchElementException();
        }
        int resting = 0;
        for (int choices = 0; choices < 4; choices++) {
            if (isAtRest(gets, loses, choices / 2, choices % 2)) {
                if (resting == what) {
                    return choices;
                }
                resting++;
            }
        }
        if (what != NONE) {
            throw new NoSuchElementException();
        }
        return resting;
    }

    private static boolean isAtRest(int gets, int loses, int one, int other) {
        return gain(gets, loses, one, other) >= gain(gets, loses, 1 - one, other)
            && gain(gets, loses, other, one) >= gain(gets, loses, 1 - other, one);
    }

    private static int gain(int gets, int loses, int own, int other) {
        if (own == 0) {
            return other == 0 ? 0 : gets;
        }
        return gets - (other == 0 ? loses : loses / 2);
    }

    public int weeks(int seed, int hours, int what) {
        if (!isWithin(seed, 0, 9999) || !isWithin(hours, 1, 99) || !isWithin(what, 0, 2)) {
            return NONE;
        }
        Lake later = trials.afterWeeks(seed, hours);
        if (what == 0) {
            return later.total();
        }
        return what == 1 ? later.home - now.home : later.paid - now.paid;
    }

    public boolean mark(int mark, boolean back) {
        if (!isWithin(mark, 0, MARKS - 1)) {
            return false;
        }
        int bit = 1 << mark;
        if (!back) {
            markedLakes[mark].become(now);
            markedFinds[mark].become(found);
            marksLaid |= bit;
            return true;
        }
        if ((marksLaid & bit) == 0) {
            return false;
        }
        now.become(markedLakes[mark]);
        found.become(markedFinds[mark]);
        history.clear();
        return true;
    }

    public int count(int what) {
        switch (what) {
            case 0: return plan.yards;
            case 1: return plan.people;
            case 2: return now.binCount();
            case 3: return now.hours;
            case 4: return plan.windOf(now.hours);
            case 5: return now.home;
            case 6: return now.redeemed;
            case 7: return now.paid;
            case 8: return plan.deposit;
            case 9: return today.lines;
            case 10: return Integer.bitCount(found.yards);
            case 11: return history.size;
            case 12: return tape.length;
            default: return NONE;
        }
    }

    private static boolean isWithin(int number, int least, int most) {
        return number >= least && number <= most;
    }

    /** The words with a meaning of their own; of every other word comes NAME. */
    private enum Word {
        NO_WORD("", 0, false), NAME("", 0, true),
        YARDS("yards", 1, false), WINDS("winds", 2, false), PENCE("pence", 4, false),
        DEPOSIT("deposit", 8, false), DROPS("drops", 16, false), TAKES("takes", 32, false),
        PERSON("person", 0, false), CARRIES("carries", 0, false), BRINGS("brings", 0, false),
        BIN("bin", 0, false), HOLDS("holds", 0, false), LIES("lies", 0, false),
        WALK("walk", Day.WALK, false), EMPTY("empty", Day.EMPTY, false), PUT("put", Day.PUT, false),
        OFF("off", Day.OFF, false), SWEEP("sweep", Day.SWEEP, false), HOUR("hour", Day.HOUR, false),
        PLAIN("plain", Plan.PLAIN, false), TIDY("tidy", Plan.TIDY, false),
        DOG("dog", Plan.DOG, false), CHILD("child", Plan.CHILD, false),
        NOT("not", Law.NOT, false), AND("and", Law.AND, false), OR("or", Law.OR, false),
        HEAP("heap", Law.HEAP, true), NEAR("near", Law.NEAR, true),
        HAS("has", Law.HAS, true), FAR("far", Law.FAR, true);

        private static final Word[] WORDS = values();

        final long key;
        /** What it stands for among its like: a bit of what is told once, an act, a kind, a step of a law. */
        final int value;
        final boolean mayName;

        Word(String text, int value, boolean mayName) {
            this.key = keyOf(text);
            this.value = value;
            this.mayName = mayName;
        }

        private static long keyOf(String text) {
            long key = 0;
            for (int i = 0; i < text.length(); i++) {
                key = keyWith(key, text.charAt(i));
            }
            return key;
        }

        static long keyWith(long key, char letter) {
            return key * 32 + (letter - 'a' + 1);
        }

        static Word of(long key) {
            for (Word word : WORDS) {
                if (word.key == key) {
                    return word;
                }
            }
            return NAME;
        }
    }

    /** The signs fed in, read token by token; the first token that is wrong makes the fault. */
    private static final class Tape {
        static final int MOST_SIGNS = 1000;
        static final int MOST_LETTERS = 8;
        static final int MOST_DIGITS = 4;
        static final int NOTHING = -1;

        final char[] signs = new char[MOST_SIGNS];
        int length;
        int fault;
        private int next;
        private int place;
        private boolean atEnd;
        Word word = Word.NO_WORD;
        long key;
        int number;
        int sign;

        void clear() {
            length = 0;
        }

        void add(long eight) {
            for (int shift = 56; shift >= 0; shift -= 8) {
                int sign = (int) (eight >>> shift) & 255;
                if ((sign == 10 || isWithin(sign, 32, 126)) && length < MOST_SIGNS) {
                    signs[length] = (char) sign;
                    length++;
                }
            }
        }

        void rewind() {
            next = 0;
            fault = 0;
            advance();
        }

        void advance() {
            word = Word.NO_WORD;
            number = NOTHING;
            sign = NOTHING;
            for (; next < length && (signs[next] == 10 || signs[next] == 32); next++) {
                // blanks say nothing
            }
            place = next;
            atEnd = next >= length;
            if (atEnd) {
                return;
            }
            if (isLetter(signs[next])) {
                readWord();
            } else if (isDigit(signs[next])) {
                readNumber();
            } else {
                sign = signs[next];
                next++;
            }
        }

        private void readWord() {
            key = 0;
            for (; next < length && isLetter(signs[next]); next++) {
                key = Word.keyWith(key, signs[next]);
            }
            if (next - place <= MOST_LETTERS) {
                word = Word.of(key);
            }
        }

        private void readNumber() {
            int read = 0;
            for (; next < length && isDigit(signs[next]); next++) {
                read = read * 10 + (signs[next] - '0');
            }
            if (next - place <= MOST_DIGITS) {
                number = read;
            }
        }

        private static boolean isLetter(char sign) {
            return sign >= 'a' && sign <= 'z';
        }

        private static boolean isDigit(char sign) {
            return sign >= '0' && sign <= '9';
        }

        boolean isAtEnd() {
            return atEnd;
        }

        boolean fail(int kind) {
            fault = kind + 16 * place;
            return false;
        }

        boolean pass(Word due) {
            if (word != due) {
                return fail(CANT_STAND);
            }
            advance();
            return true;
        }

        boolean pass(char due) {
            if (sign != due) {
                return fail(CANT_STAND);
            }
            advance();
            return true;
        }

        /** The token stays the current one, as it may yet be wrong in another way. */
        boolean isNumberWithin(int least, int most) {
            if (number == NOTHING) {
                return fail(CANT_STAND);
            }
            return isWithin(number, least, most) || fail(NOT_AS_TOLD);
        }

        boolean isNameToken() {
            return word.mayName || fail(CANT_STAND);
        }
    }

    /** An E, kept as steps over a row of values; a step of 0 or more is a number. */
    private static final class Law {
        static final int HEAP = -1;
        static final int NEAR = -2;
        static final int HAS = -3;
        static final int FAR = -4;
        static final int NOT = -5;
        static final int AND = -6;
        static final int OR = -7;
        static final int LESS = -8;
        static final int SAME = -9;
        static final int PLUS = -10;
        static final int MINUS = -11;
        static final int TIMES = -12;
        static final int MOST_WITHIN = 5;

        private final int[] steps = new int[Tape.MOST_SIGNS];
        private int size;
        /** A part waits for at most four values of each ( ) round it, and of its own E. */
        private final int[] values = new int[32];
        private final int[] facts = new int[4];

        void clear() {
            size = 0;
        }

        boolean isTold() {
            return size > 0;
        }

        private void add(int step) {
            if (size < steps.length) {
                steps[size] = step;
                size++;
            }
        }

        /** Reads an E that lies within so many of not and ( ). */
        private boolean readTests(Tape tape, int within) {
            if (!readTest(tape, within)) {
                return false;
            }
            for (int i = 0; i < Tape.MOST_SIGNS && (tape.word == Word.AND || tape.word == Word.OR); i++) {
                int step = tape.word.value;
                tape.advance();
                if (!readTest(tape, within)) {
                    return false;
                }
                add(step);
            }
            return true;
        }

        private boolean readTest(Tape tape, int within) {
            if (!readSum(tape, within)) {
                return false;
            }
            if (tape.sign != '<' && tape.sign != '=') {
                return true;
            }
            int step = tape.sign == '<' ? LESS : SAME;
            tape.advance();
            if (!readSum(tape, within)) {
                return false;
            }
            add(step);
            return true;
        }

        private boolean readSum(Tape tape, int within) {
            if (!readProduct(tape, within)) {
                return false;
            }
            for (int i = 0; i < Tape.MOST_SIGNS && (tape.sign == '+' || tape.sign == '-'); i++) {
                int step = tape.sign == '+' ? PLUS : MINUS;
                tape.advance();
                if (!readProduct(tape, within)) {
                    return false;
                }
                add(step);
            }
            return true;
        }

        private boolean readProduct(Tape tape, int within) {
            if (!readPart(tape, within)) {
                return false;
            }
            for (int i = 0; i < Tape.MOST_SIGNS && tape.sign == '*'; i++) {
                tape.advance();
                if (!readPart(tape, within)) {
                    return false;
                }
                add(TIMES);
            }
            return true;
        }

        private boolean readPart(Tape tape, int within) {
            boolean leaf = tape.number != Tape.NOTHING || isFact(tape.word);
            if (!leaf && tape.word != Word.NOT && tape.sign != '(') {
                return tape.fail(CANT_STAND);
            }
            if (within >= MOST_WITHIN) {
                return tape.fail(TOO_MANY);
            }
            if (leaf) {
                add(tape.number != Tape.NOTHING ? tape.number : tape.word.value);
                tape.advance();
                return true;
            }
            if (tape.sign == '(') {
                tape.advance();
                return readTests(tape, within + 1) && tape.pass(')');
            }
            tape.advance();
            if (!readPart(tape, within + 1)) {
                return false;
            }
            add(NOT);
            return true;
        }

        private static boolean isFact(Word word) {
            return word == Word.HEAP || word == Word.NEAR || word == Word.HAS || word == Word.FAR;
        }

        int valueOf(int heap, int near, int has, int far) {
            facts[-1 - HEAP] = heap;
            facts[-1 - NEAR] = near;
            facts[-1 - HAS] = has;
            facts[-1 - FAR] = far;
            int top = 0;
            for (int i = 0; i < size; i++) {
                int step = steps[i];
                if (step > NOT) {
                    if (top < values.length) {
                        values[top] = step >= 0 ? step : facts[-1 - step];
                        top++;
                    }
                } else if (step == NOT) {
                    if (top > 0) {
                        values[top - 1] = values[top - 1] == 0 ? 1 : 0;
                    }
                } else if (top > 1) {
                    top--;
                    values[top - 1] = joined(step, values[top - 1], values[top]);
                }
            }
            return values[0];
        }

        private static int joined(int step, int left, int right) {
            switch (step) {
                case AND: return left != 0 && right != 0 ? 1 : 0;
                case OR: return left != 0 || right != 0 ? 1 : 0;
                case LESS: return left < right ? 1 : 0;
                case SAME: return left == right ? 1 : 0;
                case PLUS: return left + right;
                case MINUS: return left - right;
                default: return left * right;
            }
        }
    }

    /** A PATH as it was told. */
    private static final class Plan {
        static final int PLAIN = 0;
        static final int TIDY = 1;
        static final int DOG = 2;
        static final int CHILD = 3;
        static final int MOST_WINDS = 12;
        static final int LEAST_YARDS = 2;
        static final int USUAL_YARDS = 6;
        static final int USUAL_PENCE = 5;

        int yards = USUAL_YARDS;
        int people;
        private final long[] names = new long[MOST_PEOPLE];
        final int[] kinds = new int[MOST_PEOPLE];
        final int[] carries = new int[MOST_PEOPLE];
        final int[] brings = new int[MOST_PEOPLE];
        final int[] holds = new int[MOST_YARDS];
        final int[] lying = new int[MOST_YARDS];
        private final int[] winds = new int[MOST_WINDS];
        private int windCount;
        int pence = USUAL_PENCE;
        int deposit;
        private final Law drops = new Law();
        private final Law takes = new Law();
        private int toldOnce;
        private int heapsTold;

        private void clear() {
            yards = USUAL_YARDS;
            people = 0;
            windCount = 0;
            pence = USUAL_PENCE;
            deposit = 0;
            drops.clear();
            takes.clear();
            toldOnce = 0;
            heapsTold = 0;
            for (int yard = 0; yard < MOST_YARDS; yard++) {
                holds[yard] = 0;
                lying[yard] = 0;
            }
        }

        /** 0, or the fault. */
        int read(Tape tape) {
            clear();
            tape.rewind();
            for (int i = 0; i <= Tape.MOST_SIGNS && !tape.isAtEnd(); i++) {
                if (!readLine(tape)) {
                    return tape.fault;
                }
            }
            return 0;
        }

        private boolean readLine(Tape tape) {
            Word first = tape.word;
            if (isToldOnce(first)) {
                if ((toldOnce & first.value) != 0) {
                    return tape.fail(TOLD_ALREADY);
                }
                toldOnce |= first.value;
            } else if (first == Word.PERSON) {
                if (people >= MOST_PEOPLE) {
                    return tape.fail(TOO_MANY);
                }
            } else if (first != Word.BIN && first != Word.LIES) {
                return tape.fail(CANT_STAND);
            }
            tape.advance();
            return readBehind(first, tape) && tape.pass(';');
        }

        private static boolean isToldOnce(Word word) {
            return word == Word.YARDS || word == Word.WINDS || word == Word.PENCE
                || word == Word.DEPOSIT || word == Word.DROPS || word == Word.TAKES;
        }

        private boolean readBehind(Word first, Tape tape) {
            switch (first) {
                case YARDS: return readYards(tape);
                case PERSON: return readPerson(tape);
                case BIN: return readBin(tape);
                case LIES: return readHeap(tape);
                case WINDS: return readWinds(tape);
                case PENCE: return readPence(tape);
                case DEPOSIT: return readDeposit(tape);
                case DROPS: return drops.readTests(tape, 0);
                default: return takes.readTests(tape, 0);
            }
        }

        private boolean readYards(Tape tape) {
            if (!tape.isNumberWithin(LEAST_YARDS, MOST_YARDS)) {
                return false;
            }
            yards = tape.number;
            tape.advance();
            return true;
        }

        private boolean readPence(Tape tape) {
            if (!tape.isNumberWithin(0, 99)) {
                return false;
            }
            pence = tape.number;
            tape.advance();
            return true;
        }

        private boolean readDeposit(Tape tape) {
            if (!tape.isNumberWithin(0, MOST_DEPOSIT)) {
                return false;
            }
            deposit = tape.number;
            tape.advance();
            return true;
        }

        private boolean readPerson(Tape tape) {
            if (!tape.isNameToken()) {
                return false;
            }
            if (numberOf(tape.key) != NONE) {
                return tape.fail(TOLD_ALREADY);
            }
            names[people] = tape.key;
            tape.advance();
            if (!isKind(tape.word)) {
                return tape.fail(CANT_STAND);
            }
            kinds[people] = tape.word.value;
            tape.advance();
            if (!tape.pass(Word.CARRIES) || !tape.isNumberWithin(0, 9)) {
                return false;
            }
            carries[people] = tape.number;
            tape.advance();
            if (!tape.pass(Word.BRINGS) || !tape.isNumberWithin(0, MOST_IN_HAND)) {
                return false;
            }
            brings[people] = tape.number;
            tape.advance();
            people++;
            return true;
        }

        private static boolean isKind(Word word) {
            return word == Word.PLAIN || word == Word.TIDY || word == Word.DOG || word == Word.CHILD;
        }

        private boolean readBin(Tape tape) {
            if (!tape.isNumberWithin(0, MOST_YARDS - 1)) {
                return false;
            }
            int yard = tape.number;
            if (holds[yard] > 0) {
                return tape.fail(TOLD_ALREADY);
            }
            tape.advance();
            if (!tape.pass(Word.HOLDS) || !tape.isNumberWithin(1, MOST_HOLDS)) {
                return false;
            }
            holds[yard] = tape.number;
            tape.advance();
            return true;
        }

        private boolean readHeap(Tape tape) {
            if (!tape.isNumberWithin(0, MOST_YARDS - 1)) {
                return false;
            }
            int yard = tape.number;
            if ((heapsTold & 1 << yard) != 0) {
                return tape.fail(TOLD_ALREADY);
            }
            heapsTold |= 1 << yard;
            tape.advance();
            if (!tape.isNumberWithin(0, MOST_TOLD_HEAP)) {
                return false;
            }
            lying[yard] = tape.number;
            tape.advance();
            return true;
        }

        private boolean readWinds(Tape tape) {
            for (int i = 0; i <= MOST_WINDS && (i == 0 || tape.number != Tape.NOTHING); i++) {
                if (!tape.isNumberWithin(0, 2)) {
                    return false;
                }
                if (windCount >= MOST_WINDS) {
                    return tape.fail(TOO_MANY);
                }
                winds[windCount] = tape.number;
                windCount++;
                tape.advance();
            }
            return true;
        }

        boolean hasPerson(int person) {
            return person >= 0 && person < people;
        }

        int numberOf(long name) {
            for (int person = 0; person < people; person++) {
                if (names[person] == name) {
                    return person;
                }
            }
            return NONE;
        }

        int windOf(int hour) {
            return windCount > 0 && hour >= 0 ? winds[hour % windCount] : 0;
        }

        int takenBy(int person, Lake lake) {
            if (!takes.isTold()) {
                return brings[person];
            }
            int taken = takes.valueOf(lake.total(), lake.yardsToOpen(0), brings[person], carries[person]);
            return Math.max(0, Math.min(MOST_IN_HAND, taken));
        }

        int droppedBy(int person, int heap, int near, int hand) {
            if (hand <= 0) {
                return 0;
            }
            if (!drops.isTold()) {
                return droppedByHabit(person, heap, near, hand);
            }
            int dropped = drops.valueOf(heap, near, hand, carries[person]);
            return Math.max(0, Math.min(hand, dropped));
        }

        private int droppedByHabit(int person, int heap, int near, int hand) {
            if (kinds[person] == DOG) {
                return heap > 0 ? hand : 0;
            }
            boolean tidy = kinds[person] == TIDY;
            if (heap > (tidy ? 9 : 4)) {
                return hand;
            }
            return near > carries[person] + (tidy ? 2 : 0) ? 1 : 0;
        }
    }

    /** A DAY as it was told. */
    private static final class Day {
        static final int WALK = 0;
        static final int EMPTY = 1;
        static final int PUT = 2;
        static final int OFF = 3;
        static final int SWEEP = 4;
        static final int HOUR = 5;
        static final int MOST_LINES = 40;

        final int[] acts = new int[MOST_LINES];
        /** Of each line who walks, or the yard. */
        final int[] where = new int[MOST_LINES];
        final int[] holds = new int[MOST_LINES];
        int lines;

        void clear() {
            lines = 0;
        }

        /** 0, or the fault. */
        int read(Tape tape, Plan plan) {
            lines = 0;
            tape.rewind();
            for (int i = 0; i <= Tape.MOST_SIGNS && !tape.isAtEnd(); i++) {
                if (!readLine(tape, plan)) {
                    return tape.fault;
                }
            }
            return 0;
        }

        private boolean readLine(Tape tape, Plan plan) {
            if (!isAct(tape.word)) {
                return tape.fail(CANT_STAND);
            }
            if (lines >= MOST_LINES) {
                return tape.fail(TOO_MANY);
            }
            acts[lines] = tape.word.value;
            where[lines] = NONE;
            holds[lines] = 0;
            tape.advance();
            if (!readBehind(acts[lines], tape, plan) || !tape.pass(';')) {
                return false;
            }
            lines++;
            return true;
        }

        private static boolean isAct(Word word) {
            return word == Word.WALK || word == Word.EMPTY || word == Word.PUT
                || word == Word.OFF || word == Word.SWEEP || word == Word.HOUR;
        }

        private boolean readBehind(int act, Tape tape, Plan plan) {
            if (act == HOUR) {
                return true;
            }
            if (act == WALK) {
                return readWalker(tape, plan);
            }
            if (!tape.isNumberWithin(0, MOST_YARDS - 1)) {
                return false;
            }
            where[lines] = tape.number;
            tape.advance();
            return act != PUT || readHolds(tape);
        }

        private boolean readWalker(Tape tape, Plan plan) {
            if (!tape.isNameToken()) {
                return false;
            }
            int person = plan.numberOf(tape.key);
            if (person == NONE) {
                return tape.fail(NOBODY);
            }
            where[lines] = person;
            tape.advance();
            return true;
        }

        private boolean readHolds(Tape tape) {
            if (!tape.isNumberWithin(1, MOST_HOLDS)) {
                return false;
            }
            holds[lines] = tape.number;
            tape.advance();
            return true;
        }
    }

    /** What lies, the bins, the hour and what was counted up to it. */
    private static final class Lake {
        int yards;
        final int[] lying = new int[MOST_YARDS];
        final int[] holds = new int[MOST_YARDS];
        final int[] inside = new int[MOST_YARDS];
        int hours;
        int home;
        int redeemed;
        int paid;
        /** It is the told one, but where another is tried. */
        int deposit;

        void begin(Plan plan) {
            yards = plan.yards;
            hours = 0;
            home = 0;
            redeemed = 0;
            paid = 0;
            deposit = plan.deposit;
            for (int yard = 0; yard < MOST_YARDS; yard++) {
                lying[yard] = yard < yards ? plan.lying[yard] : 0;
                holds[yard] = yard < yards ? plan.holds[yard] : 0;
                inside[yard] = 0;
            }
        }

        void become(Lake other) {
            yards = other.yards;
            hours = other.hours;
            home = other.home;
            redeemed = other.redeemed;
            paid = other.paid;
            deposit = other.deposit;
            for (int yard = 0; yard < MOST_YARDS; yard++) {
                lying[yard] = other.lying[yard];
                holds[yard] = other.holds[yard];
                inside[yard] = other.inside[yard];
            }
        }

        boolean hasYard(int yard) {
            return yard >= 0 && yard < yards;
        }

        boolean hasBin(int yard) {
            return hasYard(yard) && holds[yard] > 0;
        }

        int binCount() {
            return Integer.bitCount(binBits());
        }

        int binBits() {
            int bits = 0;
            for (int yard = 0; yard < yards; yard++) {
                bits |= holds[yard] > 0 ? 1 << yard : 0;
            }
            return bits;
        }

        int total() {
            int total = 0;
            for (int yard = 0; yard < yards; yard++) {
                total += lying[yard];
            }
            return total;
        }

        int room() {
            int room = 0;
            for (int yard = 0; yard < yards; yard++) {
                room += holds[yard] - inside[yard];
            }
            return room;
        }

        int yardsAbove(int heap) {
            int bits = 0;
            for (int yard = 0; yard < yards; yard++) {
                bits |= lying[yard] > heap ? 1 << yard : 0;
            }
            return bits;
        }

        /** How far on from a yard, itself counted, the first bin is that is not full. */
        int yardsToOpen(int first) {
            for (int yard = Math.max(0, first); yard < yards; yard++) {
                if (inside[yard] < holds[yard]) {
                    return yard - first;
                }
            }
            return FAR_OFF;
        }

        int nearOf(int yard) {
            int beyond = yardsToOpen(yard + 1);
            return beyond == FAR_OFF ? FAR_OFF : beyond + 1;
        }

        int emptyBin(int yard, int pence) {
            int was = inside[yard];
            inside[yard] = 0;
            paid += pence;
            return was;
        }

        void emptyBins(int pence) {
            for (int yard = 0; yard < yards; yard++) {
                if (holds[yard] > 0) {
                    emptyBin(yard, pence);
                }
            }
        }

        void setBin(int yard, int most) {
            holds[yard] = most;
            inside[yard] = 0;
        }

        int takeBin(int yard) {
            int was = inside[yard];
            setBin(yard, 0);
            return was;
        }

        int sweepYard(int yard) {
            int was = lying[yard];
            lying[yard] = 0;
            return was;
        }

        void drop(int yard, int things) {
            lying[yard] = Math.min(MOST_HEAP, lying[yard] + things);
        }

        int passHour(Plan plan) {
            int wind = plan.windOf(hours);
            if (wind == 1) {
                blowOn();
            } else if (wind == 2) {
                blowBack();
            }
            hours++;
            return wind;
        }

        private void blowOn() {
            int coming = 0;
            for (int yard = 0; yard < yards; yard++) {
                int going = yard < yards - 1 ? lying[yard] / 2 : 0;
                lying[yard] -= going;
                drop(yard, coming);
                coming = going;
            }
        }

        private void blowBack() {
            int coming = 0;
            for (int yard = yards - 1; yard >= 0; yard--) {
                int going = yard > 0 ? lying[yard] / 2 : 0;
                lying[yard] -= going;
                drop(yard, coming);
                coming = going;
            }
        }
    }

    /** One WALK and what came of it. */
    private static final class Walk {
        int home;
        int binned;
        int redeemed;
        int dropped;
        int yardsInHand;

        void go(Plan plan, Lake lake, int person) {
            binned = 0;
            redeemed = 0;
            dropped = 0;
            yardsInHand = 0;
            int hand = plan.takenBy(person, lake);
            for (int yard = 0; yard < lake.yards; yard++) {
                if (plan.kinds[person] == Plan.CHILD) {
                    pickUp(lake, yard);
                }
                hand -= putIn(lake, yard, hand);
                int falls = plan.droppedBy(person, lake.lying[yard], lake.nearOf(yard), hand);
                lake.drop(yard, falls);
                dropped += falls;
                hand -= falls;
                yardsInHand += hand > 0 ? 1 : 0;
            }
            home = hand;
            lake.home += home;
            lake.redeemed += redeemed;
        }

        private void pickUp(Lake lake, int yard) {
            int up = Math.min(lake.deposit, lake.lying[yard]);
            lake.lying[yard] -= up;
            redeemed += up;
        }

        private int putIn(Lake lake, int yard, int hand) {
            int in = Math.min(hand, lake.holds[yard] - lake.inside[yard]);
            lake.inside[yard] += in;
            binned += in;
            return in;
        }
    }

    /** What would be, told by playing it on a copy. */
    private static final class Trials {
        static final int MOST_HOURS = 40;
        static final int WALKS_AN_HOUR = 3;
        static final int EMPTIED_ONCE_IN = 5;

        private final Lake now;
        private final Lake trial = new Lake();
        private final Walk walk = new Walk();
        private Plan plan;
        private long drawn;
        int firstImpossible;
        int firstLittering;
        int liesAtLast;

        Trials(Lake now, Plan plan) {
            this.now = now;
            this.plan = plan;
        }

        void use(Plan told) {
            plan = told;
        }

        /** What went home. */
        int walkOf(int person, Lake lake) {
            walk.go(plan, lake, person);
            return walk.home;
        }

        /** All but one, or all, if that one is NONE. */
        void allWalkBut(int absent, Lake lake) {
            for (int person = 0; person < plan.people; person++) {
                if (person != absent) {
                    walk.go(plan, lake, person);
                }
            }
        }

        int liesAfterAll(int absent) {
            trial.become(now);
            allWalkBut(absent, trial);
            return trial.total();
        }

        int changeBy(int person, int what) {
            trial.become(now);
            walkOf(person, trial);
            switch (what) {
                case 8: return trial.total() - now.total();
                case 9: return walk.home;
                case 10: return walk.binned;
                case 11: return walk.redeemed;
                default: return now.hasYard(what) ? trial.lying[what] - now.lying[what] : 0;
            }
        }

        int yardsWithFullHands(int person) {
            trial.become(now);
            walkOf(person, trial);
            return walk.yardsInHand;
        }

        int growthOf(int yard, int heap) {
            trial.become(now);
            trial.lying[yard] = heap;
            allWalkBut(NONE, trial);
            return trial.lying[yard] - heap;
        }

        int leastHeapThatDraws(int person, int yard) {
            int hand = plan.takenBy(person, now);
            int near = now.nearOf(yard);
            for (int heap = 0; heap <= MOST_TOLD_HEAP; heap++) {
                if (plan.droppedBy(person, heap, near, hand) > 0) {
                    return heap;
                }
            }
            return NONE;
        }

        int hoursTillFull() {
            trial.become(now);
            for (int hour = 1; hour <= MOST_HOURS; hour++) {
                allWalkBut(NONE, trial);
                if (trial.yardsToOpen(0) == FAR_OFF) {
                    return hour;
                }
                trial.passHour(plan);
            }
            return NONE;
        }

        int hoursTillLittered(int yard) {
            trial.become(now);
            for (int hour = 1; hour <= MOST_HOURS; hour++) {
                allWalkBut(NONE, trial);
                trial.passHour(plan);
                if (trial.lying[yard] > 0) {
                    return hour;
                }
            }
            return NONE;
        }

        int leastDeposit(int most) {
            for (int deposit = 0; deposit <= MOST_DEPOSIT; deposit++) {
                trial.become(now);
                trial.deposit = deposit;
                allWalkBut(NONE, trial);
                if (trial.total() <= most) {
                    return deposit;
                }
            }
            return NONE;
        }

        void judge(Day day) {
            firstImpossible = NONE;
            firstLittering = NONE;
            trial.begin(plan);
            for (int line = 0; line < day.lines; line++) {
                if (!canBe(day, line)) {
                    firstImpossible = firstImpossible == NONE ? line : firstImpossible;
                    continue;
                }
                act(day, line);
                boolean littered = day.acts[line] == Day.WALK && walk.dropped > 0;
                if (littered && firstLittering == NONE) {
                    firstLittering = line;
                }
            }
            liesAtLast = trial.total();
        }

        private boolean canBe(Day day, int line) {
            int yard = day.where[line];
            switch (day.acts[line]) {
                case Day.EMPTY:
                case Day.OFF: return trial.hasBin(yard);
                case Day.PUT: return trial.hasYard(yard) && !trial.hasBin(yard);
                case Day.SWEEP: return trial.hasYard(yard);
                default: return true;
            }
        }

        private void act(Day day, int line) {
            int where = day.where[line];
            switch (day.acts[line]) {
                case Day.WALK: walkOf(where, trial); break;
                case Day.EMPTY: trial.emptyBin(where, plan.pence); break;
                case Day.PUT: trial.setBin(where, day.holds[line]); break;
                case Day.OFF: trial.takeBin(where); break;
                case Day.SWEEP: trial.sweepYard(where); break;
                default: trial.passHour(plan); break;
            }
        }

        Lake afterWeeks(int seed, int hours) {
            trial.become(now);
            drawn = seed;
            for (int hour = 0; hour < hours; hour++) {
                if (plan.people > 0) {
                    for (int i = 0; i < WALKS_AN_HOUR; i++) {
                        walkOf(draw(plan.people), trial);
                    }
                }
                if (draw(EMPTIED_ONCE_IN) == 0) {
                    trial.emptyBins(plan.pence);
                }
                trial.passHour(plan);
            }
            return trial;
        }

        private int draw(int below) {
            drawn = (drawn * 1103515245L + 12345L) % 2147483648L;
            return below > 0 ? (int) (drawn / 65536L % below) : 0;
        }
    }

    /** The best of many trials, and who or which yard they tell apart. */
    private static final class Search {
        static final int MOST_ROUNDS = 6;
        /** Six people or six rounds, and the start. */
        static final int DEPTHS = 7;
        static final int ABOVE_ALL = MOST_YARDS * MOST_HEAP + 1;

        private final Lake now;
        private final Trials trials;
        private Plan plan;
        /** One for each depth of a search, the one at depth 0 being what it starts from. */
        private final Lake[] depths = new Lake[DEPTHS];
        private final int[] row = new int[MOST_PEOPLE];
        final int[] bestRow = new int[MOST_PEOPLE];
        private final int[][] changes = new int[MOST_PEOPLE][MOST_YARDS];
        int least;
        int bestSet;

        Search(Lake now, Plan plan, Trials trials) {
            this.now = now;
            this.plan = plan;
            this.trials = trials;
            for (int i = 0; i < depths.length; i++) {
                depths[i] = new Lake();
            }
        }

        void use(Plan told) {
            plan = told;
        }

        /** Ahead of each search for the least. */
        void start() {
            least = ABOVE_ALL;
            bestSet = 0;
            depths[0].become(now);
        }

        private void offerSet(int lies, int set) {
            int count = Integer.bitCount(set);
            int bestCount = Integer.bitCount(bestSet);
            boolean smaller = count < bestCount || count == bestCount && set < bestSet;
            if (lies < least || lies == least && smaller) {
                least = lies;
                bestSet = set;
            }
        }

        void placeBins(int bins, int holds) {
            int taken = now.binBits();
            for (int set = 0; set < 1 << now.yards; set++) {
                if ((set & taken) == 0 && Integer.bitCount(set) <= bins) {
                    offerSet(liesWithBins(set, holds), set);
                }
            }
        }

        private int liesWithBins(int set, int holds) {
            Lake trial = depths[1];
            trial.become(now);
            for (int yard = 0; yard < trial.yards; yard++) {
                if ((set & 1 << yard) != 0) {
                    trial.setBin(yard, holds);
                }
            }
            trials.allWalkBut(NONE, trial);
            return trial.total();
        }

        int bestMove() {
            int best = NONE;
            least = trials.liesAfterAll(NONE);
            for (int from = 0; from < now.yards; from++) {
                for (int to = 0; to < now.yards; to++) {
                    if (!now.hasBin(from) || now.hasBin(to)) {
                        continue;
                    }
                    int lies = liesAfterMove(from, to);
                    if (lies < least) {
                        least = lies;
                        best = MOST_YARDS * from + to;
                    }
                }
            }
            return best;
        }

        private int liesAfterMove(int from, int to) {
            Lake trial = depths[1];
            trial.become(now);
            trial.setBin(to, trial.holds[from]);
            trial.takeBin(from);
            trials.allWalkBut(NONE, trial);
            return trial.total();
        }

        /** Rows come by their order, so that a later one must be better. */
        private void tryOrders(int depth, int gone) {
            if (depth >= plan.people || depth + 1 >= depths.length) {
                offerRow(depths[depth].total());
                return;
            }
            for (int person = 0; person < plan.people; person++) {
                if ((gone & 1 << person) == 0) {
                    row[depth] = person;
                    depths[depth + 1].become(depths[depth]);
                    trials.walkOf(person, depths[depth + 1]);
                    tryOrders(depth + 1, gone | 1 << person);
                }
            }
        }

        private void offerRow(int lies) {
            if (lies < least) {
                least = lies;
                for (int i = 0; i < plan.people; i++) {
                    bestRow[i] = row[i];
                }
            }
        }

        private void tryRounds(int depth, int hours, int timesLeft, int set) {
            if (depth >= hours || depth + 1 >= depths.length) {
                offerSet(depths[depth].total(), set);
                return;
            }
            passRound(depth, false);
            tryRounds(depth + 1, hours, timesLeft, set);
            if (timesLeft > 0) {
                passRound(depth, true);
                tryRounds(depth + 1, hours, timesLeft - 1, set | 1 << depth);
            }
        }

        private void passRound(int depth, boolean emptied) {
            Lake next = depths[depth + 1];
            next.become(depths[depth]);
            if (emptied) {
                next.emptyBins(plan.pence);
            }
            trials.allWalkBut(NONE, next);
            next.passHour(plan);
        }

        int meanThousandths(int odds) {
            start();
            long parts = 1;
            for (int person = 0; person < plan.people; person++) {
                parts *= 10;
            }
            return (int) (weighedLies(0, 0, odds) * 1000 / parts);
        }

        /** What lies after the people from one on, each case as often as it comes of ten to the number of these. */
        private long weighedLies(int depth, int person, int odds) {
            if (person >= plan.people || depth + 1 >= depths.length) {
                return depths[depth].total();
            }
            long weighed = 0;
            if (odds < 10) {
                weighed += (10 - odds) * weighedLies(depth, person + 1, odds);
            }
            if (odds > 0) {
                depths[depth + 1].become(depths[depth]);
                trials.walkOf(person, depths[depth + 1]);
                weighed += odds * weighedLies(depth + 1, person + 1, odds);
            }
            return weighed;
        }

        /** The people by whom all that was found is so, as bits. */
        int suspects(Found found) {
            int bits = 0;
            for (int person = 0; person < plan.people; person++) {
                tellChanges(person);
                bits |= found.agrees(changes[person], now.yards) ? 1 << person : 0;
            }
            return bits;
        }

        private void tellChanges(int person) {
            Lake trial = depths[1];
            trial.become(now);
            trials.walkOf(person, trial);
            for (int yard = 0; yard < now.yards; yard++) {
                changes[person][yard] = trial.lying[yard] - now.lying[yard];
            }
        }

        /** It uses the changes that suspects told. */
        int yardThatParts(int suspects) {
            int best = NONE;
            int leastAlike = Integer.bitCount(suspects);
            for (int yard = 0; yard < now.yards; yard++) {
                int alike = mostAlike(yard, suspects);
                if (alike < leastAlike) {
                    leastAlike = alike;
                    best = yard;
                }
            }
            return best;
        }

        private int mostAlike(int yard, int suspects) {
            int most = 0;
            for (int one = 0; one < plan.people; one++) {
                int alike = 0;
                for (int other = 0; other < plan.people; other++) {
                    boolean both = (suspects & 1 << one) != 0 && (suspects & 1 << other) != 0;
                    alike += both && changes[one][yard] == changes[other][yard] ? 1 : 0;
                }
                most = Math.max(most, alike);
            }
            return most;
        }
    }

    /** The last sixteen states that can be gone back to, one by one. */
    private static final class History {
        static final int MOST = 16;

        private final Lake[] states = new Lake[MOST];
        private int next;
        int size;

        History() {
            for (int i = 0; i < MOST; i++) {
                states[i] = new Lake();
            }
        }

        void clear() {
            next = 0;
            size = 0;
        }

        void push(Lake lake) {
            states[next].become(lake);
            next = (next + 1) % MOST;
            size = Math.min(MOST, size + 1);
        }

        boolean pop(Lake lake) {
            if (size == 0) {
                return false;
            }
            next = (next + MOST - 1) % MOST;
            size--;
            lake.become(states[next]);
            return true;
        }
    }

    /** What was found, yard by yard. */
    private static final class Found {
        private final int[] more = new int[MOST_YARDS];
        /** The yards of which there is something found, as bits. */
        int yards;

        void clear() {
            yards = 0;
        }

        void set(int yard, int things) {
            more[yard] = things;
            yards |= 1 << yard;
        }

        void become(Found other) {
            yards = other.yards;
            for (int yard = 0; yard < MOST_YARDS; yard++) {
                more[yard] = other.more[yard];
            }
        }

        boolean agrees(int[] changes, int yardCount) {
            for (int yard = 0; yard < yardCount; yard++) {
                if ((yards & 1 << yard) != 0 && changes[yard] != more[yard]) {
                    return false;
                }
            }
            return true;
        }
    }
}
