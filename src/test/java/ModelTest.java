import java.util.Random;

/** Runs of at most 512 calls by draws, each answer compared with the model's; texts are told right and broken. */
public final class ModelTest {
    private static final int RUNS = 500;
    private static final String[] KINDS = {"plain", "tidy", "dog", "child"};
    private static final String[] WORDS = ("yards person carries brings bin holds lies winds pence deposit drops takes walk empty put off"
        + " sweep hour plain tidy dog child not and or heap near has far ann bob abcdefgh abcdefghi ( ) < = + - * ; , 0 1 5 8 9 10 30 31"
        + " 99 100 9999 10000").split(" ");

    private final Random random;
    private final LakeBins lake = new LakeBins();
    private final Model model = new Model();
    private int calls = 0;

    private ModelTest(long seed) {
        random = new Random(seed);
    }

    public static void main(String[] args) {
        int runs = args.length > 0 ? Integer.parseInt(args[0]) : RUNS;
        for (int seed = 0; seed < runs && !Due.isWrong(); seed++) {
            new ModelTest(seed).run(seed);
        }
        Due.end();
    }

    private int below(int n) {
        return random.nextInt(n);
    }

    private boolean oneOf(int n) {
        return below(n) == 0;
    }

    private void run(int seed) {
        if (!oneOf(8)) {
            tell(pathText(), true);
        }
        while (calls < 480 && !Due.isWrong()) {
            int draw = below(100);
            if (draw < 2) {
                tell(pathText(), true);
            } else if (draw < 4) {
                tell(dayText(), false);
            } else if (draw < 5) {
                long a = random.nextLong();
                long b = random.nextLong() & 0x7F7F7F7F7F7F7F7FL;
                check("feed", lake.feed(a, b, a ^ b), model.feed(a, b, a ^ b));
            } else if (draw < 40) {
                byHand();
            } else if (draw < 60) {
                ask();
            } else if (draw < 80) {
                tryOut();
            } else {
                searchFor();
            }
        }
        if (Due.isWrong()) {
            System.out.println("in the run by seed " + seed + ", call " + calls);
        }
    }

    private void check(String call, long got, long want) {
        calls++;
        Due.due(call, got, want);
    }

    private void check(String call, boolean got, boolean want) {
        check(call, got ? 1 : 0, want ? 1 : 0);
    }

    private void tell(String text, boolean path) {
        String told = oneOf(4) ? broken(text) : text;
        for (int i = 0; i < told.length(); i += 24) {
            long a = Due.eight(told, i);
            long b = Due.eight(told, i + 8);
            long c = Due.eight(told, i + 16);
            check("feed", lake.feed(a, b, c), model.feed(a, b, c));
        }
        if (path) {
            check("path " + told, lake.path(), model.path());
        } else {
            check("day " + told, lake.day(), model.day());
        }
    }

    private String broken(String text) {
        String[] parts = text.split(" ");
        for (int i = 0; i <= below(3); i++) {
            int at = below(parts.length);
            switch (below(4)) {
                case 0 -> parts[at] = "";
                case 1 -> parts[at] = parts[at] + (char) (32 + below(95));
                case 2 -> parts[at] = WORDS[below(WORDS.length)];
                default -> parts[at] = parts[below(parts.length)] + " " + parts[at];
            }
        }
        return String.join(oneOf(9) ? "" : " ", parts);
    }

    private String pathText() {
        StringBuilder text = new StringBuilder();
        int people = below(7);
        if (!oneOf(3)) {
            text.append("yards ").append(2 + below(7)).append(" ; ");
        }
        for (int i = 0; i < people; i++) {
            text.append("person ").append((char) ('a' + i)).append(' ').append(KINDS[below(4)])
                .append(" carries ").append(oneOf(4) ? below(10) : below(4)).append(" brings ").append(below(10)).append(" ; ");
        }
        for (int yard = 0; yard < 8; yard++) {
            if (oneOf(3)) {
                text.append("bin ").append(yard).append(" holds ").append(1 + below(oneOf(3) ? 30 : 8)).append(" ; ");
            }
            if (oneOf(3)) {
                text.append("lies ").append(yard).append(' ').append(below(oneOf(3) ? 100 : 8)).append(" ; ");
            }
        }
        if (oneOf(2)) {
            text.append("winds ");
            for (int i = below(12); i >= 0; i--) {
                text.append(below(3)).append(' ');
            }
            text.append("; ");
        }
        text.append(oneOf(2) ? "pence " + below(100) + " ; " : "").append(oneOf(2) ? "deposit " + below(10) + " ; " : "");
        text.append(oneOf(3) ? "drops " + law(0) + " ; " : "").append(oneOf(3) ? "takes " + law(0) + " ; " : "");
        return text.toString();
    }

    private String law(int deep) {
        StringBuilder text = new StringBuilder(part(deep));
        boolean compared = false;
        for (int i = below(4); i > 0; i--) {
            String[] joins = {"+", "-", "*", "+", "-", "<", "=", "and", "or"};
            String join = joins[below(joins.length)];
            boolean compares = join.equals("<") || join.equals("=");
            if (compares && compared) {
                join = "or";
            }
            compared = compares || !join.equals("and") && !join.equals("or") && compared;
            text.append(' ').append(join).append(' ').append(part(deep));
        }
        return text.toString();
    }

    private String part(int deep) {
        int draw = below(deep < 4 ? 10 : oneOf(9) ? 10 : 7);
        if (draw < 5) {
            return new String[] {"heap", "near", "has", "far", "has"}[draw];
        }
        if (draw < 7) {
            return String.valueOf(oneOf(5) ? below(10000) : below(12));
        }
        return draw < 8 ? "not " + part(deep + 1) : "( " + law(deep + 1) + " )";
    }

    private String dayText() {
        StringBuilder text = new StringBuilder();
        for (int i = below(oneOf(9) ? 42 : 20); i > 0; i--) {
            int people = model.people.size();
            switch (below(8)) {
                case 0, 1, 2 -> text.append(people > 0 ? "walk " + (char) ('a' + below(people)) : "hour");
                case 3 -> text.append("empty ").append(below(8));
                case 4 -> text.append("put ").append(below(8)).append(' ').append(1 + below(30));
                case 5 -> text.append("off ").append(below(8));
                case 6 -> text.append("sweep ").append(below(8));
                default -> text.append("hour");
            }
            text.append(" ; ");
        }
        return text.toString();
    }

    private int any(int least, int most) {
        if (oneOf(40)) {
            int[] odd = {least - 1, most + 1, Integer.MIN_VALUE, Integer.MAX_VALUE, -1, 0, 8};
            return odd[below(odd.length)];
        }
        return least + below(most - least + 1);
    }

    private int anyYard() {
        return any(0, model.yards - 1);
    }

    private int anyPerson() {
        return any(0, Math.max(0, model.people.size() - 1));
    }

    private void byHand() {
        int person = anyPerson();
        int yard = anyYard();
        int holds = any(1, 30);
        int mark = any(0, 3);
        boolean back = oneOf(4);
        switch (below(16)) {
            case 0, 1, 2, 3, 4, 5 -> check("walk " + person, lake.walk(person), model.walk(person));
            case 6, 7 -> check("empty " + yard, lake.empty(yard), model.empty(yard));
            case 8 -> check("put " + yard + " " + holds, lake.put(yard, holds), model.put(yard, holds));
            case 9 -> check("off " + yard, lake.off(yard), model.off(yard));
            case 10 -> check("sweep " + yard, lake.sweep(yard), model.sweep(yard));
            case 11, 12 -> check("hour", lake.hour(), model.hour());
            case 13, 14 -> check("undo", lake.undo(), model.undo());
            default -> check("mark " + mark + back, lake.mark(mark, back), model.mark(mark, back));
        }
    }

    private void ask() {
        int yard = anyYard();
        int person = anyPerson();
        int what = any(0, 3);
        int counted = any(0, 12);
        int lies = any(-1, 20);
        int judged = any(0, 2);
        switch (below(8)) {
            case 0, 1 -> check("yard " + yard + " " + what, lake.yard(yard, what), model.yard(yard, what));
            case 2 -> check("person " + person + " " + what, lake.person(person, what), model.person(person, what));
            case 3 -> check("space", lake.space(), model.space());
            case 4 -> check("heaps " + lies, lake.heaps(lies), model.heaps(lies));
            case 5 -> check("lies", lake.lies(), model.lies());
            case 6 -> check("judged " + judged, lake.judged(judged), model.judged(judged));
            default -> check("count " + counted, lake.count(counted), model.count(counted));
        }
    }

    private void tryOut() {
        int yard = anyYard();
        int person = anyPerson();
        int what = any(0, 11);
        int heap = any(0, 99);
        int most = oneOf(2) ? any(0, 999) : any(0, 60);
        int seed = any(0, 9999);
        int hours = any(1, 99);
        int of = any(0, 2);
        switch (below(10)) {
            case 0 -> check("leaves " + person + " " + what, lake.leaves(person, what), model.leaves(person, what));
            case 1 -> check("all", lake.all(), model.all());
            case 2 -> check("full", lake.full(), model.full());
            case 3 -> check("without " + person, lake.without(person), model.without(person));
            case 4 -> check("hands " + person, lake.hands(person), model.hands(person));
            case 5 -> check("grows " + yard + " " + heap, lake.grows(yard, heap), model.grows(yard, heap));
            case 6 -> check("from " + person + " " + yard, lake.from(person, yard), model.from(person, yard));
            case 7 -> check("bare " + yard, lake.bare(yard), model.bare(yard));
            case 8 -> check("deposit " + most, lake.deposit(most), model.deposit(most));
            default -> check("weeks " + seed + " " + hours + " " + of, lake.weeks(seed, hours, of), model.weeks(seed, hours, of));
        }
    }

    private void searchFor() {
        int bins = any(0, 4);
        int holds = any(1, oneOf(2) ? 5 : 30);
        int what = any(0, 1);
        int hours = any(1, 6);
        int times = any(0, 6);
        int who = any(-1, Math.max(0, model.people.size() - 1));
        int odds = any(0, 10);
        int yard = anyYard();
        int more = oneOf(2) ? any(-99, 99) : model.leaves(anyPerson(), yard);
        switch (below(10)) {
            case 0, 1 -> check("place " + bins + " " + holds + " " + what, lake.place(bins, holds, what), model.place(bins, holds, what));
            case 2 -> check("move", lake.move(), model.move());
            case 3 -> check("order " + who, lake.order(who), model.order(who));
            case 4, 5 -> check("rounds " + hours + " " + times + " " + what, lake.rounds(hours, times, what), model.rounds(hours, times, what));
            case 6 -> check("mean " + odds, lake.mean(odds), model.mean(odds));
            case 7 -> check("find " + yard + " " + more, lake.find(yard, more), model.find(yard, more));
            case 8 -> check("who", lake.who(), model.who());
            default -> check("look", lake.look(), model.look());
        }
    }
}
