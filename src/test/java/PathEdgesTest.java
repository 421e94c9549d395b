/** The sentences on a PATH that name a boundary (promises 1 and 3), a test for each. */
public final class PathEdgesTest {
    private static final String[] ONCE = {"yards 3;", "winds 1;", "pence 1;", "deposit 1;", "drops 1;", "takes 1;"};
    private static final String RESERVED = "yards person carries brings bin holds lies winds pence deposit drops takes walk empty"
        + " put off sweep hour plain tidy dog child not and or";

    public static void main(String[] args) {
        atFirst6YardsNothing();
        anyNumberOfLines();
        yards2To8();
        sixPersonsAtMostNumberedAsTold();
        kinds();
        carriesAndBrings0To9();
        binsAt0To7EachOnce1To30();
        liesAt0To7EachOnce0To99();
        winds0To2OneTo12();
        windsAgainAndAgain();
        pence0To99();
        deposit0To9();
        onceEach();
        beyondThoseToldNothingIsThere();
        names();
        whatIsNotWithinFaults();
        theFirstWrongTokenTheLeastKind();
        whatCantStandThere();
        withoutAFaultAllIsNew();
        untoldBehindOtherPaths();
        withAFaultAllStays();
        Due.end();
    }

    /** A text with # for a number, which is least to most; any other is no number as told. */
    private static void range(String text, int least, int most) {
        for (int number = 0; number <= most + 2; number++) {
            boolean within = number >= least && number <= most;
            Due.pathFault(within ? 0 : 4, text.replace("#", (within ? "" : "^") + number));
        }
        Due.pathFault(4, text.replace("#", "^" + (256 + least)));
        Due.pathFault(4, text.replace("#", "^9999"));
        Due.pathFault(1, text.replace("#", "^10000"));
        Due.pathFault(1, text.replace("#", "^-" + least));
        Due.pathFault(1, text.replace("#", "^x"));
    }

    private static void atFirst6YardsNothing() {
        LakeBins lake = new LakeBins();
        Due.counts("new", lake, 6, 0, 0, 0, 0, 0, 0, 0, 0, 0, 0, 0, 0);
        for (int yard = 0; yard < 6; yard++) {
            Due.due("new, lies at " + yard, lake.yard(yard, 0), 0);
            Due.due("new, no bin at " + yard, lake.yard(yard, 1), 0);
            Due.due("new, nothing in it at " + yard, lake.yard(yard, 2), 0);
            Due.due("new, near of " + yard, lake.yard(yard, 3), 9);
        }
        Due.due("new, no yard 6", lake.yard(6, 0), -1);
        Due.due("new, nobody", lake.person(0, 0), -1);
        Due.due("new, undo", lake.undo(), false);
        for (int mark = 0; mark < 4; mark++) {
            Due.due("new, mark " + mark, lake.mark(mark, true), false);
        }
        Due.due("new, pence 5", lake.put(0, 1) ? lake.empty(0) + lake.count(7) : -9, 5);
    }

    private static void anyNumberOfLines() {
        LakeBins lake = new LakeBins();
        lake.put(0, 3);
        Due.due("no line", lake.path(), 0);
        Due.counts("no line", lake, 6, 0, 0, 0, 0, 0, 0, 0, 0, 0, 0, 0, 0);
        StringBuilder text = new StringBuilder();
        for (int yard = 7; yard >= 0; yard--) {
            text.append("lies ").append(yard).append(" 1;bin ").append(yard).append(" holds 1;");
        }
        for (int person = 0; person < 6; person++) {
            text.append("person ").append((char) ('f' - person)).append(" dog carries 1 brings 1;");
        }
        text.append(String.join("", ONCE).replace("yards 3", "yards 8"));
        Due.due("as many as can be", Due.path(lake, text.toString()), 0);
        Due.counts("all lines", lake, 8, 6, 8, 0, 1, 0, 0, 0, 1, 0, 0, 0, 0);
    }

    private static void yards2To8() {
        range("yards #;", 2, 8);
        for (int yards = 2; yards <= 8; yards++) {
            LakeBins lake = Due.told("yards " + yards + ";");
            Due.due("yards", lake.count(0), yards);
            Due.due("the last of " + yards, lake.yard(yards - 1, 0), 0);
            Due.due("behind the last of " + yards, lake.yard(yards, 0), -1);
        }
        Due.due("untold", Due.told("pence 3;").count(0), 6);
    }

    private static void sixPersonsAtMostNumberedAsTold() {
        StringBuilder text = new StringBuilder();
        for (int person = 0; person <= 6; person++) {
            LakeBins lake = Due.told(text.toString());
            Due.due("people", lake.count(1), person);
            for (int i = 0; i < person; i++) {
                Due.due("brings of " + i, lake.person(i, 2), i + 1);
            }
            Due.due("no person " + person, lake.person(person, 0), -1);
            text.append("person ").append((char) ('z' - person)).append(" dog carries 0 brings ").append(person + 1).append(";");
        }
        String six = text.substring(0, text.lastIndexOf("person"));
        Due.pathFault(5, six + "^person a dog carries 0 brings 0;");
        Due.pathFault(5, six + "^person");
        Due.pathFault(5, six + "^person z");
        Due.pathFault(5, six + "lies 0 1; ^person 7;");
        Due.pathFault(1, six + "^persons");
        Due.pathFault(0, six + "lies 0 1;");
    }

    private static void kinds() {
        String[] kinds = {"plain", "tidy", "dog", "child"};
        for (int kind = 0; kind < 4; kind++) {
            Due.due(kinds[kind], Due.told("person a " + kinds[kind] + " carries 0 brings 0;").person(0, 0), kind);
        }
        for (String word : "plains tid dogs childr king bin not heap a".split(" ")) {
            Due.pathFault(1, "person a ^" + word + " carries 0 brings 0;");
        }
    }

    private static void carriesAndBrings0To9() {
        range("person a dog carries # brings 0;", 0, 9);
        range("person a dog carries 0 brings #;", 0, 9);
        for (int number = 0; number < 10; number++) {
            LakeBins lake = Due.told("person a dog carries " + number + " brings " + (9 - number) + ";");
            Due.due("carries", lake.person(0, 1), number);
            Due.due("brings", lake.person(0, 2), 9 - number);
            Due.due("takes", lake.person(0, 3), 9 - number);
        }
    }

    private static void binsAt0To7EachOnce1To30() {
        range("yards 8; bin # holds 1;", 0, 7);
        range("bin 0 holds #;", 1, 30);
        for (int yard = 0; yard < 8; yard++) {
            Due.due("the least", Due.told("yards 8; bin " + yard + " holds 1;").yard(yard, 1), 1);
            Due.due("the most", Due.told("yards 8; bin " + yard + " holds 30;").yard(yard, 1), 30);
            Due.pathFault(3, "bin " + yard + " holds 1; bin ^" + yard + " holds 1;");
            Due.pathFault(3, "yards 2; bin " + yard + " holds 30; bin " + (yard + 1) % 8 + " holds 2; bin ^" + yard + " holds 0;");
            Due.pathFault(0, "bin " + yard + " holds 1; lies " + yard + " 1;");
        }
        Due.pathFault(3, "bin 1 holds 1; bin ^1");
        Due.pathFault(4, "bin 1 holds 1; bin ^8");
        Due.due("untold", Due.told("yards 8;").count(2), 0);
    }

    private static void liesAt0To7EachOnce0To99() {
        range("yards 8; lies # 1;", 0, 7);
        range("lies 0 #;", 0, 99);
        for (int yard = 0; yard < 8; yard++) {
            Due.due("the most", Due.told("yards 8; lies " + yard + " 99;").yard(yard, 0), 99);
            Due.due("the least", Due.told("yards 8; lies " + yard + " 0;").yard(yard, 0), 0);
            Due.pathFault(3, "lies " + yard + " 0; lies ^" + yard + " 0;");
            Due.pathFault(3, "yards 2; lies " + yard + " 99; lies " + (yard + 1) % 8 + " 2; lies ^" + yard + " 100;");
            Due.pathFault(0, "lies " + yard + " 1; bin " + yard + " holds 1;");
        }
        Due.pathFault(3, "lies 1 1; lies ^1");
        Due.pathFault(4, "lies 1 1; lies ^8");
        Due.due("untold", Due.told("yards 8;").lies(), 0);
    }

    private static void winds0To2OneTo12() {
        range("winds #;", 0, 2);
        range("winds 0 #;", 0, 2);
        range("winds 0 0 0 0 0 0 0 0 0 0 0 #;", 0, 2);
        Due.pathFault(1, "winds ^;");
        for (int count = 1; count <= 12; count++) {
            Due.pathFault(0, "winds" + " 1".repeat(count) + ";");
        }
        String twelve = "winds" + " 1".repeat(12);
        for (int wind = 0; wind < 3; wind++) {
            Due.pathFault(5, twelve + " ^" + wind + ";");
        }
        Due.pathFault(5, twelve + " ^0");
        Due.pathFault(4, twelve + " ^3;");
        Due.pathFault(1, twelve + " ^00000;");
        Due.pathFault(1, twelve + " ^x;");
        Due.pathFault(1, twelve + "^");
        Due.pathFault(5, twelve + " ^1 1;");
    }

    private static void windsAgainAndAgain() {
        for (int count = 1; count <= 12; count++) {
            StringBuilder text = new StringBuilder("winds");
            int[] winds = new int[count];
            for (int i = 0; i < count; i++) {
                winds[i] = (i * i + count) % 3;
                text.append(' ').append(winds[i]);
            }
            LakeBins lake = Due.told(text + ";");
            for (int hour = 0; hour < 37; hour++) {
                Due.due(text + ", the wind of hour " + hour, lake.count(4), winds[hour % count]);
                Due.due(text + ", hour " + hour, lake.hour(), winds[hour % count]);
            }
        }
        LakeBins lake = new LakeBins();
        for (int hour = 0; hour < 14; hour++) {
            Due.due("untold, the wind of " + hour, lake.count(4), 0);
            Due.due("untold, hour " + hour, lake.hour(), 0);
        }
    }

    private static void pence0To99() {
        range("pence #;", 0, 99);
        for (int pence : new int[] {0, 1, 98, 99}) {
            LakeBins lake = Due.told("bin 0 holds 1; pence " + pence + ";");
            lake.empty(0);
            Due.due("pence " + pence, lake.count(7), pence);
            lake.empty(0);
            Due.due("pence twice " + pence, lake.count(7), 2 * pence);
        }
        LakeBins lake = Due.told("bin 0 holds 1;");
        lake.empty(0);
        Due.due("untold", lake.count(7), 5);
    }

    private static void deposit0To9() {
        range("deposit #;", 0, 9);
        for (int deposit = 0; deposit < 10; deposit++) {
            LakeBins lake = Due.told("person k child carries 9 brings 0; lies 0 20; deposit " + deposit + ";");
            Due.due("deposit", lake.count(8), deposit);
            lake.walk(0);
            Due.due("redeemed by " + deposit, lake.count(6), deposit);
        }
        Due.due("untold", Due.told("person k child carries 9 brings 0; lies 0 20;").leaves(0, 11), 0);
    }

    private static void onceEach() {
        for (String line : ONCE) {
            String word = line.substring(0, line.indexOf(' '));
            Due.pathFault(0, line);
            Due.pathFault(3, line + "^" + line);
            Due.pathFault(3, line + "^" + word);
            Due.pathFault(3, line + "lies 0 1; bin 0 holds 1; ^" + word + " ;");
            Due.pathFault(1, "^" + word + "s 1;");
            for (String other : ONCE) {
                Due.pathFault(other.equals(line) ? 3 : 0, line + (other.equals(line) ? "^" : "") + other);
            }
            Due.pathFault(3, String.join("", ONCE) + "^" + line);
        }
        LakeBins lake = new LakeBins();
        for (int i = 0; i < 3; i++) {
            Due.due("once each of every path", Due.path(lake, String.join("", ONCE)), 0);
            Due.due("and of one that failed", Due.path(lake, String.join("", ONCE) + "x"), 1 + 16 * String.join("", ONCE).length());
        }
    }

    private static void beyondThoseToldNothingIsThere() {
        StringBuilder text = new StringBuilder();
        for (int yard = 0; yard < 8; yard++) {
            text.append("bin ").append(yard).append(" holds 2; lies ").append(yard).append(" 3;");
        }
        for (int yards = 2; yards <= 8; yards++) {
            LakeBins lake = Due.told(text + "yards " + yards + "; winds 2;");
            Due.due("bins of " + yards, lake.count(2), yards);
            Due.due("lies of " + yards, lake.lies(), 3 * yards);
            Due.due("space of " + yards, lake.space(), 2 * yards);
            Due.due("heaps of " + yards, lake.heaps(2), (1 << yards) - 1);
            Due.due("near of the last", lake.yard(yards - 1, 3), 9);
            lake.hour();
            Due.due("nothing is blown from beyond", lake.lies(), 3 * yards);
            Due.due("the last one has what it had, less half", lake.yard(yards - 1, 0), 2);
        }
        LakeBins lake = Due.told(text.toString());
        Due.due("six yards if untold", lake.lies(), 18);
        lake = Due.told("yards 3; bin 3 holds 9; person a plain carries 9 brings 5; takes near;");
        Due.due("a bin beyond is not near", lake.person(0, 3), 9);
        Due.due("nor full or not", lake.full(), 1);
    }

    private static void names() {
        for (String word : RESERVED.split(" ")) {
            Due.pathFault(1, "person ^" + word + " dog carries 1 brings 1;");
            Due.dayFault(Due.told("person a dog carries 1 brings 1;"), 1, "walk ^" + word + ";");
            String name = word.length() < 8 ? word + "x" : "x";
            Due.pathFault(0, "person " + name + " dog carries 1 brings 1;");
        }
        for (String word : "heap near has far yard persons path day".split(" ")) {
            LakeBins lake = Due.told("person " + word + " dog carries 1 brings 1;");
            Due.dayFault(lake, 0, "walk " + word + ";");
            Due.pathFault(3, "person " + word + " dog carries 1 brings 1; person ^" + word);
        }
        String five = "";
        for (char name = 'a'; name < 'f'; name++) {
            five += "person " + name + " dog carries 1 brings 1;";
        }
        for (char name = 'a'; name < 'f'; name++) {
            Due.pathFault(3, five + "person ^" + name + " dog carries 1 brings 1;");
            Due.pathFault(0, five + "person " + name + name + " dog carries 1 brings 1;");
        }
        Due.pathFault(1, "person ^7 dog carries 1 brings 1;");
        Due.pathFault(1, "person ^;");
    }

    /** The numbers that a fault names at once, also if a later token would be wrong as well. */
    private static void whatIsNotWithinFaults() {
        Due.pathFault(4, "bin ^8 holds 31;");
        Due.pathFault(4, "bin ^8;");
        Due.pathFault(4, "lies ^8 100;");
        Due.pathFault(4, "winds 0 ^3 4;");
        Due.pathFault(4, "person a dog carries ^10 brings 10;");
        Due.pathFault(4, "yards ^1 yards");
        Due.pathFault(4, "yards ^9");
    }

    private static void theFirstWrongTokenTheLeastKind() {
        Due.pathFault(4, "yards ^9; yards 3;");
        Due.pathFault(3, "yards 8; ^yards 9;");
        Due.pathFault(1, "yards 8 ^yards 9;");
        Due.pathFault(3, "person a dog carries 1 brings 1; person ^a king carries 10");
        Due.pathFault(1, "person a ^king carries 10; person a");
        Due.pathFault(1, "lies 1 2 ^3; ?");
        Due.pathFault(1, "^? yards 9;");
        Due.pathFault(3, "bin 1 holds 1; bin ^1 holds 99;");
    }

    private static void whatCantStandThere() {
        for (String word : "carries brings holds walk empty put off sweep hour plain tidy dog child not and or heap x 5 ( ;".split(" ")) {
            Due.pathFault(1, "^" + word + " 3;");
            Due.pathFault(1, "yards 3; ^" + word + " 3;");
            Due.pathFault(1, "yards 3 ^" + word.replace(";", ")") + ";");
        }
        Due.pathFault(1, "yards 3;^;");
        Due.pathFault(1, "bin 1 ^1;");
        Due.pathFault(1, "bin 1 ^brings 1;");
        Due.pathFault(1, "bin ^holds 1;");
        Due.pathFault(1, "lies 1 ^holds 1;");
        Due.pathFault(1, "lies 1^;");
        Due.pathFault(1, "lies^;");
        Due.pathFault(1, "person a dog ^brings 1 carries 1;");
        Due.pathFault(1, "person a dog carries ^brings 1;");
        Due.pathFault(1, "person a dog carries 1 ^carries 1;");
        Due.pathFault(1, "person a dog carries 1 brings^;");
        Due.pathFault(1, "person a ^carries 1 brings 1;");
        Due.pathFault(1, "winds 1 ^winds;");
    }

    /** A lake where all that can be told, done and found was. */
    private static LakeBins used() {
        LakeBins lake = Due.told("yards 4; person k child carries 9 brings 5; bin 0 holds 2; bin 3 holds 9; lies 1 7; lies 2 1;"
            + "pence 9; deposit 2; winds 1 2; drops heap = 5; takes has - 1;");
        Due.due("day", Due.day(lake, "hour; walk k;"), 0);
        for (int mark = 0; mark < 4; mark++) {
            lake.mark(mark, false);
        }
        lake.walk(0);
        lake.empty(0);
        lake.walk(0);
        lake.off(3);
        lake.put(1, 4);
        lake.walk(0);
        lake.hour();
        lake.find(1, 3);
        lake.find(3, -3);
        lake.walk(0);
        for (int what = 0; what < 12; what++) {
            Due.due("in use, count " + what, lake.count(what) > 0, true);
        }
        return lake;
    }

    private static void withoutAFaultAllIsNew() {
        LakeBins lake = used();
        Due.due("path", Due.path(lake, "bin 0 holds 3; lies 1 4; person k child carries 8 brings 6;"), 0);
        Due.counts("new path", lake, 6, 1, 1, 0, 0, 0, 0, 0, 0, 0, 0, 0, 0);
        Due.lying("new path", lake, 0, 4, 0, 0, 0, 0);
        Due.due("bin as told", lake.yard(0, 1), 3);
        Due.due("it is empty", lake.yard(0, 2), 0);
        Due.due("the put one is gone", lake.yard(1, 1), 0);
        Due.due("without takes", lake.person(0, 3), 6);
        Due.due("without drops", lake.from(0, 0), 0);
        Due.due("nothing can be undone", lake.undo(), false);
        for (int mark = 0; mark < 4; mark++) {
            Due.due("no mark " + mark, lake.mark(mark, true), false);
        }
        Due.due("no day", lake.judged(0), -1);
        Due.due("no day", lake.judged(2), 4);
        Due.due("nothing found", lake.who(), 1);
        lake.empty(0);
        Due.due("pence untold", lake.count(7), 5);
        lake = used();
        Due.due("the same path anew", Due.path(lake, "bin 0 holds 2; lies 1 7;"), 0);
        Due.due("in the bin", lake.yard(0, 2), 0);
        Due.due("nobody", lake.count(1), 0);
    }

    /** What a path does not tell is as if it never was, whatever the paths ahead of it told. */
    private static void untoldBehindOtherPaths() {
        StringBuilder all = new StringBuilder(String.join("", ONCE));
        for (int yard = 0; yard < 8; yard++) {
            all.append("bin ").append(yard).append(" holds 2; lies ").append(yard).append(" 3;");
        }
        all.append("person k child carries 4 brings 3;");
        for (int ahead = 0; ahead < 6; ahead++) {
            LakeBins lake = new LakeBins();
            for (int i = 0; i < ahead; i++) {
                Due.due("all is told", Due.path(lake, all + (i % 3 == 2 ? "?" : "")) == 0, i % 3 != 2);
            }
            Due.due("nothing is told", lake.path(), 0);
            Due.counts("behind " + ahead, lake, 6, 0, 0, 0, 0, 0, 0, 0, 0, 0, 0, 0, 0);
            Due.lying("behind " + ahead, lake, 0, 0, 0, 0, 0, 0);
            Due.due("one person", Due.path(lake, "person a plain carries 9 brings 4; bin 5 holds 1; lies 5 1;"), 0);
            Due.counts("one person behind " + ahead, lake, 6, 1, 1, 0, 0, 0, 0, 0, 0, 0, 0, 0, 0);
            Due.lying("one person behind " + ahead, lake, 0, 0, 0, 0, 0, 1);
            Due.due("takes as without", lake.person(0, 3), 4);
            Due.due("drops as without", lake.from(0, 0), 5);
            Due.due("home", lake.walk(0), 3);
            lake.empty(5);
            Due.due("pence as untold", lake.count(7), 5);
        }
    }

    private static void withAFaultAllStays() {
        String[] faults = {"yards 9;", "yards 2; bin 0 holds 9; lies 0 9; person z tidy carries 1 brings 1; deposit 7; pence 77; winds 0;"
            + "drops 0; takes 0; yards", "?", "person k child carries 1 brings 1"};
        for (String fault : faults) {
            LakeBins lake = used();
            LakeBins same = used();
            Due.due("it is a fault: " + fault, Due.path(lake, fault) > 0, true);
            for (int what = 0; what <= 12; what++) {
                Due.due("count " + what + " behind " + fault, lake.count(what), same.count(what));
            }
            for (int yard = 0; yard < 4; yard++) {
                for (int what = 0; what < 4; what++) {
                    Due.due("yard " + yard + " " + what + " behind " + fault, lake.yard(yard, what), same.yard(yard, what));
                }
            }
            for (int what = 0; what < 4; what++) {
                Due.due("person's " + what + " behind " + fault, lake.person(0, what), same.person(0, what));
            }
            for (int what = 0; what < 3; what++) {
                Due.due("judged " + what + " behind " + fault, lake.judged(what), same.judged(what));
            }
            Due.due("from", lake.from(0, 1), 5);
            Due.due("who", lake.who(), same.who());
            Due.due("weeks", lake.weeks(3, 9, 0), same.weeks(3, 9, 0));
            Due.due("undo", lake.undo(), true);
            Due.due("undone", lake.lies(), same.undo() ? same.lies() : -1);
            for (int mark = 0; mark < 4; mark++) {
                Due.due("mark " + mark, lake.mark(mark, true), true);
            }
        }
    }
}
