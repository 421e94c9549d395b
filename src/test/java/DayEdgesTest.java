/** The sentences on a DAY and on how it is JUDGED that name a boundary (promises 4 and 17), a test for each. */
public final class DayEdgesTest {
    private static final String[] ACTS = {"walk", "empty", "put", "off", "sweep", "hour"};
    private static final String ANN = "person ann plain carries 0 brings 3;";

    public static void main(String[] args) {
        fortyLinesAtMost();
        theFirstWordOfA41stLine();
        yards0To7();
        put1To30();
        walkAPerson();
        hourAndItsSign();
        whatCantStandThere();
        theFirstWrongTokenTheLeastKind();
        aDayIsTheDay();
        withAFaultTheDayStays();
        judgedWhat0To2();
        noDayNoLine();
        emptyAndOffWithoutABin();
        putWhereOneIs();
        anyAtAYardThatIsNotThere();
        theFirstLineThatCantBe();
        linesThatCantBeAreLeftOut();
        theFirstWalkByWhichSomethingIsDropped();
        whatLiesAtLastTogether();
        fromTheBegin();
        Due.end();
    }

    private static void day(int kind, String text) {
        LakeBins lake = Due.told(ANN);
        Due.dayFault(lake, kind, text);
        Due.due("tape behind " + text, lake.count(12), 0);
    }

    private static void judged(LakeBins lake, String day, int cant, int litters, int lies) {
        Due.due("day " + day, Due.day(lake, day), 0);
        Due.due("can't be: " + day, lake.judged(0), cant);
        Due.due("litters: " + day, lake.judged(1), litters);
        Due.due("lies: " + day, lake.judged(2), lies);
    }

    private static void fortyLinesAtMost() {
        for (int lines : new int[] {0, 1, 2, 39, 40}) {
            LakeBins lake = Due.told(ANN);
            Due.due(lines + " lines", Due.day(lake, "hour;".repeat(lines)), 0);
            Due.due("lines of it", lake.count(9), lines);
        }
        day(5, "hour;".repeat(40) + "^hour;");
        day(5, "sweep 0;".repeat(40) + "^hour;hour;");
        day(0, "walk ann;".repeat(40));
        day(5, "walk ann;".repeat(40) + " ^walk ann;");
        day(0, "put 0 1;".repeat(40) + " \n");
    }

    private static void theFirstWordOfA41stLine() {
        String forty = "hour;".repeat(40);
        for (String act : ACTS) {
            day(5, forty + "^" + act);
            day(5, forty + "^" + act + " 8;");
            day(5, forty + "^" + act + " nobody");
            day(1, forty + "^" + act + "s");
        }
        for (String word : "yards person ann x ; 1 ( 12345 abcdefghi ?".split(" ")) {
            day(1, forty + "^" + word);
        }
        day(4, "hour;".repeat(39) + "sweep ^8; hour;");
    }

    /** A text with # for a number, which is least to most; any other is no number as told. */
    private static void range(String text, int least, int most) {
        for (int number = 0; number <= most + 2; number++) {
            boolean within = number >= least && number <= most;
            day(within ? 0 : 4, text.replace("#", (within ? "" : "^") + number));
        }
        day(4, text.replace("#", "^" + (256 + least)));
        day(4, text.replace("#", "^9999"));
        day(1, text.replace("#", "^10000"));
        day(1, text.replace("#", "^- 1"));
        day(1, text.replace("#", "^ann"));
    }

    private static void yards0To7() {
        for (String act : new String[] {"empty", "off", "sweep"}) {
            range(act + " #;", 0, 7);
            range("hour; " + act + " #; hour;", 0, 7);
        }
        range("put # 1;", 0, 7);
        Due.dayFault(Due.told("yards 2;"), 0, "empty 7; off 7; sweep 7; put 7 30;");
        Due.dayFault(Due.told("yards 8;"), 4, "empty 7; off ^8;");
    }

    private static void put1To30() {
        range("put 0 #;", 1, 30);
        day(4, "put ^8 31;");
        for (int holds : new int[] {1, 2, 29, 30}) {
            LakeBins lake = Due.told("yards 2; person a plain carries 9 brings 9; drops has; takes 9; lies 1 1;");
            int binned = Math.min(holds, 36);
            judged(lake, "put 0 " + holds + ";walk a;walk a;walk a;walk a;", -1, Math.min(4, holds / 9) + 1, 1 + 36 - binned);
        }
    }

    private static void walkAPerson() {
        day(0, "walk ann;");
        day(2, "walk ^bob;");
        day(2, "walk ^an;");
        day(2, "walk ^annn;");
        day(2, "walk ^heap;");
        day(1, "walk ^0;");
        day(1, "walk ann^0;");
        day(1, "walk ^;");
        day(1, "walk ^annannann;");
        day(1, "walk ann ^ann;");
        day(1, "walk ^hour;");
        Due.dayFault(new LakeBins(), 2, "walk ^ann;");
        StringBuilder six = new StringBuilder();
        for (char name = 'a'; name < 'g'; name++) {
            six.append("person ").append(name).append(" dog carries 0 brings 0;");
        }
        for (char name = 'a'; name < 'g'; name++) {
            Due.dayFault(Due.told(six.toString()), 0, "walk " + name + ";");
        }
        Due.dayFault(Due.told(six.toString()), 2, "walk a; walk ^g;");
        LakeBins lake = Due.told(six.toString());
        Due.due("another path", Due.path(lake, "person g dog carries 0 brings 0;"), 0);
        Due.dayFault(lake, 2, "walk g; walk ^a;");
        Due.due("a path with a fault", Due.path(lake, "person h dog carries 0 brings 0; ?") > 0, true);
        Due.dayFault(lake, 2, "walk g; walk ^h;");
    }

    private static void hourAndItsSign() {
        day(0, "hour;");
        day(1, "hour ^1;");
        day(1, "hour ^hour;");
        day(1, "hour^");
        day(1, "hour;^;");
    }

    private static void whatCantStandThere() {
        for (String word : "yards person carries brings bin holds lies winds pence deposit drops takes plain not heap ann 5 ; (".split(" ")) {
            day(1, "^" + word + " 1;");
            day(1, "hour; ^" + word + " 1;");
        }
        for (String act : new String[] {"empty", "off", "sweep"}) {
            day(1, act + "^;");
            day(1, act + " 1 ^1;");
            day(1, act + " 1^");
        }
        day(1, "put 1^;");
        day(1, "put 1 1 ^1;");
        day(1, "put 1 ^holds 1;");
    }

    private static void theFirstWrongTokenTheLeastKind() {
        day(2, "walk ^bob; walk walk; sweep 9;");
        day(1, "walk ^walk; walk bob;");
        day(4, "put ^9 99; walk bob;");
        day(4, "sweep ^9");
        day(2, "walk ^bob");
    }

    private static void aDayIsTheDay() {
        LakeBins lake = Due.told(ANN + "yards 2; lies 0 4;");
        Due.due("three lines", Due.day(lake, "hour; hour; hour;"), 0);
        Due.due("lines", lake.count(9), 3);
        Due.due("one line in their place", Due.day(lake, "walk ann;"), 0);
        Due.due("one line", lake.count(9), 1);
        Due.due("a day does nothing", lake.lies() + lake.count(3) + lake.count(11), 4);
        lake.hour();
        lake.mark(0, false);
        Due.due("a day of none in its place", Due.day(lake, ""), 0);
        Due.due("no line", lake.count(9), 0);
        Due.due("again", Due.day(lake, "hour; hour;"), 0);
        lake.mark(0, true);
        Due.due("a mark does not hold it", lake.count(9), 2);
        lake.hour();
        lake.undo();
        Due.due("nor does undo", lake.count(9), 2);
        lake.hour();
        Due.due("a day", Due.day(lake, "hour;"), 0);
        Due.due("leaves what can be undone", lake.count(11), 1);
    }

    private static void withAFaultTheDayStays() {
        LakeBins lake = Due.told(ANN + "yards 2; lies 0 4;");
        judged(lake, "sweep 0; off 1; walk ann;", 1, 2, 2);
        for (String fault : new String[] {"?", "hour; hour; sweep 8;", "walk bob;", "hour;".repeat(41), "hour"}) {
            Due.due("it is a fault: " + fault, Due.day(lake, fault) > 0, true);
            Due.due("lines", lake.count(9), 3);
            Due.due("can't be", lake.judged(0), 1);
            Due.due("litters", lake.judged(1), 2);
            Due.due("lies", lake.judged(2), 2);
        }
    }

    private static void judgedWhat0To2() {
        LakeBins lake = Due.told(ANN + "lies 0 7;");
        judged(lake, "off 0;", 0, -1, 7);
        for (int what : Due.outside(0, 2)) {
            Due.due("judged " + what, lake.judged(what), -2);
        }
    }

    private static void noDayNoLine() {
        LakeBins lake = Due.told("lies 0 7; lies 5 3;");
        Due.due("no day, can't be", lake.judged(0), -1);
        Due.due("no day, litters", lake.judged(1), -1);
        Due.due("no day, lies", lake.judged(2), 10);
        judged(lake, "", -1, -1, 10);
        judged(new LakeBins(), "", -1, -1, 0);
    }

    private static void emptyAndOffWithoutABin() {
        LakeBins lake = Due.told("yards 3; bin 1 holds 2;");
        judged(lake, "empty 1;", -1, -1, 0);
        judged(lake, "empty 0;", 0, -1, 0);
        judged(lake, "empty 2;", 0, -1, 0);
        judged(lake, "off 1;", -1, -1, 0);
        judged(lake, "off 0;", 0, -1, 0);
        judged(lake, "off 2;", 0, -1, 0);
        judged(lake, "empty 1; empty 1; off 1; empty 1;", 3, -1, 0);
        judged(lake, "off 1; off 1;", 1, -1, 0);
        judged(lake, "put 0 1; empty 0; off 0; off 0;", 3, -1, 0);
    }

    private static void putWhereOneIs() {
        LakeBins lake = Due.told("yards 3; bin 1 holds 2;");
        judged(lake, "put 1 5;", 0, -1, 0);
        judged(lake, "put 0 5; put 2 5;", -1, -1, 0);
        judged(lake, "put 0 5; put 0 5;", 1, -1, 0);
        judged(lake, "off 1; put 1 5; put 1 5;", 2, -1, 0);
    }

    private static void anyAtAYardThatIsNotThere() {
        for (int yards = 2; yards < 8; yards++) {
            StringBuilder bins = new StringBuilder("yards " + yards + ";");
            for (int yard = 0; yard < 8; yard++) {
                bins.append("bin ").append(yard).append(" holds 1;");
            }
            int last = yards - 1;
            judged(Due.told(bins.toString()), "sweep " + last + "; empty " + last + "; off " + last + "; put " + last + " 1;", -1, -1, 0);
            for (String act : new String[] {"sweep ", "empty ", "off "}) {
                for (int yard = yards; yard < 8; yard++) {
                    judged(Due.told(bins.toString()), "hour; " + act + yard + ";", 1, -1, 0);
                }
            }
            for (int yard = yards; yard < 8; yard++) {
                judged(Due.told("yards " + yards + ";"), "hour; put " + yard + " 1;", 1, -1, 0);
            }
        }
        judged(Due.told("yards 8; bin 7 holds 1;"), "empty 7; sweep 7; off 7; put 7 1;", -1, -1, 0);
    }

    private static void theFirstLineThatCantBe() {
        judged(new LakeBins(), "off 0; off 0;", 0, -1, 0);
        judged(new LakeBins(), "hour; off 0; hour; off 0;", 1, -1, 0);
        judged(new LakeBins(), "hour;".repeat(38) + "off 0; empty 0;", 38, -1, 0);
        judged(new LakeBins(), "hour;".repeat(39) + "empty 0;", 39, -1, 0);
        judged(new LakeBins(), "hour;".repeat(40), -1, -1, 0);
    }

    private static void linesThatCantBeAreLeftOut() {
        LakeBins lake = Due.told(ANN + "yards 2; bin 0 holds 1;");
        judged(lake, "put 0 30; walk ann;", 0, 1, 2);
        judged(lake, "put 2 30; walk ann;", 0, 1, 2);
        judged(lake, "empty 1; sweep 2; off 3; put 4 4; walk ann; sweep 0;", 0, 4, 1);
        judged(lake, "off 0; put 0 3; walk ann;", -1, -1, 0);
    }

    private static void theFirstWalkByWhichSomethingIsDropped() {
        String two = "yards 2; person a plain carries 0 brings 1; person k child carries 9 brings 0; deposit 9;";
        judged(Due.told(two), "walk a; walk a;", -1, 0, 2);
        judged(Due.told(two), "walk k; walk a; walk a;", -1, 1, 2);
        judged(Due.told(two), "walk a; walk k;", -1, 0, 0);
        judged(Due.told(two), "walk k;", -1, -1, 0);
        judged(Due.told(two), "hour;".repeat(39) + "walk a;", -1, 39, 1);
        judged(Due.told(two + "bin 0 holds 1;"), "walk a; walk a;", -1, 1, 1);
        judged(Due.told(two + "bin 0 holds 1;"), "walk a;", -1, -1, 0);
        judged(Due.told(two + "bin 0 holds 1;"), "off 0; walk a; sweep 0;", -1, 1, 0);
        LakeBins both = Due.told("yards 2; person k child carries 9 brings 2; deposit 3; lies 0 8;");
        judged(both, "walk k;", -1, 0, 7);
        judged(Due.told("yards 2; person a plain carries 9 brings 9;"), "walk a;", -1, -1, 0);
        judged(Due.told("yards 2; person a plain carries 9 brings 9; lies 1 5;"), "walk a;", -1, 0, 14);
    }

    private static void whatLiesAtLastTogether() {
        LakeBins lake = Due.told("yards 8; lies 0 99; lies 7 99; winds 1 2;");
        judged(lake, "hour; hour; hour;", -1, -1, 198);
        judged(lake, "sweep 0;", -1, -1, 99);
        judged(lake, "hour; sweep 0;", -1, -1, 148);
        judged(lake, "sweep 0; sweep 7;", -1, -1, 0);
    }

    private static void fromTheBegin() {
        LakeBins lake = Due.told("yards 2; person a plain carries 9 brings 2; bin 0 holds 2; lies 0 10; winds 1 0; pence 3;");
        lake.walk(0);
        lake.hour();
        lake.sweep(0);
        lake.sweep(1);
        lake.put(1, 3);
        judged(lake, "hour; sweep 0;", -1, -1, 5);
        judged(lake, "walk a;", -1, -1, 10);
        judged(lake, "walk a; walk a;", -1, 1, 12);
        judged(lake, "put 1 3;", -1, -1, 10);
        judged(lake, "off 0; walk a;", -1, 1, 12);
        Due.counts("a judged day is not done", lake, 2, 1, 2, 1, 0, 0, 0, 0, 0, 2, 0, 5, 0);
        Due.due("nothing lies now", lake.lies(), 0);
        lake.undo();
        Due.due("undo leaves it", lake.judged(2), 12);
        lake.mark(0, false);
        lake.mark(0, true);
        Due.due("marks leave it", lake.judged(2), 12);
    }
}
