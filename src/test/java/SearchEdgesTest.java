import java.util.ArrayList;
import java.util.List;

/** The sentences on what is best, who was here, the mean and SUNDAYS that name a boundary (promises 20, 21, 26, 27, 31 to 35), a test for each. */
public final class SearchEdgesTest {
    /** Paths of all kinds; what is best there is tried by hand, call by call. */
    private static final String[] PATHS = {
        "yards 4; person a plain carries 0 brings 3; person b plain carries 1 brings 3; bin 3 holds 5;",
        "yards 5; person a plain carries 1 brings 4; person b tidy carries 0 brings 6; person c dog carries 3 brings 2; lies 0 3; lies 4 7; winds 1 2;",
        "yards 3; person k child carries 9 brings 2; person a plain carries 0 brings 5; person b dog carries 9 brings 4; deposit 3; lies 1 6; bin 0 holds 2; winds 2;",
        "yards 8; person a plain carries 2 brings 9; person b plain carries 3 brings 8; bin 1 holds 4; bin 6 holds 9; lies 2 4; winds 1;",
        "yards 2; person a plain carries 0 brings 9; person b plain carries 0 brings 9; bin 0 holds 4; bin 1 holds 4;",
        "yards 4; person a plain carries 0 brings 4; person k child carries 9 brings 1; person c plain carries 0 brings 2; takes has - near + 2; deposit 2; winds 1 1 2;",
        "yards 6; person a plain carries 9 brings 2; drops heap < 2; person b tidy carries 1 brings 4; bin 5 holds 6; lies 5 1; winds 2 0;",
        "yards 3; lies 0 5; bin 1 holds 3;",
        "yards 4; person a dog carries 0 brings 3; person b plain carries 0 brings 1; person c plain carries 1 brings 2; person k child carries 9 brings 0; deposit 4; bin 2 holds 3;"};

    public static void main(String[] args) {
        place0To4BinsThatHold1To30();
        placeAtYardsWithoutOneOrFewer();
        placeByHand();
        theLeastOfMuch();
        orderWhatNoneToTheLast();
        orderOfEqualOnesTheFirstRow();
        orderByHand();
        rounds1To6Hours0To6Times();
        roundsOfEqualOnesTheFewest();
        roundsByHand();
        moveNoneIsBetter();
        moveByHand();
        findMinus99To99();
        findALaterOneInPlaceOfTheElder();
        whoIfNothingIsFound();
        whoByAllThatIsFound();
        whoAsItIsWhenAsked();
        whoAndLookAtAllYards();
        lookNoneIfNonePartsThem();
        lookOfEqualOnesTheFirst();
        lookTheLeastOfTheGreatest();
        meanOdds0To10();
        meanInThousandthsCut();
        meanByHand();
        restsGetsAndLoses0To9();
        restsNoneSuch();
        Due.end();
    }

    private static void place0To4BinsThatHold1To30() {
        LakeBins lake = Due.told("yards 8; person a plain carries 0 brings 9; lies 0 5;");
        for (int bins : Due.outside(0, 4)) {
            Due.due("bins " + bins, lake.place(bins, 5, 0), -1);
            Due.due("bins " + bins, lake.place(bins, 5, 1), -1);
        }
        for (int holds : Due.outside(1, 30)) {
            Due.due("holds " + holds, lake.place(1, holds, 0), -1);
            Due.due("holds " + holds, lake.place(0, holds, 1), -1);
        }
        for (int what : Due.outside(0, 1)) {
            Due.due("what " + what, lake.place(1, 5, what), -1);
        }
        for (int bins = 0; bins <= 4; bins++) {
            Due.due("by " + bins + " bins of 1", lake.place(bins, 1, 0), bins == 0 ? 14 : 13);
            Due.due("at, by " + bins + " bins of 1", lake.place(bins, 1, 1), bins == 0 ? 0 : 1);
        }
        for (int holds = 1; holds <= 30; holds++) {
            Due.due("one that holds " + holds, lake.place(1, holds, 0), 14 - Math.min(9, holds));
        }
        lake = Due.told("yards 8; person a plain carries 0 brings 9; drops 0 < has;");
        for (int bins = 0; bins <= 4; bins++) {
            Due.due("many bins of 1, " + bins, lake.place(bins, 1, 0), bins == 0 ? 8 : 9 - bins);
        }
    }

    /** As much as a run of calls can heap up at two yards: the least of much is found as well. */
    private static void theLeastOfMuch() {
        LakeBins lake = Due.told("yards 2; person a plain carries 0 brings 9; drops has; lies 0 99; winds 1;");
        for (int i = 0; i < 100; i++) {
            lake.walk(0);
        }
        lake.hour();
        for (int i = 0; i < 56; i++) {
            lake.walk(0);
        }
        lake.hour();
        for (int i = 0; i < 56; i++) {
            lake.walk(0);
        }
        Due.due("much lies", lake.lies(), 999 + 998);
        Due.due("by place", lake.place(0, 1, 0), 999 + 998);
        Due.due("by place with bins", lake.place(4, 1, 1), 0);
        Due.due("by order", lake.order(-1), 999 + 998);
        Due.due("the only row", lake.order(0), 0);
        Due.due("by rounds", lake.rounds(1, 1, 0), 500 + 999);
        Due.due("when", lake.rounds(6, 6, 1), 0);
        Due.due("no move", lake.move(), -1);
        Due.due("mean", lake.mean(5), 1997000);
    }

    private static void placeAtYardsWithoutOneOrFewer() {
        LakeBins lake = Due.told("yards 2; person a plain carries 0 brings 9; bin 0 holds 1; lies 1 5;");
        Due.due("only yard 1", lake.place(4, 30, 1), 2);
        Due.due("what lies then", lake.place(4, 30, 0), 6);
        lake.put(1, 1);
        Due.due("no yard is left", lake.place(4, 30, 1), 0);
        Due.due("as it is", lake.place(4, 30, 0), lake.all());
        lake = Due.told("yards 2; person a plain carries 9 brings 9;");
        Due.due("none is better: none", lake.place(4, 30, 1), 0);
        Due.due("nobody", Due.told("lies 0 3;").place(4, 30, 1), 0);
        Due.due("nobody, what lies", Due.told("lies 0 3;").place(4, 30, 0), 3);
        lake = Due.told("yards 8; person a plain carries 9 brings 1; lies 3 5;");
        Due.due("of equal ones the least set", lake.place(3, 1, 1), 1);
        lake = Due.told("yards 3; person a plain carries 9 brings 2; lies 2 5;");
        Due.due("two of 1", lake.place(4, 1, 1), 3);
        Due.due("one of 2", lake.place(4, 2, 1), 1);
        lake.walk(0);
        Due.due("as it is now", lake.place(0, 2, 0), 9);
        Due.due("nothing is put", lake.count(2), 0);
    }

    private static int liesWith(String path, int set, int holds) {
        LakeBins lake = Due.told(path);
        for (int yard = 0; yard < 8; yard++) {
            if ((set >> yard & 1) == 1 && !lake.put(yard, holds)) {
                return Integer.MAX_VALUE;
            }
        }
        for (int person = 0; person < lake.count(1); person++) {
            lake.walk(person);
        }
        return lake.lies();
    }

    private static boolean isBetter(int lies, int set, int least, int best) {
        int fewer = Integer.bitCount(set) - Integer.bitCount(best);
        return lies < least || lies == least && (fewer < 0 || fewer == 0 && set < best);
    }

    private static void placeByHand() {
        for (String path : PATHS) {
            for (int bins = 0; bins <= 4; bins++) {
                for (int holds : new int[] {1, 2, 5, 30}) {
                    int least = Integer.MAX_VALUE;
                    int best = 0;
                    for (int set = 255; set >= 0; set--) {
                        int lies = Integer.bitCount(set) <= bins ? liesWith(path, set, holds) : Integer.MAX_VALUE;
                        if (lies != Integer.MAX_VALUE && isBetter(lies, set, least, best)) {
                            least = lies;
                            best = set;
                        }
                    }
                    LakeBins lake = Due.told(path);
                    Due.due("place " + bins + " " + holds + ": " + path, lake.place(bins, holds, 0), least);
                    Due.due("place at " + bins + " " + holds + ": " + path, lake.place(bins, holds, 1), best);
                }
            }
        }
    }

    private static void orderWhatNoneToTheLast() {
        StringBuilder text = new StringBuilder("yards 2;");
        for (int people = 0; people <= 6; people++) {
            LakeBins lake = Due.told(text.toString());
            Due.due("lies by " + people, lake.order(-1), people);
            for (int i = 0; i < people; i++) {
                Due.due("who is " + i + " of " + people, lake.order(i), i);
            }
            for (int what : Due.outside(-1, people - 1)) {
                Due.due("order " + what + " of " + people, lake.order(what), -2);
            }
            text.append("person ").append((char) ('a' + people)).append(" plain carries 0 brings 1;");
        }
    }

    private static void orderOfEqualOnesTheFirstRow() {
        LakeBins lake = Due.told("yards 2; person k child carries 9 brings 0; person a plain carries 0 brings 1; person b plain carries 0 brings 1;"
            + "person c plain carries 0 brings 1; deposit 3;");
        int[] want = {1, 2, 3, 0};
        for (int i = 0; i < 4; i++) {
            Due.due("the child last, " + i, lake.order(i), want[i]);
        }
        lake = Due.told("yards 2; person a plain carries 0 brings 1; person k child carries 9 brings 0; person b plain carries 9 brings 0; deposit 3;");
        int[] first = {0, 1, 2};
        for (int i = 0; i < 3; i++) {
            Due.due("the first row of all", lake.order(i), first[i]);
        }
        Due.due("nothing is done", lake.lies() + lake.count(11), 0);
    }

    private static void rows(int people, List<Integer> row, List<List<Integer>> all) {
        if (row.size() == people) {
            all.add(new ArrayList<>(row));
        }
        for (int person = 0; person < people; person++) {
            if (!row.contains(person)) {
                row.add(person);
                rows(people, row, all);
                row.remove(row.size() - 1);
            }
        }
    }

    private static void orderByHand() {
        for (String path : PATHS) {
            LakeBins asked = Due.told(path);
            List<List<Integer>> all = new ArrayList<>();
            rows(asked.count(1), new ArrayList<>(), all);
            int least = Integer.MAX_VALUE;
            List<Integer> best = null;
            for (List<Integer> row : all) {
                LakeBins lake = Due.told(path);
                for (int person : row) {
                    lake.walk(person);
                }
                if (lake.lies() < least) {
                    least = lake.lies();
                    best = row;
                }
            }
            Due.due("order: " + path, asked.order(-1), least);
            for (int i = 0; best != null && i < best.size(); i++) {
                Due.due("order " + i + ": " + path, asked.order(i), best.get(i));
            }
        }
    }

    private static void rounds1To6Hours0To6Times() {
        LakeBins lake = Due.told("yards 2; person a plain carries 0 brings 3; bin 0 holds 3;");
        for (int hours : Due.outside(1, 6)) {
            Due.due("hours " + hours, lake.rounds(hours, 1, 0), -1);
        }
        for (int times : Due.outside(0, 6)) {
            Due.due("times " + times, lake.rounds(1, times, 0), -1);
            Due.due("times " + times, lake.rounds(6, times, 1), -1);
        }
        for (int what : Due.outside(0, 1)) {
            Due.due("what " + what, lake.rounds(1, 1, what), -1);
        }
        for (int hours = 1; hours <= 6; hours++) {
            for (int times = 0; times <= 6; times++) {
                int full = Math.max(0, hours - 1 - times);
                int lies = full == 0 ? 0 : full == 1 ? 2 : full == 2 ? 4 : full == 3 ? 6 : full == 4 ? 8 : 10;
                Due.due("rounds " + hours + " " + times, lake.rounds(hours, times, 0), lies);
            }
        }
        Due.due("all but the first of six", lake.rounds(6, 5, 1), 62);
        Due.due("six times are no more than five", lake.rounds(6, 6, 1), 62);
        Due.due("one hour", lake.rounds(1, 6, 1), 0);
        Due.due("never", lake.rounds(6, 0, 1), 0);
        Due.due("nothing is paid", lake.count(7) + lake.count(3), 0);
    }

    private static void roundsOfEqualOnesTheFewest() {
        LakeBins lake = Due.told("yards 2; person a plain carries 0 brings 1; bin 0 holds 2;");
        Due.due("once in three hours: the least set", lake.rounds(3, 3, 1), 2);
        Due.due("once in four hours", lake.rounds(4, 4, 1), 4);
        Due.due("twice in five hours", lake.rounds(5, 6, 1), 10);
        Due.due("nothing lies", lake.rounds(5, 2, 0), 0);
        Due.due("no bins", Due.told("person a plain carries 0 brings 1;").rounds(6, 6, 1), 0);
        Due.due("nobody", Due.told("bin 0 holds 1; lies 0 3;").rounds(6, 6, 1), 0);
        lake = Due.told("yards 2; person a plain carries 9 brings 1; bin 0 holds 1; lies 1 5;");
        lake.walk(0);
        Due.due("full from the first hour on", lake.rounds(2, 1, 1), 1);
        Due.due("both hours", lake.rounds(2, 2, 1), 3);
    }

    private static int liesByRounds(String path, int hours, int set) {
        LakeBins lake = Due.told(path);
        for (int hour = 0; hour < hours; hour++) {
            for (int yard = 0; yard < 8 && (set >> hour & 1) == 1; yard++) {
                lake.empty(yard);
            }
            for (int person = 0; person < lake.count(1); person++) {
                lake.walk(person);
            }
            lake.hour();
        }
        return lake.lies();
    }

    private static void roundsByHand() {
        for (String path : PATHS) {
            for (int hours = 1; hours <= 6; hours++) {
                for (int times : new int[] {0, 1, 2, 6}) {
                    int least = Integer.MAX_VALUE;
                    int best = 0;
                    for (int set = (1 << hours) - 1; set >= 0; set--) {
                        int lies = Integer.bitCount(set) <= times ? liesByRounds(path, hours, set) : Integer.MAX_VALUE;
                        if (lies != Integer.MAX_VALUE && isBetter(lies, set, least, best)) {
                            least = lies;
                            best = set;
                        }
                    }
                    LakeBins lake = Due.told(path);
                    Due.due("rounds " + hours + " " + times + ": " + path, lake.rounds(hours, times, 0), least);
                    Due.due("rounds when " + hours + " " + times + ": " + path, lake.rounds(hours, times, 1), best);
                }
            }
        }
    }

    private static void moveNoneIsBetter() {
        Due.due("no bin", Due.told("person a plain carries 0 brings 1;").move(), -1);
        Due.due("nobody", Due.told("bin 0 holds 1; lies 0 1;").move(), -1);
        Due.due("no yard is left", Due.told("yards 2; person a plain carries 0 brings 9; bin 0 holds 1; bin 1 holds 9;").move(), -1);
        LakeBins lake = Due.told("yards 8; person a plain carries 9 brings 3; bin 3 holds 3; lies 5 5;");
        Due.due("as good elsewhere is not better", lake.move(), -1);
        lake.walk(0);
        Due.due("a full one is empty elsewhere: the first yard", lake.move(), 8 * 3 + 0);
        lake = Due.told("yards 8; person a plain carries 0 brings 3; bin 7 holds 30;");
        Due.due("from the last to the first", lake.move(), 8 * 7 + 0);
        lake = Due.told("yards 8; person a plain carries 9 brings 2; lies 6 5; bin 0 holds 1; bin 7 holds 1;");
        Due.due("from the last, ahead of the heap", lake.move(), 8 * 7 + 1);
        Due.due("it is not moved", lake.yard(7, 1), 1);
        lake = Due.told("yards 2; person a plain carries 9 brings 1; lies 1 5; bin 0 holds 1;");
        lake.walk(0);
        Due.due("from the first to the last", lake.move(), 8 * 0 + 1);
    }

    private static int liesByMove(String path, boolean walked, int from, int to) {
        LakeBins lake = Due.told(path);
        if (walked && lake.count(1) > 0) {
            lake.walk(0);
        }
        if (from != to) {
            int holds = lake.yard(from, 1);
            if (lake.off(from) < 0 || lake.yard(to, 1) != 0 || !lake.put(to, holds)) {
                return Integer.MAX_VALUE;
            }
        }
        for (int person = 0; person < lake.count(1); person++) {
            lake.walk(person);
        }
        return lake.lies();
    }

    private static void moveByHand() {
        for (String path : PATHS) {
            for (int walked = 0; walked < 2; walked++) {
                int least = liesByMove(path, walked == 1, 0, 0);
                int best = -1;
                for (int move = 0; move < 64; move++) {
                    int lies = move / 8 == move % 8 ? Integer.MAX_VALUE : liesByMove(path, walked == 1, move / 8, move % 8);
                    if (lies < least) {
                        least = lies;
                        best = move;
                    }
                }
                LakeBins lake = Due.told(path);
                if (walked == 1 && lake.count(1) > 0) {
                    lake.walk(0);
                }
                Due.due("move: " + path, lake.move(), best);
            }
        }
    }

    private static void findMinus99To99() {
        for (int yards = 2; yards <= 8; yards++) {
            LakeBins lake = Due.told("yards " + yards + ";");
            for (int yard : Due.outside(0, yards - 1)) {
                Due.due("find at " + yard, lake.find(yard, 0), false);
            }
            for (int more : Due.outside(-99, 99)) {
                Due.due("find " + more, lake.find(0, more), false);
            }
            Due.due("nothing is found", lake.count(10), 0);
            for (int more : new int[] {-99, -98, -1, 0, 1, 98, 99}) {
                Due.due("find " + more, lake.find(0, more), true);
                Due.due("find at the last " + more, lake.find(yards - 1, more), true);
            }
            Due.due("at two yards", lake.count(10), 2);
        }
    }

    private static void findALaterOneInPlaceOfTheElder() {
        LakeBins lake = Due.told("yards 2; person a plain carries 0 brings 1; person b plain carries 0 brings 0;");
        lake.find(0, 1);
        Due.due("a", lake.who(), 1);
        lake.find(0, 0);
        Due.due("b", lake.who(), 2);
        Due.due("one yard", lake.count(10), 1);
        lake.find(0, 100);
        Due.due("a refused one changes nothing", lake.who(), 2);
        for (int yard = 0; yard < 2; yard++) {
            lake.find(yard, 0);
        }
        Due.due("two yards", lake.count(10), 2);
    }

    private static void whoIfNothingIsFound() {
        StringBuilder text = new StringBuilder("yards 2;");
        for (int people = 0; people <= 6; people++) {
            Due.due("all of " + people, Due.told(text.toString()).who(), (1 << people) - 1);
            text.append("person ").append((char) ('a' + people)).append(" plain carries 0 brings ").append(people).append(";");
        }
    }

    private static void whoByAllThatIsFound() {
        LakeBins lake = Due.told("yards 3; person a plain carries 0 brings 1; person b plain carries 0 brings 2; person c plain carries 0 brings 3;"
            + "person k child carries 9 brings 0; deposit 9; lies 2 4;");
        lake.find(0, 1);
        Due.due("a, b, c", lake.who(), 7);
        lake.find(1, 1);
        Due.due("b, c", lake.who(), 6);
        lake.find(2, 1);
        Due.due("c", lake.who(), 4);
        lake.find(2, -4);
        Due.due("nobody", lake.who(), 0);
        lake.find(0, 0);
        lake.find(1, 0);
        Due.due("k", lake.who(), 8);
        Due.due("nobody is told", new LakeBins().who(), 0);
        LakeBins none = new LakeBins();
        none.find(5, 0);
        Due.due("nobody is told, none found", none.who(), 0);
    }

    private static void whoAndLookAtAllYards() {
        for (int yards = 2; yards <= 8; yards++) {
            int last = yards - 1;
            LakeBins lake = Due.told("yards " + yards + "; person a dog carries 0 brings 1; person b dog carries 0 brings 2;"
                + "person c plain carries 9 brings 0; lies " + last + " 1;");
            Due.due("all of them at " + yards, lake.who(), 7);
            Due.due("the last yard parts them", lake.look(), last);
            lake.find(last, 2);
            Due.due("b by the last yard", lake.who(), 2);
            lake.find(0, 2);
            Due.due("nobody leaves two twice", lake.who(), 0);
            lake = Due.told("yards " + yards + "; person a plain carries 9 brings 0; person b plain carries 9 brings 0;");
            Due.due("no yard parts them", lake.look(), -1);
            for (int yard = 0; yard < yards; yard++) {
                lake.find(yard, 0);
            }
            Due.due("found at each yard", lake.count(10), yards);
            Due.due("both", lake.who(), 3);
        }
    }

    private static void whoAsItIsWhenAsked() {
        LakeBins lake = Due.told("yards 2; person a dog carries 0 brings 3;");
        lake.find(0, 3);
        Due.due("no heap yet", lake.who(), 0);
        Due.due("path with a heap", Due.path(lake, "yards 2; person a dog carries 0 brings 3; lies 0 1;"), 0);
        Due.due("a path knows of nothing found", lake.count(10), 0);
        lake.find(0, 3);
        Due.due("a heap", lake.who(), 1);
        lake.sweep(0);
        Due.due("swept", lake.who(), 0);
        lake.undo();
        Due.due("undone", lake.who(), 1);
    }

    private static void lookNoneIfNonePartsThem() {
        Due.due("nobody", new LakeBins().look(), -1);
        Due.due("one alone", Due.told("person a plain carries 0 brings 1;").look(), -1);
        Due.due("two alike", Due.told("person a plain carries 0 brings 1; person b plain carries 1 brings 1;").look(), -1);
        LakeBins lake = Due.told("person a plain carries 0 brings 1; person b plain carries 0 brings 0; person c plain carries 0 brings 0;");
        Due.due("three, two alike", lake.look(), 0);
        lake.find(0, 0);
        Due.due("the two alike", lake.look(), -1);
        lake.find(0, 1);
        Due.due("one is left", lake.look(), -1);
        lake.find(0, 2);
        Due.due("none is left", lake.look(), -1);
    }

    private static void lookOfEqualOnesTheFirst() {
        LakeBins lake = Due.told("yards 4; person a plain carries 0 brings 0; person b plain carries 0 brings 4;");
        Due.due("each yard parts them", lake.look(), 0);
        lake.find(0, 1);
        Due.due("b alone", lake.look(), -1);
        lake = Due.told("yards 4; person a plain carries 0 brings 1; person b plain carries 0 brings 4;");
        Due.due("1, 2 and 3 part them", lake.look(), 1);
        lake = Due.told("yards 4; person a plain carries 0 brings 3; person b plain carries 0 brings 4;");
        Due.due("the last one parts them", lake.look(), 3);
    }

    private static void lookTheLeastOfTheGreatest() {
        LakeBins lake = Due.told("yards 4; person a plain carries 0 brings 0; person b plain carries 0 brings 1; person c plain carries 0 brings 2;"
            + "person d plain carries 0 brings 3; person e plain carries 0 brings 4; person f plain carries 0 brings 4;");
        Due.due("1 and 5, 2 and 4, 3 and 3, 4 and 2", lake.look(), 2);
        lake.find(0, 1);
        Due.due("1 and 4, 2 and 3, 3 and 2: of equal ones the first", lake.look(), 2);
        lake.find(2, 1);
        Due.due("d or e, f", lake.look(), 3);
        lake = Due.told("yards 2; person a dog carries 0 brings 1; person b dog carries 0 brings 2; person c dog carries 0 brings 3; lies 1 1;");
        Due.due("three ways", lake.look(), 1);
    }

    private static void meanOdds0To10() {
        LakeBins lake = Due.told("yards 2; person a plain carries 0 brings 1; lies 1 3;");
        for (int odds : Due.outside(0, 10)) {
            Due.due("odds " + odds, lake.mean(odds), -1);
        }
        for (int odds = 0; odds <= 10; odds++) {
            Due.due("odds " + odds, lake.mean(odds), 3000 + 100 * odds);
        }
        Due.due("nobody comes: what lies", lake.mean(0), 1000 * lake.lies());
        Due.due("all come", lake.mean(10), 1000 * lake.all());
        Due.due("nobody, nothing", new LakeBins().mean(5), 0);
        StringBuilder people = new StringBuilder("yards 2;");
        for (int count = 1; count <= 6; count++) {
            people.append("person ").append((char) ('a' + count)).append(" plain carries 0 brings 1;");
            for (int odds = 0; odds <= 10; odds++) {
                Due.due(count + " people by " + odds, Due.told(people.toString()).mean(odds), 100 * odds * count);
            }
        }
        Due.due("nobody", Due.told("lies 0 99;").mean(10), 99000);
    }

    private static void meanInThousandthsCut() {
        String people = "";
        long none = 1;
        long all = 1;
        for (int count = 1; count <= 6; count++) {
            people += "person " + (char) ('a' + count) + " plain carries 0 brings 1;";
            none *= 9;
            all *= 10;
            LakeBins lake = Due.told("yards 2; drops (heap = 0) * (near = 9);" + people + "lies 1 1;");
            Due.due("one lies if one of " + count + " comes", lake.mean(1), (2 * all - none) * 1000 / all);
        }
        LakeBins lake = Due.told("yards 8; person a plain carries 0 brings 9; person b plain carries 0 brings 9; drops has; lies 0 99; lies 1 99;");
        for (int i = 0; i < 100; i++) {
            lake.walk(0);
        }
        Due.due("much", lake.mean(5), 1098000);
    }

    private static void meanByHand() {
        for (String path : PATHS) {
            LakeBins asked = Due.told(path);
            int people = asked.count(1);
            for (int odds = 0; odds <= 10; odds++) {
                long sum = 0;
                long all = 1;
                for (int set = 0; set < 1 << people; set++) {
                    LakeBins lake = Due.told(path);
                    long weight = 1;
                    for (int person = 0; person < people; person++) {
                        boolean comes = (set >> person & 1) == 1;
                        weight *= comes ? odds : 10 - odds;
                        if (comes) {
                            lake.walk(person);
                        }
                    }
                    sum += weight * lake.lies();
                }
                for (int person = 0; person < people; person++) {
                    all *= 10;
                }
                Due.due("mean " + odds + ": " + path, asked.mean(odds), sum * 1000 / all);
            }
        }
    }

    /** Both stay: neither may want to sweep; one sweeps: he may not want to stay, the other not to sweep; both: neither to stay. */
    private static boolean isAtRest(int gets, int loses, int choices) {
        boolean sweepsAlone = gets >= loses;
        boolean staysAlone = gets <= loses;
        boolean joins = loses / 2 == 0;
        return choices == 0 ? staysAlone : choices == 3 ? joins : sweepsAlone;
    }

    private static void restsGetsAndLoses0To9() {
        LakeBins lake = new LakeBins();
        int calls = 0;
        for (int gets = 0; gets <= 9; gets++) {
            for (int loses = 0; loses <= 9; loses++) {
                lake = ++calls % 50 == 0 ? new LakeBins() : lake;
                int found = 0;
                for (int choices = 0; choices < 4; choices++) {
                    if (isAtRest(gets, loses, choices)) {
                        Due.due("rests " + gets + " " + loses + " " + found, Due.rests(lake, gets, loses, found), choices);
                        found++;
                    }
                }
                Due.due("rests " + gets + " " + loses, Due.rests(lake, gets, loses, -1), found);
                Due.due("rests " + gets + " " + loses + " " + found, Due.rests(lake, gets, loses, found), -99);
            }
        }
    }

    private static void restsNoneSuch() {
        LakeBins lake = new LakeBins();
        for (int number : Due.outside(0, 9)) {
            Due.due("gets " + number, Due.rests(lake, number, 0, -1), -99);
            Due.due("loses " + number, Due.rests(lake, 0, number, -1), -99);
            Due.due("gets " + number, Due.rests(lake, number, 9, 0), -99);
            Due.due("loses " + number, Due.rests(lake, 9, number, 0), -99);
        }
        for (int what : Due.outside(-1, 3)) {
            Due.due("what " + what, Due.rests(lake, 0, 0, what), -99);
        }
        Due.due("the fourth of four", Due.rests(lake, 0, 0, 3), 3);
        Due.due("none but one", Due.rests(lake, 2, 5, 1), -99);
        Due.counts("nothing is changed", lake, 6, 0, 0, 0, 0, 0, 0, 0, 0, 0, 0, 0, 0);
    }
}
