import java.util.Arrays;

/** The sentences on a WALK and on an HOUR that name a boundary (promises 10 and 15, section 2), a test for each. */
public final class WalkEdgesTest {
    public static void main(String[] args) {
        heGoesFromYard0OnYardByYard();
        aChildTakesUpAsManyAsTheDepositIs();
        allIfThereAreFewer();
        onlyAChildOnlyByADeposit();
        takenUpAheadOfTheBinAndTheDrop();
        aBinThatIsNotFullAsFarAsItHoldsIt();
        aFullBinTakesNothing();
        ofWhatHeHasThenHeDrops();
        behindTheLastYardItGoesHome();
        allIfHeapIsAbove4TidyAbove9();
        oneIfNearIsMoreThanHeCarries();
        oneIfHeHasSome();
        aDogsAllIfHeapIsAbove0();
        anHoursWindNoneOnBack();
        halfCut();
        theLastOneKeepsByOnAndYard0ByBack();
        allAtOnce();
        at999ByWalks();
        at999ByTheWindBack();
        at999ByTheWindOn();
        thenItIsTheNextHour();
        Due.end();
    }

    private static void heGoesFromYard0OnYardByYard() {
        for (int yards = 2; yards <= 8; yards++) {
            LakeBins lake = Due.told("yards " + yards + "; person a plain carries 9 brings 9; drops 1;");
            for (int yard = 0; yard < 8; yard++) {
                Due.due("one at each of " + yards + ", yard " + yard, lake.leaves(0, yard), yard < yards ? 1 : 0);
            }
            Due.due("the others home", lake.walk(0), 9 - yards);
        }
        LakeBins lake = Due.told("yards 3; person a plain carries 9 brings 9; bin 0 holds 2; bin 1 holds 3; bin 2 holds 5;");
        Due.due("none home", lake.walk(0), 0);
        Due.due("the first bin first", lake.yard(0, 2), 2);
        Due.due("the next one then", lake.yard(1, 2), 3);
        Due.due("the last one last", lake.yard(2, 2), 4);
    }

    private static void aChildTakesUpAsManyAsTheDepositIs() {
        for (int deposit = 0; deposit <= 9; deposit++) {
            for (int heap = 0; heap <= 11; heap++) {
                LakeBins lake = Due.told("yards 2; person k child carries 9 brings 0; lies 1 " + heap + "; deposit " + deposit + ";");
                int up = Math.min(deposit, heap);
                Due.due("nothing goes home", lake.walk(0), 0);
                Due.due("left of " + heap + " by " + deposit, lake.yard(1, 0), heap - up);
                Due.due("redeemed of " + heap + " by " + deposit, lake.count(6), up);
            }
        }
    }

    private static void allIfThereAreFewer() {
        LakeBins lake = Due.told("yards 4; person k child carries 9 brings 0; lies 0 2; lies 1 3; lies 2 4; deposit 3;");
        Due.due("redeemed at all yards", lake.leaves(0, 11), 2 + 3 + 3);
        lake.walk(0);
        Due.lying("fewer, as many, more", lake, 0, 0, 1, 0);
        lake.walk(0);
        Due.due("redeemed by both", lake.count(6), 9);
        lake.walk(0);
        Due.due("nothing lies: none", lake.count(6), 9);
    }

    private static void onlyAChildOnlyByADeposit() {
        for (String kind : new String[] {"plain", "tidy", "dog"}) {
            LakeBins lake = Due.told("yards 2; person a " + kind + " carries 9 brings 0; lies 0 9; deposit 9;");
            lake.walk(0);
            Due.due(kind + " takes up none", lake.yard(0, 0), 9);
            Due.due(kind + " redeems none", lake.count(6), 0);
        }
        LakeBins lake = Due.told("yards 2; person k child carries 9 brings 0; lies 0 9; deposit 0;");
        lake.walk(0);
        Due.due("without a deposit", lake.yard(0, 0), 9);
    }

    private static void takenUpAheadOfTheBinAndTheDrop() {
        String child = "yards 2; person k child carries 9 brings 4; deposit 2;";
        LakeBins lake = Due.told(child + "lies 0 6;");
        Due.due("four are left: none draws", lake.leaves(0, 0), -2);
        lake = Due.told(child + "lies 0 7;");
        Due.due("five are left: all are dropped", lake.leaves(0, 0), -2 + 4);
        lake = Due.told(child + "lies 0 7; bin 0 holds 3;");
        Due.due("what is taken up goes into no bin", lake.leaves(0, 10), 3);
        Due.due("nor home", lake.leaves(0, 9), 0);
        Due.due("one is dropped", lake.leaves(0, 0), -2 + 1);
    }

    private static void aBinThatIsNotFullAsFarAsItHoldsIt() {
        for (int has = 0; has <= 9; has++) {
            for (int holds = 1; holds <= 11; holds++) {
                LakeBins lake = Due.told("yards 2; person a plain carries 9 brings " + has + "; bin 1 holds " + holds + ";");
                int first = Math.min(has, holds);
                int second = Math.min(has, holds - first);
                Due.due(has + " into " + holds + ", home", lake.walk(0), has - first);
                Due.due(has + " into " + holds, lake.yard(1, 2), first);
                Due.due("space", lake.space(), holds - first);
                Due.due(has + " more into " + holds + ", home", lake.walk(0), has - second);
                Due.due(has + " more into " + holds, lake.yard(1, 2), first + second);
            }
        }
    }

    private static void aFullBinTakesNothing() {
        LakeBins lake = Due.told("yards 2; person a plain carries 9 brings 9; bin 0 holds 30;");
        int[] inside = {9, 18, 27, 30, 30};
        int[] home = {0, 0, 0, 6, 9};
        for (int walk = 0; walk < 5; walk++) {
            Due.due("home of walk " + walk, lake.walk(0), home[walk]);
            Due.due("in it behind walk " + walk, lake.yard(0, 2), inside[walk]);
        }
        Due.due("home together", lake.count(5), 15);
        Due.due("no space", lake.space(), 0);
        Due.due("none more", lake.leaves(0, 10), 0);
    }

    private static void ofWhatHeHasThenHeDrops() {
        LakeBins lake = Due.told("yards 2; person a plain carries 0 brings 5; lies 0 5; bin 0 holds 4;");
        Due.due("one is left of five", lake.leaves(0, 0), 1);
        lake = Due.told("yards 2; person a plain carries 0 brings 5; lies 0 5; bin 0 holds 5;");
        Due.due("none is left of five", lake.leaves(0, 0), 0);
        lake = Due.told("yards 2; person a plain carries 0 brings 5; lies 0 5; bin 0 holds 6;");
        Due.due("none is left of five, by a larger one", lake.leaves(0, 0), 0);
    }

    private static void behindTheLastYardItGoesHome() {
        LakeBins lake = Due.told("yards 2; person a plain carries 9 brings 9; person b plain carries 9 brings 0; person c dog carries 0 brings 9;");
        Due.due("all", lake.walk(0), 9);
        Due.due("none", lake.walk(1), 0);
        Due.due("home", lake.count(5), 9);
        lake = Due.told("yards 2; person c dog carries 0 brings 9; lies 1 1;");
        Due.due("dropped at the last yard", lake.walk(0), 0);
        Due.due("home", lake.count(5), 0);
        Due.due("there", lake.yard(1, 0), 10);
    }

    /** What one drops at yard 0, where a heap lies; the next bin is at a yard, or there is none (9). */
    private static int drops(String kind, int carries, int brings, int heap, int near) {
        return Due.told("yards 8; person p " + kind + " carries " + carries + " brings " + brings + "; lies 0 " + heap + ";"
            + (near < 9 ? "bin " + near + " holds 30;" : "")).leaves(0, 0);
    }

    private static void allIfHeapIsAbove4TidyAbove9() {
        for (int heap = 0; heap <= 99; heap++) {
            for (int brings = 0; brings <= 9; brings += 3) {
                String which = " of " + brings + " by a heap of " + heap;
                Due.due("plain drops" + which, drops("plain", 9, brings, heap, 9), heap > 4 ? brings : 0);
                Due.due("child drops" + which, drops("child", 9, brings, heap, 9), heap > 4 ? brings : 0);
                Due.due("tidy drops" + which, drops("tidy", 9, brings, heap, 9), heap > 9 ? brings : 0);
            }
        }
    }

    private static void oneIfNearIsMoreThanHeCarries() {
        for (int carries = 0; carries <= 9; carries++) {
            for (int near : new int[] {1, 2, 3, 4, 5, 6, 7, 9}) {
                String which = ", carries " + carries + ", near " + near;
                Due.due("plain" + which, drops("plain", carries, 4, 4, near), near > carries ? 1 : 0);
                Due.due("child" + which, drops("child", carries, 4, 4, near), near > carries ? 1 : 0);
                Due.due("tidy" + which, drops("tidy", carries, 4, 9, near), near > carries + 2 ? 1 : 0);
                Due.due("dog" + which, drops("dog", carries, 4, 0, near), 0);
            }
        }
        Due.due("all ahead of one", drops("plain", 0, 4, 5, 9), 4);
        Due.due("all ahead of one, tidy", drops("tidy", 0, 4, 10, 9), 4);
    }

    private static void oneIfHeHasSome() {
        for (String kind : new String[] {"plain", "tidy", "child"}) {
            Due.due(kind + " has none", drops(kind, 0, 0, 0, 9), 0);
            Due.due(kind + " has one", drops(kind, 0, 1, 0, 9), 1);
            Due.due(kind + " has two", drops(kind, 0, 2, 0, 9), 1);
        }
        LakeBins lake = Due.told("yards 8; person a plain carries 0 brings 3;");
        lake.walk(0);
        Due.lying("one at each till he has none", lake, 1, 1, 1, 0, 0, 0, 0, 0);
    }

    private static void aDogsAllIfHeapIsAbove0() {
        for (int heap = 0; heap <= 12; heap++) {
            for (int brings = 0; brings <= 9; brings++) {
                Due.due("a dog's " + brings + " by " + heap, drops("dog", 0, brings, heap, 9), heap > 0 ? brings : 0);
            }
        }
    }

    private static void anHoursWindNoneOnBack() {
        LakeBins lake = Due.told("yards 3; lies 0 4; lies 1 8; lies 2 2; winds 0 1 2;");
        Due.due("none", lake.hour(), 0);
        Due.lying("none", lake, 4, 8, 2);
        Due.due("on", lake.hour(), 1);
        Due.lying("on", lake, 2, 6, 6);
        Due.due("back", lake.hour(), 2);
        Due.lying("back", lake, 5, 6, 3);
        Due.due("none again", lake.hour(), 0);
        Due.lying("none again", lake, 5, 6, 3);
    }

    private static void halfCut() {
        for (int heap = 0; heap <= 99; heap++) {
            LakeBins on = Due.told("yards 2; lies 0 " + heap + "; winds 1;");
            on.hour();
            Due.lying("on, half of " + heap, on, heap - heap / 2, heap / 2);
            LakeBins back = Due.told("yards 2; lies 1 " + heap + "; winds 2;");
            back.hour();
            Due.lying("back, half of " + heap, back, heap / 2, heap - heap / 2);
        }
    }

    private static void theLastOneKeepsByOnAndYard0ByBack() {
        for (int yards = 2; yards <= 8; yards++) {
            LakeBins on = Due.told("yards " + yards + "; lies " + (yards - 1) + " 9; winds 1;");
            on.hour();
            Due.due("the last of " + yards, on.yard(yards - 1, 0), 9);
            LakeBins back = Due.told("yards " + yards + "; lies 0 9; winds 2;");
            back.hour();
            Due.due("the first of " + yards, back.yard(0, 0), 9);
            on = Due.told("yards " + yards + "; lies " + (yards - 2) + " 9; winds 1;");
            on.hour();
            Due.due("the one ahead of the last of " + yards, on.yard(yards - 2, 0), 5);
            back = Due.told("yards " + yards + "; lies 1 9; winds 2;");
            back.hour();
            Due.due("the one behind the first of " + yards, back.yard(1, 0), 5);
        }
    }

    private static void allAtOnce() {
        LakeBins on = Due.told("yards 8; lies 0 9; winds 1;");
        on.hour();
        Due.lying("one yard an hour, on", on, 5, 4, 0, 0, 0, 0, 0, 0);
        LakeBins back = Due.told("yards 8; lies 7 9; winds 2;");
        back.hour();
        Due.lying("one yard an hour, back", back, 0, 0, 0, 0, 0, 0, 4, 5);
        on = Due.told("yards 4; lies 0 1; lies 1 1; lies 2 1; lies 3 1; winds 1;");
        on.hour();
        Due.lying("one thing stays", on, 1, 1, 1, 1);
        on = Due.told("yards 4; lies 0 2; lies 1 1; lies 2 3; winds 1;");
        on.hour();
        Due.lying("half of what lay there, not of what comes", on, 1, 2, 2, 1);
    }

    private static void walks(LakeBins lake, int person, int times) {
        for (int i = 0; i < times; i++) {
            lake.walk(person);
        }
    }

    private static final String DROPPERS = "person a plain carries 0 brings 9; person b plain carries 0 brings 1;"
        + "person c plain carries 0 brings 2; drops has;";

    private static void at999ByWalks() {
        LakeBins lake = Due.told("yards 2; lies 0 99; " + DROPPERS);
        walks(lake, 0, 99);
        walks(lake, 1, 7);
        Due.due("997", lake.yard(0, 0), 997);
        Due.due("one more", lake.leaves(1, 0), 1);
        Due.due("two more", lake.leaves(2, 0), 2);
        Due.due("only two of nine", lake.leaves(0, 0), 2);
        lake.walk(1);
        Due.due("998", lake.yard(0, 0), 998);
        Due.due("only one of two", lake.leaves(2, 0), 1);
        Due.due("only one of two, together", lake.leaves(2, 8), 1);
        Due.due("the rest does not go home", lake.leaves(2, 9), 0);
        Due.due("grows to 999", lake.all(), 999);
        lake.walk(1);
        Due.due("999", lake.yard(0, 0), 999);
        Due.due("none more", lake.leaves(1, 0), 0);
        Due.due("heaps above 998", lake.heaps(998), 1);
        Due.due("heaps above 999", lake.heaps(999), 0);
        Due.due("lost, not home", lake.walk(0), 0);
        Due.due("still 999", lake.yard(0, 0), 999);
        Due.due("home", lake.count(5), 0);
        lake.undo();
        lake.undo();
        Due.due("undone to 998", lake.yard(0, 0), 998);
    }

    private static void at999ByTheWindBack() {
        int[][] cases = {{0, 998}, {1, 998}, {2, 999}, {3, 999}, {4, 999}, {99, 999}};
        for (int[] each : cases) {
            LakeBins lake = Due.told("yards 2; lies 0 99; lies 1 " + each[0] + "; winds 2; " + DROPPERS);
            walks(lake, 0, 99);
            walks(lake, 1, 8);
            Due.due("998", lake.yard(0, 0), 998);
            lake.hour();
            Due.lying("back, half of " + each[0], lake, each[1], each[0] - each[0] / 2);
        }
    }

    private static int[] blownOn(int[] lies) {
        int[] next = lies.clone();
        for (int yard = 0; yard + 1 < lies.length; yard++) {
            next[yard] -= lies[yard] / 2;
            next[yard + 1] += lies[yard] / 2;
        }
        for (int yard = 0; yard < lies.length; yard++) {
            next[yard] = Math.min(999, next[yard]);
        }
        return next;
    }

    private static void at999ByTheWindOn() {
        LakeBins lake = Due.told("yards 3; lies 0 99; winds 1; " + DROPPERS);
        int[] lies = {99, 0, 0};
        for (int hour = 0; hour < 5; hour++) {
            walks(lake, 0, hour == 0 ? 100 : 60);
            lies[0] = 999;
            Due.lying("ahead of hour " + hour, lake, lies);
            lies = blownOn(lies);
            lake.hour();
            Due.lying("behind hour " + hour, lake, lies);
        }
        Due.due("the last one is full: " + Arrays.toString(lies), lake.yard(2, 0), 999);
        for (int things = 2; things <= 8; things += 2) {
            lake = Due.told("yards 2; winds 1; " + DROPPERS);
            for (int hour = 0; hour < 2; hour++) {
                walks(lake, 0, 111);
                Due.due("the first one is full", lake.yard(0, 0), 999);
                lake.hour();
            }
            lake.sweep(0);
            Due.due("998", lake.yard(1, 0), 998);
            walks(lake, 2, things / 2);
            lake.hour();
            Due.lying("on, half of " + things, lake, things - things / 2, 999);
        }
    }

    private static void thenItIsTheNextHour() {
        LakeBins lake = Due.told("winds 1 2;");
        for (int hour = 0; hour < 100; hour++) {
            Due.due("hour", lake.count(3), hour);
            Due.due("its wind", lake.count(4), 1 + hour % 2);
            Due.due("blows", lake.hour(), 1 + hour % 2);
        }
        lake.undo();
        Due.due("the hour ahead", lake.count(3), 99);
        Due.due("its wind", lake.count(4), 2);
    }
}
