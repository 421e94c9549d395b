/** Promises 1, 5 to 16, 37 and 38: what is there, what is done by hand, undone, marked and counted. */
public final class ByHandTest {
    private static final int LEAST = Integer.MIN_VALUE;
    private static final int MOST = Integer.MAX_VALUE;

    public static void main(String[] args) {
        aNewObject();
        yardsAndPeople();
        heapsAndSpace();
        walks();
        habits();
        children();
        laws();
        binsByHand();
        winds();
        noMoreThan999();
        undone();
        marks();
        counts();
        Due.end();
    }

    private static void aNewObject() {
        LakeBins lake = new LakeBins();
        int[] want = {6, 0, 0, 0, 0, 0, 0, 0, 0, 0, 0, 0, 0};
        for (int what = 0; what < want.length; what++) {
            Due.due("new count " + what, lake.count(what), want[what]);
        }
        Due.due("new lies", lake.lies(), 0);
        Due.due("new undo", lake.undo(), false);
        Due.due("new space", lake.space(), 0);
        Due.due("new judged", lake.judged(2), 0);
        Due.due("the last yard", lake.yard(5, 0), 0);
        Due.due("none behind", lake.yard(6, 0), -1);
        Due.due("NONE", LakeBins.NONE, -1);
    }

    private static void yardsAndPeople() {
        LakeBins lake = Due.told("bin 1 holds 2; bin 3 holds 1; bin 6 holds 9; lies 2 7; lies 7 50; yards 5;"
            + "person a plain carries 1 brings 2; person b tidy carries 2 brings 3;"
            + "person c dog carries 3 brings 4; person d child carries 4 brings 5;");
        int[] near = {1, 2, 1, 9, 9};
        for (int yard = 0; yard < 5; yard++) {
            Due.due("near of " + yard, lake.yard(yard, 3), near[yard]);
        }
        Due.due("lies there", lake.yard(2, 0), 7);
        Due.due("holds", lake.yard(1, 1), 2);
        Due.due("no bin holds", lake.yard(2, 1), 0);
        Due.due("in no bin", lake.yard(2, 2), 0);
        Due.due("beyond is nothing", lake.lies(), 7);
        Due.due("bins", lake.count(2), 2);
        Due.due("space", lake.space(), 3);
        for (int what : new int[] {-1, 4, LEAST, MOST}) {
            Due.due("yard's " + what, lake.yard(0, what), -1);
            Due.due("person's " + what, lake.person(0, what), -1);
        }
        for (int number : new int[] {-1, 5, 7, LEAST, MOST}) {
            Due.due("yard " + number, lake.yard(number, 0), -1);
            Due.due("person " + number, lake.person(number, 0), -1);
        }
        for (int person = 0; person < 4; person++) {
            Due.due("kind", lake.person(person, 0), person);
            Due.due("carries", lake.person(person, 1), person + 1);
            Due.due("brings", lake.person(person, 2), person + 2);
            Due.due("takes", lake.person(person, 3), person + 2);
        }
        Due.due("none behind", lake.person(4, 0), -1);
    }

    private static void heapsAndSpace() {
        LakeBins lake = Due.told("yards 4; lies 0 3; lies 2 9; lies 3 1; bin 0 holds 4; bin 3 holds 30;");
        Due.due("above 0", lake.heaps(0), 13);
        Due.due("above 1", lake.heaps(1), 5);
        Due.due("above 8", lake.heaps(8), 4);
        Due.due("above 9", lake.heaps(9), 0);
        Due.due("above -1", lake.heaps(-1), 15);
        Due.due("above the least", lake.heaps(LEAST), 15);
        Due.due("above the most", lake.heaps(MOST), 0);
        Due.due("space", lake.space(), 34);
        Due.due("lies", lake.lies(), 13);
    }

    private static void walks() {
        LakeBins lake = Due.told("yards 3; person a plain carries 9 brings 9; bin 1 holds 4;");
        Due.due("home", lake.walk(0), 5);
        Due.due("in the bin", lake.yard(1, 2), 4);
        Due.due("it is full", lake.yard(0, 3), 9);
        Due.due("home again", lake.walk(0), 9);
        Due.due("home together", lake.count(5), 14);
        Due.due("space", lake.space(), 0);
        for (int person : new int[] {-1, 1, LEAST, MOST}) {
            Due.due("walk " + person, lake.walk(person), -1);
        }
        Due.due("only walks count", lake.count(11), 2);
    }

    private static int dropped(String person, int heap, int bin) {
        LakeBins lake = Due.told("yards 8; person p " + person + "; lies 0 " + heap + ";"
            + (bin > 0 ? "bin " + bin + " holds 30;" : ""));
        lake.walk(0);
        return lake.yard(0, 0) - heap;
    }

    private static void habits() {
        Due.due("plain, heap 4, bin near", dropped("plain carries 3 brings 5", 4, 3), 0);
        Due.due("plain, heap 5", dropped("plain carries 3 brings 5", 5, 3), 5);
        Due.due("plain, bin too far", dropped("plain carries 3 brings 5", 4, 4), 1);
        Due.due("plain, no bin", dropped("plain carries 8 brings 5", 0, 0), 1);
        Due.due("plain, carries all the way", dropped("plain carries 9 brings 5", 0, 0), 0);
        Due.due("plain with nothing", dropped("plain carries 0 brings 0", 9, 0), 0);
        Due.due("child as plain", dropped("child carries 3 brings 5", 5, 3), 5);
        Due.due("child, bin too far", dropped("child carries 3 brings 5", 4, 4), 1);
        Due.due("tidy, heap 9", dropped("tidy carries 3 brings 5", 9, 5), 0);
        Due.due("tidy, heap 10", dropped("tidy carries 3 brings 5", 10, 5), 5);
        Due.due("tidy, bin too far", dropped("tidy carries 3 brings 5", 9, 6), 1);
        Due.due("tidy, no bin", dropped("tidy carries 6 brings 5", 0, 0), 1);
        Due.due("tidy, carries all the way", dropped("tidy carries 7 brings 5", 0, 0), 0);
        Due.due("dog, bare", dropped("dog carries 0 brings 5", 0, 0), 0);
        Due.due("dog, one lies", dropped("dog carries 9 brings 5", 1, 1), 5);
    }

    private static void children() {
        LakeBins lake = Due.told("yards 4; person k child carries 9 brings 1; person p plain carries 9 brings 0;"
            + "deposit 3; lies 0 2; lies 1 3; lies 2 9;");
        Due.due("home", lake.walk(0), 0);
        Due.due("yard 0", lake.yard(0, 0), 0);
        Due.due("yard 1", lake.yard(1, 0), 0);
        Due.due("at 2 six lie, one comes", lake.yard(2, 0), 7);
        Due.due("redeemed", lake.count(6), 8);
        lake.walk(1);
        Due.due("others take up none", lake.count(6), 8);
        lake = Due.told("person k child carries 9 brings 0; lies 0 2;");
        lake.walk(0);
        Due.due("none without a deposit", lake.count(6), 0);
        lake = Due.told("person k child carries 9 brings 4; lies 0 6; deposit 2;");
        lake.walk(0);
        Due.due("the heap is what he left of it", lake.yard(0, 0), 4);
    }

    private static int taken(String law, String rest) {
        return Due.told("yards 4; person p plain carries 3 brings 5; takes " + law + ";" + rest).person(0, 3);
    }

    private static void laws() {
        Due.due("all that lies", taken("heap", "lies 0 2; lies 3 4;"), 6);
        Due.due("at most 9", taken("heap", "lies 0 20;"), 9);
        Due.due("at least 0", taken("0 - 1", ""), 0);
        Due.due("near 9", taken("near", ""), 9);
        Due.due("near 0", taken("near", "bin 0 holds 1;"), 0);
        Due.due("near 3", taken("near", "bin 3 holds 1;"), 3);
        Due.due("has, far", taken("has * 1 + far", ""), 8);
        Due.due("from the left", taken("0 and 0 or 1", ""), 1);
        Due.due("from the left, too", taken("1 or 1 and 0", ""), 0);
        Due.due("less", taken("1 + 1 < 3", ""), 1);
        Due.due("not less", taken("3 < 3", ""), 0);
        Due.due("same", taken("4 = 2 * 2", ""), 1);
        Due.due("not first", taken("not 0 * 5", ""), 5);
        Due.due("not of all", taken("not (0 * 5)", ""), 1);
        Due.due("not of 7", taken("not 7", ""), 0);
        Due.due("what is not 0 is so", taken("7 and (0 - 2)", ""), 1);
        Due.due("minus from the left", taken("9 - 3 - 2", ""), 4);
        Due.due("products first", taken("1 + 2 * 3", ""), 7);
        Due.due("ints wrap", taken("9999 * 9999 * 22 < 0", ""), 1);
        Due.due("deep", taken("1 and 1 < 1 + 1 * (1 and 1 < 1 + 1 * (1 and 1 < 1 + 1 * (1 and 1 < 1 + 1 * (1 + 1))))", ""), 1);
        LakeBins lake = Due.told("yards 4; person p plain carries 3 brings 9; drops near - has * 0 + heap; bin 2 holds 3; lies 0 1;");
        lake.walk(0);
        int[] want = {1 + 3, 1, 2, 0};
        for (int yard = 0; yard < 4; yard++) {
            Due.due("by the law at " + yard, lake.yard(yard, 0), want[yard]);
        }
        Due.due("in the bin", lake.yard(2, 2), 3);
    }

    private static void binsByHand() {
        LakeBins lake = Due.told("yards 3; person a plain carries 9 brings 9; bin 1 holds 4; pence 7; lies 2 3;");
        lake.walk(0);
        for (int yard : new int[] {-1, 0, 3, 7, LEAST, MOST}) {
            Due.due("empty " + yard, lake.empty(yard), -1);
            Due.due("off " + yard, lake.off(yard), -1);
        }
        Due.due("empty", lake.empty(1), 4);
        Due.due("empty again", lake.empty(1), 0);
        Due.due("paid", lake.count(7), 14);
        for (int holds : new int[] {0, 31, -1, LEAST, MOST}) {
            Due.due("put " + holds, lake.put(0, holds), false);
        }
        for (int yard : new int[] {-1, 1, 3, 8, LEAST, MOST}) {
            Due.due("put at " + yard, lake.put(yard, 3), false);
        }
        Due.due("put the least", lake.put(0, 1), true);
        Due.due("put the most", lake.put(2, 30), true);
        Due.due("bins", lake.count(2), 3);
        lake.walk(0);
        Due.due("off", lake.off(2), 4);
        Due.due("it is off", lake.off(2), -1);
        Due.due("put a new one", lake.put(2, 5), true);
        Due.due("it is empty", lake.yard(2, 2), 0);
        for (int yard : new int[] {-1, 3, 8, LEAST, MOST}) {
            Due.due("sweep " + yard, lake.sweep(yard), -1);
        }
        Due.due("sweep", lake.sweep(2), 3);
        Due.due("swept", lake.sweep(2), 0);
        Due.due("lies", lake.lies(), 0);
        Due.due("done", lake.count(11), 10);
    }

    private static void yardsLie(LakeBins lake, int... want) {
        for (int yard = 0; yard < want.length; yard++) {
            Due.due("lies at " + yard, lake.yard(yard, 0), want[yard]);
        }
    }

    private static void winds() {
        LakeBins lake = Due.told("yards 4; winds 1 2 0; lies 0 5; lies 1 4; lies 3 9;");
        Due.due("wind", lake.count(4), 1);
        Due.due("on", lake.hour(), 1);
        yardsLie(lake, 3, 4, 2, 9);
        Due.due("wind", lake.count(4), 2);
        Due.due("back", lake.hour(), 2);
        yardsLie(lake, 5, 3, 5, 5);
        Due.due("none", lake.hour(), 0);
        yardsLie(lake, 5, 3, 5, 5);
        Due.due("again", lake.hour(), 1);
        Due.due("hours", lake.count(3), 4);
        lake = new LakeBins();
        Due.due("without winds", lake.hour(), 0);
        Due.due("without winds", lake.count(4), 0);
    }

    private static void noMoreThan999() {
        LakeBins lake = Due.told("yards 2; person a plain carries 0 brings 9; lies 0 99; lies 1 99; winds 2;");
        for (int i = 0; i < 101; i++) {
            Due.due("all is dropped", lake.walk(0), 0);
        }
        Due.due("the most", lake.yard(0, 0), 999);
        Due.due("none more", lake.leaves(0, 0), 0);
        Due.due("from the other", lake.yard(1, 0), 99);
        lake.hour();
        Due.due("still the most", lake.yard(0, 0), 999);
        Due.due("the rest is lost", lake.yard(1, 0), 50);
        lake = Due.told("yards 2; person a plain carries 0 brings 9; lies 0 99; winds 1 2;");
        for (int i = 0; i < 101; i++) {
            lake.walk(0);
        }
        lake.hour();
        yardsLie(lake, 500, 499);
        for (int i = 0; i < 60; i++) {
            lake.walk(0);
        }
        yardsLie(lake, 999, 499);
        lake.hour();
        yardsLie(lake, 999, 250);
    }

    private static void undone() {
        LakeBins lake = Due.told("yards 3; person a child carries 9 brings 9; bin 1 holds 4; pence 7; lies 2 3; winds 1; deposit 1;");
        lake.find(0, 3);
        lake.walk(0);
        lake.empty(1);
        lake.put(0, 5);
        lake.off(1);
        lake.sweep(2);
        lake.hour();
        Due.due("done", lake.count(11), 6);
        Due.due("hour", lake.undo(), true);
        Due.due("hour is undone", lake.count(3), 0);
        lake.undo();
        Due.due("sweep is undone", lake.yard(2, 0), 2);
        lake.undo();
        Due.due("off is undone", lake.yard(1, 1), 4);
        lake.undo();
        Due.due("put is undone", lake.yard(0, 1), 0);
        lake.undo();
        Due.due("empty is undone", lake.yard(1, 2), 4);
        Due.due("paid", lake.count(7), 0);
        lake.undo();
        Due.due("walk is undone", lake.yard(1, 2), 0);
        Due.due("home", lake.count(5), 0);
        Due.due("redeemed", lake.count(6), 0);
        Due.due("nothing more", lake.undo(), false);
        Due.due("what was found stays", lake.count(10), 1);
        for (int i = 0; i < 20; i++) {
            lake.hour();
        }
        Due.due("the last 16", lake.count(11), 16);
        for (int i = 0; i < 16; i++) {
            Due.due("undo", lake.undo(), true);
        }
        Due.due("no more", lake.undo(), false);
        Due.due("hour", lake.count(3), 4);
    }

    private static void marks() {
        LakeBins lake = Due.told("yards 3; person a child carries 9 brings 9; bin 1 holds 4; lies 2 3; deposit 1;");
        for (int mark : new int[] {-1, 4, LEAST, MOST}) {
            Due.due("mark " + mark, lake.mark(mark, false), false);
            Due.due("back to " + mark, lake.mark(mark, true), false);
        }
        for (int mark = 0; mark < 4; mark++) {
            Due.due("nothing on " + mark, lake.mark(mark, true), false);
        }
        lake.find(0, 3);
        lake.hour();
        Due.due("laid", lake.mark(3, false), true);
        Due.due("laying undoes nothing", lake.count(11), 1);
        lake.walk(0);
        lake.empty(1);
        lake.put(0, 2);
        lake.sweep(2);
        lake.hour();
        lake.find(1, 3);
        Due.due("day", Due.day(lake, "hour;"), 0);
        Due.due("laid", lake.mark(0, false), true);
        Due.due("nothing on it yet", lake.mark(1, true), false);
        Due.due("that changes nothing", lake.count(11), 6);
        Due.due("back", lake.mark(3, true), true);
        int[] want = {3, 1, 1, 1, 0, 0, 0, 0, 1, 1, 1, 0, 0};
        for (int what = 0; what < want.length; what++) {
            Due.due("back, count " + what, lake.count(what), want[what]);
        }
        Due.due("lies", lake.lies(), 3);
        Due.due("undo", lake.undo(), false);
        Due.due("to the other", lake.mark(0, true), true);
        int[] other = {3, 1, 2, 2, 0, 5, 1, 5, 1, 1, 2, 0, 0};
        for (int what = 0; what < other.length; what++) {
            Due.due("other, count " + what, lake.count(what), other[what]);
        }
        lake.find(0, lake.leaves(0, 0));
        lake.find(1, lake.leaves(0, 1));
        lake.mark(1, false);
        lake.find(0, 99);
        Due.due("nobody", lake.who(), 0);
        lake.mark(1, true);
        Due.due("as it was found", lake.who(), 1);
        Due.due("back", lake.mark(0, true), true);
        lake.sweep(0);
        Due.due("again", lake.mark(0, true), true);
        Due.due("laid anew", lake.mark(3, false), true);
        lake.hour();
        Due.due("back", lake.mark(3, true), true);
        Due.due("hour", lake.count(3), 2);
    }

    private static void counts() {
        LakeBins lake = Due.told("yards 2; person a plain carries 0 brings 1; deposit 4; winds 2;");
        Due.feed(lake, "hour; hour; hour;");
        Due.due("signs", lake.count(12), 17);
        lake.day();
        int[] want = {2, 1, 0, 0, 2, 0, 0, 0, 4, 3, 0, 0, 0};
        for (int what = 0; what < want.length; what++) {
            Due.due("count " + what, lake.count(what), want[what]);
        }
        for (int what : new int[] {-1, 13, LEAST, MOST}) {
            Due.due("count " + what, lake.count(what), -1);
        }
    }
}
