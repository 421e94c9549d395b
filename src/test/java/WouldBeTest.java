/** Promises 17 to 19, 22 to 25, 28 to 30 and 36: days judged, and what would be. */
public final class WouldBeTest {
    private static final int LEAST = Integer.MIN_VALUE;
    private static final int MOST = Integer.MAX_VALUE;

    public static void main(String[] args) {
        judged();
        judgedFromTheBegin();
        leaves();
        allAndWithout();
        full();
        hands();
        grows();
        from();
        bare();
        deposit();
        weeks();
        nothingIsDone();
        Due.end();
    }

    private static void judged(LakeBins lake, String day, int cant, int litters, int lies) {
        Due.due("day " + day, Due.day(lake, day), 0);
        Due.due("can't be: " + day, lake.judged(0), cant);
        Due.due("litters: " + day, lake.judged(1), litters);
        Due.due("lies: " + day, lake.judged(2), lies);
    }

    private static void judged() {
        LakeBins lake = Due.told("yards 4; person ann plain carries 1 brings 3; person bob tidy carries 9 brings 2;"
            + "bin 2 holds 4; bin 7 holds 4; lies 0 2; lies 3 5; winds 1;");
        judged(lake, "", -1, -1, 7);
        judged(lake, "hour;", -1, -1, 7);
        judged(lake, "walk bob; walk ann;", -1, 1, 8);
        judged(lake, "walk bob; put 2 5; walk bob; off 2; off 2; walk bob;", 1, -1, 7);
        judged(lake, "empty 2; empty 0;", 1, -1, 7);
        judged(lake, "off 0;", 0, -1, 7);
        judged(lake, "sweep 0; sweep 4;", 1, -1, 5);
        judged(lake, "put 4 1;", 0, -1, 7);
        judged(lake, "empty 7;", 0, -1, 7);
        judged(lake, "off 7;", 0, -1, 7);
        judged(lake, "put 0 1; put 0 1;", 1, -1, 7);
        judged(lake, "put 0 3; walk ann;", -1, -1, 7);
        judged(lake, "off 2; put 2 1; walk ann; walk ann; sweep 3;", -1, 2, 2 + 2 + 3);
        for (int what : new int[] {-1, 3, LEAST, MOST}) {
            Due.due("judged " + what, lake.judged(what), -2);
        }
    }

    private static void judgedFromTheBegin() {
        LakeBins lake = Due.told("yards 2; person a plain carries 0 brings 1; lies 0 2;");
        lake.put(0, 9);
        lake.sweep(0);
        judged(lake, "walk a; put 0 3;", -1, 0, 3);
        Due.due("all stays", lake.lies(), 0);
    }

    private static void leaves() {
        LakeBins lake = Due.told("yards 3; person a plain carries 0 brings 9; person k child carries 9 brings 3;"
            + "lies 0 5; lies 2 1; bin 0 holds 2; bin 1 holds 3; deposit 2;");
        int[] a = {7, 0, 0, 0, 0, 0, 0, 0, 7, 0, 2, 0};
        int[] k = {-2, 0, -1, 0, 0, 0, 0, 0, -3, 0, 3, 3};
        for (int what = 0; what < 12; what++) {
            Due.due("a leaves " + what, lake.leaves(0, what), a[what]);
            Due.due("k leaves " + what, lake.leaves(1, what), k[what]);
        }
        for (int what : new int[] {-1, 12, LEAST, MOST}) {
            Due.due("leaves " + what, lake.leaves(0, what), -1000);
            Due.due("leaves of " + (what == 12 ? 2 : what), lake.leaves(what == 12 ? 2 : what, 0), -1000);
        }
        lake = Due.told("yards 2; person a tidy carries 9 brings 9; bin 1 holds 4;");
        Due.due("home", lake.leaves(0, 9), 5);
        Due.due("home, too, by a walk ahead", lake.walk(0) + lake.leaves(0, 9), 14);
    }

    private static void allAndWithout() {
        LakeBins lake = Due.told("yards 2; person a plain carries 9 brings 9; person b plain carries 0 brings 3;"
            + "person k child carries 9 brings 0; bin 0 holds 9; deposit 1;");
        Due.due("all", lake.all(), 0);
        Due.due("without a", lake.without(0), 0);
        Due.due("without b", lake.without(1), 0);
        Due.due("without k", lake.without(2), 2);
        for (int person : new int[] {-1, 3, LEAST, MOST}) {
            Due.due("without " + person, lake.without(person), -1);
        }
        Due.due("one who lets others drop", Due.told("yards 2; person a plain carries 9 brings 1;"
            + "person b plain carries 0 brings 1; bin 0 holds 1;").without(0), 0);
    }

    private static void full() {
        Due.due("no bins", new LakeBins().full(), 1);
        LakeBins lake = Due.told("yards 2; person a plain carries 9 brings 2; bin 0 holds 1; bin 1 holds 30;");
        Due.due("one a walk", lake.full(), 16);
        lake = Due.told("yards 2; person a plain carries 9 brings 1; bin 0 holds 30; bin 1 holds 10;");
        Due.due("40 hours", lake.full(), 40);
        lake = Due.told("yards 2; person a plain carries 9 brings 1; bin 0 holds 30; bin 1 holds 11;");
        Due.due("41 hours", lake.full(), -1);
        lake.walk(0);
        Due.due("40 more", lake.full(), 40);
        Due.due("nobody", Due.told("bin 0 holds 1;").full(), -1);
    }

    private static void hands() {
        LakeBins lake = Due.told("yards 5; person a plain carries 9 brings 3; person b plain carries 0 brings 3;"
            + "person c dog carries 0 brings 1; person d dog carries 0 brings 0; lies 2 1; bin 3 holds 2;");
        Due.due("to the end", lake.hands(0), 5);
        Due.due("three yards", lake.hands(1), 2);
        Due.due("to the heap", lake.hands(2), 2);
        Due.due("never", lake.hands(3), 0);
        for (int person : new int[] {-1, 4, LEAST, MOST}) {
            Due.due("hands " + person, lake.hands(person), -1);
        }
    }

    private static void grows() {
        LakeBins lake = Due.told("yards 2; person a plain carries 9 brings 3; person b plain carries 9 brings 2;"
            + "person k child carries 9 brings 0; deposit 1;");
        Due.due("no heap draws none", lake.grows(0, 0), 0);
        Due.due("4", lake.grows(1, 4), -1);
        Due.due("5", lake.grows(1, 5), 4);
        Due.due("99", lake.grows(0, 99), 4);
        Due.due("1", lake.grows(0, 1), -1);
        for (int heap : new int[] {-1, 100, LEAST, MOST}) {
            Due.due("heap " + heap, lake.grows(0, heap), -1000);
        }
        for (int yard : new int[] {-1, 2, LEAST, MOST}) {
            Due.due("yard " + yard, lake.grows(yard, 0), -1000);
        }
        lake = Due.told("yards 2; person a plain carries 0 brings 9; takes heap; drops has; lies 0 3; lies 1 2;");
        Due.due("as if so much lay", lake.grows(0, 4), 6);
    }

    private static void from() {
        LakeBins lake = Due.told("yards 4; person a plain carries 1 brings 3; person b tidy carries 0 brings 3;"
            + "person c dog carries 0 brings 3; person d plain carries 0 brings 0; bin 0 holds 9; bin 2 holds 9;");
        int[][] want = {{0, 5, 0, 0}, {10, 10, 0, 0}, {1, 1, 1, 1}, {-1, -1, -1, -1}};
        for (int person = 0; person < 4; person++) {
            for (int yard = 0; yard < 4; yard++) {
                Due.due("from " + person + " " + yard, lake.from(person, yard), want[person][yard]);
            }
        }
        for (int number : new int[] {-1, 4, LEAST, MOST}) {
            Due.due("from " + number, lake.from(number, 0), -1);
            Due.due("from at " + number, lake.from(0, number), -1);
        }
        lake = Due.told("person a plain carries 0 brings 3; takes heap; drops 98 < heap; lies 3 1;");
        Due.due("the last heap", lake.from(0, 0), 99);
        lake.sweep(3);
        Due.due("nothing in hand", lake.from(0, 0), -1);
        lake = Due.told("person a plain carries 0 brings 3; drops 99 < heap;");
        Due.due("by none", lake.from(0, 0), -1);
    }

    private static void bare() {
        LakeBins lake = Due.told("yards 3; person a plain carries 1 brings 1; bin 2 holds 3; winds 1; bin 0 holds 1;");
        Due.due("when its bin is full", lake.bare(0), 2);
        Due.due("by the wind", lake.bare(1), 3);
        lake = Due.told("yards 2; person a plain carries 1 brings 1; bin 0 holds 30; bin 1 holds 9;");
        Due.due("in 40 hours", lake.bare(0), 40);
        lake = Due.told("yards 2; person a plain carries 1 brings 1; bin 0 holds 30; bin 1 holds 10;");
        Due.due("not within 40", lake.bare(0), -1);
        lake = Due.told("yards 2; lies 1 1; winds 2;");
        Due.due("something lies there", lake.bare(1), -1);
        Due.due("one does not move", lake.bare(0), -1);
        Due.due("half of two does", Due.told("yards 2; lies 1 2; winds 0 2;").bare(0), 2);
        for (int yard : new int[] {-1, 2, LEAST, MOST}) {
            Due.due("bare " + yard, lake.bare(yard), -1);
        }
    }

    private static void deposit() {
        LakeBins lake = Due.told("yards 2; person k child carries 9 brings 0; lies 0 9; lies 1 4; deposit 5;");
        int[] want = {9, 8, 7, 6, 5, 4, 4, 3, 3, 2, 2, 1, 1, 0};
        for (int most = 0; most < want.length; most++) {
            Due.due("deposit " + most, lake.deposit(most), want[most]);
        }
        Due.due("deposit 999", lake.deposit(999), 0);
        for (int most : new int[] {-1, 1000, LEAST, MOST}) {
            Due.due("deposit " + most, lake.deposit(most), -1);
        }
        Due.due("the told one stays", lake.count(8), 5);
        lake = Due.told("lies 0 1;");
        Due.due("by none", lake.deposit(0), -1);
        Due.due("by any", lake.deposit(1), 0);
    }

    /** By the seed 1 g / 65536, cut, is 16838, 5758, 10113, 17515, 31051, 5627, 23010, 7419, 16212, 4086. */
    private static void weeks() {
        LakeBins lake = Due.told("yards 2; bin 0 holds 3; bin 1 holds 30; pence 7;"
            + "person a plain carries 9 brings 1; person b plain carries 9 brings 2; person c plain carries 9 brings 9;");
        lake.empty(0);
        lake.walk(2);
        Due.due("lies", lake.weeks(1, 1, 0), 0);
        Due.due("home, one hour", lake.weeks(1, 1, 1), 0);
        Due.due("paid, one hour", lake.weeks(1, 1, 2), 14);
        Due.due("paid, two hours", lake.weeks(1, 2, 2), 14);
        Due.due("nothing is paid", lake.count(7), 7);
        for (int number : new int[] {-1, LEAST, MOST}) {
            Due.due("seed " + number, lake.weeks(number, 1, 0), -1);
            Due.due("hours " + number, lake.weeks(1, number, 0), -1);
            Due.due("what " + number, lake.weeks(1, 1, number), -1);
        }
        Due.due("seed 10000", lake.weeks(10000, 1, 0), -1);
        Due.due("hours 0", lake.weeks(1, 0, 0), -1);
        Due.due("hours 100", lake.weeks(1, 100, 0), -1);
        Due.due("what 3", lake.weeks(1, 1, 3), -1);
        lake = Due.told("yards 2; bin 0 holds 3; pence 1;");
        Due.due("without people only bins are drawn", lake.weeks(1, 4, 2), 1);
        Due.due("by ten draws", lake.weeks(1, 10, 2), 2);
        lake = Due.told("yards 2; takes 1; drops 0; pence 0;"
            + "person a plain carries 9 brings 1; person b plain carries 9 brings 2;");
        lake.walk(0);
        Due.due("home by these", lake.weeks(9999, 99, 1), 297);
    }

    private static void nothingIsDone() {
        LakeBins lake = Due.told("yards 4; person a plain carries 0 brings 9; person k child carries 1 brings 2;"
            + "bin 2 holds 3; lies 0 3; deposit 1; winds 1 2;");
        lake.walk(0);
        lake.all();
        lake.full();
        lake.leaves(0, 0);
        lake.without(0);
        lake.hands(0);
        lake.grows(0, 50);
        lake.from(0, 0);
        lake.bare(1);
        lake.deposit(1);
        lake.weeks(7, 30, 0);
        lake.judged(0);
        lake.place(2, 3, 0);
        lake.move();
        lake.order(-1);
        lake.rounds(3, 2, 0);
        lake.who();
        lake.look();
        lake.mean(5);
        int[] want = {4, 2, 1, 0, 1, 2, 0, 0, 1, 0, 0, 1, 0};
        for (int what = 0; what < want.length; what++) {
            Due.due("count " + what, lake.count(what), want[what]);
        }
        int[] lies = {4, 1, 1, 1};
        for (int yard = 0; yard < 4; yard++) {
            Due.due("lies at " + yard, lake.yard(yard, 0), lies[yard]);
        }
        Due.due("in the bin", lake.yard(2, 2), 3);
    }
}
