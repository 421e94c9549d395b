/** The sentences on what would be that name a boundary (promises 18, 19, 22 to 25, 28 to 30 and 36), a test for each. */
public final class WouldBeEdgesTest {
    private static final String[] KINDS = {"plain", "tidy", "dog", "child"};

    public static void main(String[] args) {
        leavesWhat0To11();
        leaves0AtOneBeyond();
        leavesFewer();
        allByNumbers();
        fullIn1To40Hours();
        fullBehindTheWalks();
        fullWithNoBins();
        withoutAPerson();
        handsFrom0ToAllYards();
        growsHeap0To99();
        growsAsIfSoMuchLayNow();
        fromHeap0To99();
        fromWhatHeTakesNow();
        fromNonePutIn();
        bareIn1To40Hours();
        bareWhereNothingLiesNow();
        bareBehindTheHour();
        deposit0To9();
        depositMost0To999();
        depositWhateverIsTold();
        weeksSeed0To9999();
        weeksHours1To99();
        weeksWhat0To2();
        weeksByDraws();
        weeksHomeAndPaidByThese();
        weeksWithoutPeople();
        weeksAllIsAsAhead();
        Due.end();
    }

    private static void leavesWhat0To11() {
        LakeBins lake = Due.told("yards 8; person a plain carries 0 brings 9; person k child carries 9 brings 9; bin 7 holds 3; deposit 2;"
            + "lies 1 9; lies 6 1;");
        int[] a = {1, 8, 0, 0, 0, 0, 0, 0, 9, 0, 0, 0};
        int[] k = {0, 7, 0, 0, 0, 0, -1, 0, 6, 0, 0, 3};
        for (int what = 0; what <= 11; what++) {
            Due.due("a leaves " + what, lake.leaves(0, what), a[what]);
            Due.due("k leaves " + what, lake.leaves(1, what), k[what]);
        }
        for (int what : Due.outside(0, 11)) {
            Due.due("leaves " + what, lake.leaves(0, what), -1000);
        }
        for (int person : Due.outside(0, 1)) {
            Due.due("leaves of " + person, lake.leaves(person, 0), -1000);
            Due.due("leaves of " + person, lake.leaves(person, 11), -1000);
        }
        Due.due("nobody is told", new LakeBins().leaves(0, 0), -1000);
        lake = Due.told("yards 2; person t tidy carries 9 brings 9; bin 0 holds 3; bin 1 holds 2;");
        Due.due("home", lake.leaves(0, 9), 4);
        Due.due("into bins, together", lake.leaves(0, 10), 5);
        lake.walk(0);
        Due.due("home, of this walk alone", lake.leaves(0, 9), 9);
        Due.due("into full bins", lake.leaves(0, 10), 0);
    }

    private static void leaves0AtOneBeyond() {
        for (int yards = 2; yards <= 8; yards++) {
            LakeBins lake = Due.told("yards " + yards + "; person a plain carries 0 brings 9; lies 7 9;");
            for (int yard = 0; yard < 8; yard++) {
                int last = yards == 8 && yard == 7 ? 2 : 1;
                Due.due("yard " + yard + " of " + yards, lake.leaves(0, yard), yard < yards ? last : 0);
            }
            Due.due("together", lake.leaves(0, 8), yards == 8 ? 9 : yards);
        }
    }

    private static void leavesFewer() {
        LakeBins lake = Due.told("yards 2; person k child carries 9 brings 0; lies 0 9; lies 1 10; deposit 9;");
        Due.due("all of it", lake.leaves(0, 0), -9);
        Due.due("all but one", lake.leaves(0, 1), -9);
        Due.due("together", lake.leaves(0, 8), -18);
        lake.walk(0);
        Due.due("nothing lies", lake.leaves(0, 0), 0);
        Due.due("the last one", lake.leaves(0, 1), -1);
        lake.walk(0);
        Due.due("no fewer than none", lake.leaves(0, 8), 0);
    }

    private static void allByNumbers() {
        Due.due("nobody, nothing", new LakeBins().all(), 0);
        Due.due("nobody", Due.told("lies 0 7; lies 5 2;").all(), 9);
        Due.due("the child behind", Due.told("yards 2; person a plain carries 0 brings 1; person k child carries 9 brings 0; deposit 1;").all(), 0);
        Due.due("the child ahead", Due.told("yards 2; person k child carries 9 brings 0; person a plain carries 0 brings 1; deposit 1;").all(), 1);
        StringBuilder six = new StringBuilder("yards 2;");
        for (int person = 0; person < 6; person++) {
            six.append("person ").append((char) ('a' + person)).append(" plain carries 0 brings 1;");
            Due.due("people of one", Due.told(six.toString()).all(), person + 1);
        }
    }

    private static void fullIn1To40Hours() {
        for (int room = 1; room <= 60; room++) {
            String bins = room <= 30 ? "bin 0 holds " + room + ";" : "bin 0 holds 30; bin 1 holds " + (room - 30) + ";";
            LakeBins lake = Due.told("yards 2; person a plain carries 9 brings 1;" + bins);
            Due.due("full with room for " + room, lake.full(), room <= 40 ? room : -1);
        }
        LakeBins lake = Due.told("yards 2; person a plain carries 9 brings 1; bin 0 holds 30; bin 1 holds 11;");
        lake.walk(0);
        Due.due("from now on", lake.full(), 40);
        Due.due("nobody comes", Due.told("bin 0 holds 1;").full(), -1);
        Due.due("one who brings nothing", Due.told("person a plain carries 9 brings 0; bin 0 holds 1;").full(), -1);
    }

    private static void fullBehindTheWalks() {
        LakeBins lake = Due.told("yards 2; person a plain carries 9 brings 9; person b plain carries 9 brings 9; bin 0 holds 18;");
        Due.due("by all of them", lake.full(), 1);
        lake.walk(0);
        lake.walk(1);
        Due.due("it is full already", lake.full(), 1);
        lake.put(1, 30);
        Due.due("one of two is full", lake.full(), 2);
        lake = Due.told("yards 2; person a plain carries 9 brings 3; bin 1 holds 6; lies 0 8; winds 1;");
        Due.due("when the wind has blown the heap away", lake.full(), 5);
        lake = Due.told("yards 2; person a plain carries 9 brings 3; bin 1 holds 6; lies 0 8;");
        Due.due("without a wind", lake.full(), -1);
    }

    private static void fullWithNoBins() {
        Due.due("new", new LakeBins().full(), 1);
        Due.due("people", Due.told("person a plain carries 9 brings 9;").full(), 1);
        LakeBins lake = Due.told("bin 0 holds 3;");
        Due.due("one bin", lake.full(), -1);
        lake.off(0);
        Due.due("it is off", lake.full(), 1);
        Due.due("one beyond", Due.told("yards 3; bin 3 holds 3;").full(), 1);
    }

    private static void withoutAPerson() {
        LakeBins lake = Due.told("yards 2; person a plain carries 0 brings 1; person b dog carries 0 brings 4; person k child carries 9 brings 0; deposit 9;"
            + "person c plain carries 0 brings 2;");
        int[] want = {2, 2, 7, 0};
        for (int person = 0; person < 4; person++) {
            Due.due("without " + person, lake.without(person), want[person]);
        }
        for (int person : Due.outside(0, 3)) {
            Due.due("without " + person, lake.without(person), -1);
        }
        Due.due("nobody is told", new LakeBins().without(0), -1);
        Due.due("the only one", Due.told("person a plain carries 0 brings 1; lies 0 3;").without(0), 3);
    }

    private static void handsFrom0ToAllYards() {
        for (int yards = 2; yards <= 8; yards++) {
            for (int yard = 0; yard < yards; yard++) {
                LakeBins lake = Due.told("yards " + yards + "; person a plain carries 9 brings 2; person b plain carries 9 brings 3; bin " + yard + " holds 2;");
                Due.due("up to the bin at " + yard, lake.hands(0), yard);
                Due.due("one too many", lake.hands(1), yards);
            }
            LakeBins lake = Due.told("yards " + yards + "; person a plain carries 9 brings 1; person b plain carries 0 brings 1; person c plain carries 0 brings 0;");
            Due.due("all the way", lake.hands(0), yards);
            Due.due("dropped at the first", lake.hands(1), 0);
            Due.due("nothing in hand", lake.hands(2), 0);
            for (int person : Due.outside(0, 2)) {
                Due.due("hands " + person, lake.hands(person), -1);
            }
        }
        Due.due("nobody is told", new LakeBins().hands(0), -1);
    }

    private static void growsHeap0To99() {
        LakeBins lake = Due.told("yards 3; person a plain carries 9 brings 3; person b tidy carries 9 brings 2; lies 1 50;");
        for (int heap = 0; heap <= 99; heap++) {
            int plain = heap > 4 ? 3 : 0;
            int tidy = heap + plain > 9 ? 2 : 0;
            Due.due("grows 0 " + heap, lake.grows(0, heap), plain + tidy);
        }
        for (int heap : Due.outside(0, 99)) {
            Due.due("grows by " + heap, lake.grows(0, heap), -1000);
        }
        for (int yard : Due.outside(0, 2)) {
            Due.due("grows at " + yard, lake.grows(yard, 5), -1000);
        }
        Due.due("at the last yard all have dropped theirs", lake.grows(2, 99), 0);
        Due.due("nobody", new LakeBins().grows(5, 99), 0);
        LakeBins child = Due.told("yards 2; person k child carries 9 brings 0; deposit 9;");
        Due.due("fewer", child.grows(1, 99), -9);
        Due.due("all of it", child.grows(1, 9), -9);
        Due.due("all of less", child.grows(1, 8), -8);
        Due.due("nothing", child.grows(1, 0), 0);
    }

    private static void growsAsIfSoMuchLayNow() {
        LakeBins lake = Due.told("yards 2; person a plain carries 9 brings 9; takes heap; drops has; lies 0 7; lies 1 2;");
        Due.due("takes what would lie", lake.grows(0, 4), 6);
        Due.due("takes what would lie at the other", lake.grows(1, 0), 0);
        Due.due("as it is", lake.grows(0, 7), 9);
        Due.due("it lies as ahead", lake.lies(), 9);
    }

    private static void fromHeap0To99() {
        for (int heap = 0; heap <= 101; heap++) {
            LakeBins lake = Due.told("yards 2; person a plain carries 0 brings 3; lies 0 50; drops " + heap + " < heap + 1;");
            Due.due("from " + heap, lake.from(0, 0), heap <= 99 ? heap : -1);
            Due.due("from " + heap + " at the last yard", lake.from(0, 1), heap <= 99 ? heap : -1);
        }
        Due.due("the least of two", Due.told("person a plain carries 0 brings 3; drops (heap = 7) + (heap = 70);").from(0, 0), 7);
        LakeBins lake = Due.told("yards 8; bin 3 holds 9; person a plain carries 2 brings 1; person b tidy carries 1 brings 1;"
            + "person c dog carries 9 brings 1; person d plain carries 9 brings 0;");
        int[][] want = {{0, 5, 5, 0, 0, 0, 0, 0}, {10, 10, 10, 0, 0, 0, 0, 0}, {1, 1, 1, 1, 1, 1, 1, 1}, {-1, -1, -1, -1, -1, -1, -1, -1}};
        for (int person = 0; person < 4; person++) {
            for (int yard = 0; yard < 8; yard++) {
                Due.due("from " + person + " at " + yard, lake.from(person, yard), want[person][yard]);
            }
            for (int yard : Due.outside(0, 7)) {
                Due.due("from at " + yard, lake.from(person, yard), -1);
            }
        }
        for (int person : Due.outside(0, 3)) {
            Due.due("from " + person, lake.from(person, 0), -1);
        }
        Due.due("behind the last yard", Due.told("yards 2; person a plain carries 0 brings 1;").from(0, 2), -1);
    }

    private static void fromWhatHeTakesNow() {
        LakeBins lake = Due.told("yards 2; person a plain carries 9 brings 0; takes heap; drops heap * (has = 3); lies 0 1; lies 1 2;");
        Due.due("he takes three", lake.from(0, 0), 1);
        lake.sweep(0);
        Due.due("he takes two", lake.from(0, 0), -1);
        lake.sweep(1);
        Due.due("he takes none", lake.from(0, 0), -1);
    }

    private static void fromNonePutIn() {
        LakeBins lake = Due.told("yards 2; person a plain carries 9 brings 2; bin 0 holds 9; bin 1 holds 9;");
        Due.due("all of it in hand at yard 0", lake.from(0, 0), 5);
        Due.due("all of it in hand at yard 1", lake.from(0, 1), 5);
        LakeBins child = Due.told("yards 2; person k child carries 9 brings 2; deposit 3;");
        Due.due("the heap that he comes to", child.from(0, 0), 5);
    }

    private static void bareIn1To40Hours() {
        for (int room = 0; room <= 60; room++) {
            String bins = (room > 0 ? "bin 0 holds " + Math.min(30, room) + ";" : "") + (room > 30 ? "bin 1 holds " + (room - 30) + ";" : "");
            LakeBins lake = Due.told("yards 2; person a plain carries 1 brings 1;" + bins);
            Due.due("bare with room for " + room, lake.bare(0), room < 40 ? room + 1 : -1);
        }
        for (int yard : Due.outside(0, 5)) {
            Due.due("bare " + yard, new LakeBins().bare(yard), -1);
        }
        Due.due("nobody", new LakeBins().bare(0), -1);
        Due.due("one who carries it home", Due.told("person a plain carries 9 brings 1;").bare(0), -1);
    }

    private static void bareWhereNothingLiesNow() {
        LakeBins lake = Due.told("yards 2; person a plain carries 0 brings 2; lies 0 1;");
        Due.due("one lies there", lake.bare(0), -1);
        Due.due("none lies there", lake.bare(1), 1);
        lake.sweep(0);
        Due.due("swept", lake.bare(0), 1);
        lake.walk(0);
        Due.due("not any more", lake.bare(0), -1);
    }

    private static void bareBehindTheHour() {
        LakeBins lake = Due.told("yards 2; person a plain carries 0 brings 1; person k child carries 9 brings 0; deposit 1;");
        Due.due("taken up in the same hour", lake.bare(0), -1);
        lake = Due.told("yards 2; person k child carries 9 brings 0; person a plain carries 0 brings 1; deposit 1;");
        Due.due("dropped behind the child", lake.bare(0), 1);
        StringBuilder winds = new StringBuilder("winds");
        for (int hour = 1; hour <= 12; hour++) {
            lake = Due.told("yards 3; lies 1 2;" + winds + " 1;");
            Due.due("blown on in hour " + hour, lake.bare(2), hour);
            lake = Due.told("yards 3; lies 1 2;" + winds + " 2;");
            Due.due("blown back in hour " + hour, lake.bare(0), hour);
            winds.append(" 0");
        }
        Due.due("one thing is not blown", Due.told("yards 2; lies 0 1; winds 1;").bare(1), -1);
        Due.due("two yards on in two hours", Due.told("yards 3; lies 0 4; winds 1;").bare(2), 2);
    }

    private static void deposit0To9() {
        for (int heap = 0; heap <= 12; heap++) {
            LakeBins lake = Due.told("yards 2; person k child carries 9 brings 0; lies 1 " + heap + ";");
            for (int most = 0; most <= heap + 1; most++) {
                int least = Math.max(0, heap - most);
                Due.due("no more than " + most + " of " + heap, lake.deposit(most), least <= 9 ? least : -1);
            }
        }
        Due.due("nobody takes up", Due.told("lies 0 5;").deposit(4), -1);
        Due.due("nobody has to", Due.told("lies 0 5;").deposit(5), 0);
        Due.due("nothing lies", new LakeBins().deposit(0), 0);
    }

    private static void depositMost0To999() {
        LakeBins lake = new LakeBins();
        for (int most : Due.outside(0, 999)) {
            Due.due("deposit " + most, lake.deposit(most), -1);
        }
        Due.due("0", lake.deposit(0), 0);
        Due.due("1", lake.deposit(1), 0);
        Due.due("998", lake.deposit(998), 0);
        Due.due("999", lake.deposit(999), 0);
        LakeBins much = Due.told("yards 2; person a plain carries 0 brings 9; lies 0 99; lies 1 9; drops has * (heap < 999);");
        for (int i = 0; i < 100; i++) {
            much.walk(0);
        }
        Due.due("1008 lie", much.lies(), 1008);
        Due.due("more than the most", much.deposit(999), -1);
    }

    private static void depositWhateverIsTold() {
        for (int told = 0; told <= 9; told++) {
            LakeBins lake = Due.told("yards 2; person k child carries 9 brings 0; lies 1 9; deposit " + told + ";");
            Due.due("4 of 9, told " + told, lake.deposit(4), 5);
            Due.due("the told one stays", lake.count(8), told);
            Due.due("it is in force", lake.leaves(0, 11), told);
        }
    }

    private static void weeksSeed0To9999() {
        LakeBins lake = Due.told("person a plain carries 0 brings 1;");
        for (int seed : Due.outside(0, 9999)) {
            Due.due("seed " + seed, lake.weeks(seed, 1, 0), -1);
        }
        Due.due("seed 0", lake.weeks(0, 1, 0), 3);
        Due.due("seed 9999", lake.weeks(9999, 1, 0), 3);
    }

    private static void weeksHours1To99() {
        LakeBins lake = Due.told("person a plain carries 9 brings 1;");
        for (int hours : Due.outside(1, 99)) {
            Due.due("hours " + hours, lake.weeks(1, hours, 0), -1);
        }
        for (int hours = 1; hours <= 99; hours++) {
            Due.due("three go home an hour", lake.weeks(7, hours, 1), 3 * hours);
        }
    }

    private static void weeksWhat0To2() {
        LakeBins lake = Due.told("person a plain carries 9 brings 1;");
        for (int what : Due.outside(0, 2)) {
            Due.due("weeks " + what, lake.weeks(1, 1, what), -1);
        }
    }

    /** Weeks count from now on: something went home and was paid ahead of them. */
    private static LakeBins begun(String text) {
        LakeBins lake = Due.told(text);
        for (int i = 0; i < 12; i++) {
            lake.walk(0);
        }
        lake.hour();
        lake.empty(0);
        return lake;
    }

    /** The same weeks done by hand, with draws of the test's own. */
    private static void weeksByHand(String text, int seed, int hours) {
        LakeBins asked = begun(text);
        LakeBins done = begun(text);
        int home = done.count(5);
        int paid = done.count(7);
        int people = done.count(1);
        long g = seed;
        for (int hour = 0; hour < hours; hour++) {
            for (int i = 0; i < 3; i++) {
                g = (g * 1103515245L + 12345L) % 2147483648L;
                done.walk((int) (g / 65536 % people));
            }
            g = (g * 1103515245L + 12345L) % 2147483648L;
            if (g / 65536 % 5 == 0) {
                done.empty(0);
                done.empty(3);
            }
            done.hour();
        }
        String which = " of " + hours + " hours by " + seed + " with " + people;
        Due.due("lies" + which, asked.weeks(seed, hours, 0), done.lies());
        Due.due("home" + which, asked.weeks(seed, hours, 1), done.count(5) - home);
        Due.due("paid" + which, asked.weeks(seed, hours, 2), done.count(7) - paid);
    }

    private static void weeksByDraws() {
        StringBuilder text = new StringBuilder("yards 4; bin 0 holds 9; bin 3 holds 30; winds 1 2 0; deposit 2; pence 7;");
        for (int people = 1; people <= 6; people++) {
            text.append("person ").append((char) ('a' + people)).append(' ').append(KINDS[people % 4]).append(" carries ").append(people)
                .append(" brings ").append(people + 1).append(";");
            for (int seed : new int[] {0, 1, 2, 4711, 9998, 9999}) {
                weeksByHand(text.toString(), seed, 1);
                weeksByHand(text.toString(), seed, 2);
                weeksByHand(text.toString(), seed, 13);
                weeksByHand(text.toString(), seed, 90);
            }
        }
    }

    private static void weeksHomeAndPaidByThese() {
        LakeBins lake = Due.told("yards 2; person a plain carries 9 brings 2; bin 1 holds 1; pence 9;");
        lake.walk(0);
        lake.walk(0);
        lake.empty(1);
        lake.walk(0);
        Due.due("home ahead", lake.count(5), 4);
        Due.due("paid ahead", lake.count(7), 9);
        Due.due("home in one hour", lake.weeks(1, 1, 1), 6);
        Due.due("paid in one hour, drawn 17515", lake.weeks(1, 1, 2), 9);
        Due.due("what lies", lake.weeks(1, 1, 0), 0);
    }

    private static void weeksWithoutPeople() {
        LakeBins lake = Due.told("yards 2; bin 0 holds 3; bin 1 holds 3; pence 9; lies 0 7; winds 1;");
        for (int seed : new int[] {0, 1, 2, 9999}) {
            long g = seed;
            int paid = 0;
            for (int hours = 1; hours <= 30; hours++) {
                g = (g * 1103515245L + 12345L) % 2147483648L;
                paid += g / 65536 % 5 == 0 ? 18 : 0;
                Due.due("paid in " + hours + " by " + seed, lake.weeks(seed, hours, 2), paid);
            }
            Due.due("lies", lake.weeks(seed, 30, 0), 7);
            Due.due("home", lake.weeks(seed, 30, 1), 0);
        }
    }

    private static void weeksAllIsAsAhead() {
        LakeBins lake = Due.told("yards 2; person a plain carries 0 brings 4; bin 0 holds 3; winds 1; pence 9;");
        lake.hour();
        lake.walk(0);
        for (int what = 0; what < 3; what++) {
            lake.weeks(5, 99, what);
        }
        Due.counts("as ahead", lake, 2, 1, 1, 1, 1, 0, 0, 0, 0, 0, 0, 2, 0);
        Due.lying("as ahead", lake, 1, 0);
        Due.due("the same again", lake.weeks(5, 99, 0), lake.weeks(5, 99, 0));
    }
}
