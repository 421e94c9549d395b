/** Promises 20, 21, 26, 27 and 31 to 35: what is best, who was here, the mean and volunteers at rest. */
public final class SearchTest {
    private static final int LEAST = Integer.MIN_VALUE;
    private static final int MOST = Integer.MAX_VALUE;

    public static void main(String[] args) {
        place();
        move();
        order();
        rounds();
        find();
        whoAndLook();
        mean();
        rests();
        Due.end();
    }

    private static void place() {
        LakeBins lake = Due.told("yards 4; person a plain carries 0 brings 3; person b plain carries 0 brings 3;");
        Due.due("without bins", lake.place(0, 5, 0), 6);
        Due.due("without bins", lake.place(0, 5, 1), 0);
        Due.due("one at 0 for both", lake.place(1, 6, 0), 0);
        Due.due("one at 0 for both", lake.place(4, 6, 1), 1);
        Due.due("two small ones lie best at 0 and 1: b drops one between", lake.place(2, 3, 0), 1);
        Due.due("fewest, then the least set", lake.place(4, 3, 1), 3);
        Due.due("as many as are left over", lake.place(1, 5, 0), 1);
        lake = Due.told("yards 2; bin 0 holds 1; person a plain carries 1 brings 3;");
        Due.due("only where none is", lake.place(2, 30, 1), 2);
        Due.due("less lies", lake.place(2, 30, 0), 0);
        lake = Due.told("yards 2; bin 0 holds 1; bin 1 holds 1; person a plain carries 1 brings 9;");
        Due.due("nowhere", lake.place(4, 30, 1), 0);
        Due.due("nowhere", lake.place(4, 30, 0), lake.all());
        for (int number : new int[] {-1, 31, LEAST, MOST}) {
            Due.due("bins " + number, lake.place(number, 5, 0), -1);
            Due.due("holds " + number, lake.place(1, number, 0), -1);
            Due.due("what " + number, lake.place(1, 5, number), -1);
        }
        Due.due("5 bins", lake.place(5, 5, 0), -1);
        lake = Due.told("yards 2; person a plain carries 0 brings 9; drops has; lies 0 99; lies 1 99; winds 1;");
        for (int i = 0; i < 100; i++) {
            lake.walk(0);
        }
        lake.hour();
        for (int i = 0; i < 56; i++) {
            lake.walk(0);
        }
        Due.due("much lies", lake.lies(), 999 + 598);
        Due.due("much lies by place", lake.place(0, 1, 0), 999 + 598);
        Due.due("much lies by order", lake.order(-1), 999 + 598);
        Due.due("the order", lake.order(0), 0);
        Due.due("much lies by rounds", lake.rounds(1, 1, 0), 999 - 499 + 999);
        Due.due("holds 0", lake.place(1, 0, 0), -1);
        Due.due("what 2", lake.place(1, 5, 2), -1);
    }

    private static void move() {
        Due.due("no bin", new LakeBins().move(), -1);
        LakeBins lake = Due.told("yards 4; person a plain carries 0 brings 3; bin 3 holds 3;");
        Due.due("to yard 0", lake.move(), 8 * 3 + 0);
        lake = Due.told("yards 4; person a plain carries 0 brings 3; bin 0 holds 3;");
        Due.due("it is well there", lake.move(), -1);
        lake = Due.told("yards 8; person a plain carries 9 brings 6; lies 7 9; bin 2 holds 3; bin 4 holds 3;");
        Due.due("nothing is better", lake.move(), -1);
        lake.walk(0);
        Due.due("the moved one is empty, of equal ones the first", lake.move(), 8 * 2 + 0);
        lake = Due.told("yards 3; person a plain carries 9 brings 2; lies 1 9; bin 2 holds 4;");
        Due.due("at the heap, or ahead: the first", lake.move(), 8 * 2 + 0);
        lake = Due.told("yards 2; bin 0 holds 3; bin 1 holds 3; person a plain carries 0 brings 9;");
        Due.due("all taken", lake.move(), -1);
    }

    private static void order() {
        LakeBins lake = Due.told("yards 2; person a plain carries 9 brings 4; person b plain carries 0 brings 3;"
            + "person k child carries 9 brings 0; deposit 4; bin 0 holds 4;");
        Due.due("lies", lake.order(-1), 0);
        Due.due("first", lake.order(0), 0);
        Due.due("second", lake.order(1), 1);
        Due.due("third", lake.order(2), 2);
        lake = Due.told("yards 2; person k child carries 9 brings 0; person a dog carries 0 brings 4;"
            + "person b plain carries 0 brings 1; deposit 9;");
        Due.due("the child last", lake.order(-1), 0);
        Due.due("the dog first", lake.order(0), 1);
        Due.due("second", lake.order(1), 2);
        Due.due("third", lake.order(2), 0);
        Due.due("by numbers one lies", lake.all(), 1);
        for (int what : new int[] {-2, 3, LEAST, MOST}) {
            Due.due("order " + what, lake.order(what), -2);
        }
        lake = new LakeBins();
        lake.put(0, 3);
        Due.due("nobody", lake.order(-1), 0);
        Due.due("nobody", lake.order(0), -2);
    }

    private static void rounds() {
        LakeBins lake = Due.told("yards 2; person a plain carries 0 brings 3; bin 0 holds 3;");
        int[][] lies = {{0, 0, 0}, {2, 0, 0}, {4, 2, 0}};
        int[][] when = {{0, 0, 0}, {0, 2, 2}, {0, 2, 6}};
        for (int hours = 1; hours <= 3; hours++) {
            for (int times = 0; times < 3; times++) {
                String call = "rounds " + hours + " " + times;
                Due.due(call, lake.rounds(hours, times, 0), lies[hours - 1][times]);
                Due.due(call + " when", lake.rounds(hours, times, 1), when[hours - 1][times]);
            }
        }
        Due.due("6 hours", lake.rounds(6, 6, 1), 62);
        lake = Due.told("yards 3; lies 1 4; winds 1 2;");
        Due.due("fewest", lake.rounds(6, 6, 1), 0);
        Due.due("no less lies", lake.rounds(6, 6, 0), 4);
        for (int number : new int[] {-1, 7, LEAST, MOST}) {
            Due.due("hours " + number, lake.rounds(number, 1, 0), -1);
            Due.due("times " + number, lake.rounds(1, number, 0), -1);
            Due.due("what " + number, lake.rounds(1, 1, number), -1);
        }
        Due.due("0 hours", lake.rounds(0, 1, 0), -1);
        Due.due("what 2", lake.rounds(1, 1, 2), -1);
    }

    private static void find() {
        LakeBins lake = Due.told("yards 4;");
        for (int yard : new int[] {-1, 4, 7, LEAST, MOST}) {
            Due.due("find at " + yard, lake.find(yard, 0), false);
        }
        for (int more : new int[] {-100, 100, LEAST, MOST}) {
            Due.due("find " + more, lake.find(0, more), false);
        }
        Due.due("none found", lake.count(10), 0);
        Due.due("find the least", lake.find(0, -99), true);
        Due.due("find the most", lake.find(3, 99), true);
        Due.due("two found", lake.count(10), 2);
        Due.due("in place of the elder", lake.find(3, 0), true);
        Due.due("still two", lake.count(10), 2);
    }

    private static void whoAndLook() {
        LakeBins lake = Due.told("yards 3; lies 0 3; lies 1 3; deposit 1; person a dog carries 0 brings 2;"
            + "person b plain carries 0 brings 2; person c plain carries 0 brings 1; person k child carries 9 brings 0;");
        Due.due("all", lake.who(), 15);
        Due.due("yard 0 parts them: 2, 1, 1, -1", lake.look(), 0);
        lake.find(0, 1);
        Due.due("b or c", lake.who(), 6);
        Due.due("yard 1: 1, 0", lake.look(), 1);
        lake.find(1, 0);
        Due.due("c", lake.who(), 4);
        Due.due("none parts one", lake.look(), -1);
        lake.find(0, -1);
        Due.due("nobody", lake.who(), 0);
        Due.due("none parts nobody", lake.look(), -1);
        lake.find(1, -1);
        Due.due("k", lake.who(), 8);
        lake.sweep(0);
        Due.due("all as it is now", lake.who(), 0);
        lake = Due.told("yards 3; person a plain carries 0 brings 1; person b plain carries 0 brings 1;");
        Due.due("they are alike", lake.look(), -1);
        lake = Due.told("yards 3; person a plain carries 0 brings 1; person b plain carries 0 brings 3;"
            + "person c plain carries 0 brings 3; person d plain carries 0 brings 2;");
        Due.due("yard 0 no, 1: three, 2: two", lake.look(), 2);
    }

    private static void mean() {
        LakeBins lake = Due.told("yards 2; lies 0 1; person a plain carries 0 brings 1; person b plain carries 0 brings 1;"
            + "person c plain carries 0 brings 1;");
        for (int odds = 0; odds <= 10; odds++) {
            Due.due("mean " + odds, lake.mean(odds), 1000 + 300 * odds);
        }
        for (int odds : new int[] {-1, 11, LEAST, MOST}) {
            Due.due("mean " + odds, lake.mean(odds), -1);
        }
        lake = Due.told("yards 2; person a plain carries 0 brings 1; person b plain carries 0 brings 1;"
            + "person c plain carries 0 brings 1; person d child carries 9 brings 0; deposit 9;");
        Due.due("3 * 0.3 * 0.7", lake.mean(3), 630);
        lake = Due.told("yards 2; drops 1 - heap; person a plain carries 0 brings 1; person b plain carries 0 brings 1;"
            + "person c plain carries 0 brings 1; person d plain carries 0 brings 1;");
        Due.due("1 - 0.7 ^ 4 = 0.7599 at yard 0, then one more by two or more: 0.3483", lake.mean(3), 1108);
        Due.due("nobody", Due.told("lies 0 7;").mean(4), 7000);
    }

    private static void rests() {
        LakeBins lake = new LakeBins();
        int[][] wanted = {
            {5, 3, 1, 2}, {2, 5, 0}, {3, 3, 0, 1, 2}, {0, 0, 0, 1, 2, 3}, {5, 1, 1, 2, 3}, {0, 1, 0, 3}, {9, 9, 0, 1, 2},
            {1, 0, 1, 2, 3}, {0, 2, 0}, {9, 2, 1, 2}};
        for (int[] want : wanted) {
            String call = "rests " + want[0] + " " + want[1];
            Due.due(call, Due.rests(lake, want[0], want[1], -1), want.length - 2);
            for (int i = 2; i < want.length; i++) {
                Due.due(call + ", " + (i - 2), Due.rests(lake, want[0], want[1], i - 2), want[i]);
            }
            Due.due(call + ", one more", Due.rests(lake, want[0], want[1], want.length - 2), -99);
        }
        for (int number : new int[] {-1, 10, LEAST, MOST}) {
            Due.due("gets " + number, Due.rests(lake, number, 1, -1), -99);
            Due.due("loses " + number, Due.rests(lake, 1, number, -1), -99);
        }
        for (int what : new int[] {-2, 4, LEAST, MOST}) {
            Due.due("what " + what, Due.rests(lake, 0, 0, what), -99);
        }
    }
}
