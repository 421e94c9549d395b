/** The sentences on what is there and done by hand that name a boundary (promises 5 to 16, 37 and 38), a test for each. */
public final class HandEdgesTest {
    private static final String KID = "person k child carries 9 brings 5;";

    public static void main(String[] args) {
        yardWhat0To3OthersNone();
        personWhat0To3OthersNone();
        spaceOfAllBins();
        heapsAboveSoMuch();
        liesTogether();
        walkOthersNone();
        emptyOthersNoBinNone();
        emptyPaysAlsoForNothing();
        put1To30AtAYardWithoutOne();
        offOthersNoBinNone();
        offTakesWhatWasInIt();
        sweepOthersNone();
        refusedCallsDoNothing();
        undoNothing();
        undoTheLast16();
        undoEachKind();
        undoneAndDoneAgain();
        undoIsNotForOtherCalls();
        marks0To3();
        nothingOnAMark();
        aMarkHolds();
        aMarkDoesNotHold();
        nothingCanBeUndoneBehindAMark();
        aMarkLaidAgain();
        countWhat0To12();
        Due.end();
    }

    private static void yardWhat0To3OthersNone() {
        for (int yards = 2; yards <= 8; yards++) {
            LakeBins lake = Due.told("yards " + yards + "; lies 0 4; lies " + (yards - 1) + " 7; bin " + (yards - 1) + " holds 6;" + KID);
            lake.walk(0);
            int[] first = {4, 0, 0, yards - 1};
            int[] last = {7, 6, 5, 9};
            for (int what = 0; what < 4; what++) {
                Due.due("the first yard's " + what, lake.yard(0, what), first[what]);
                Due.due("the last yard's " + what, lake.yard(yards - 1, what), last[what]);
                for (int yard : Due.outside(0, yards - 1)) {
                    Due.due("yard " + yard + " of " + yards, lake.yard(yard, what), -1);
                }
            }
            for (int what : Due.outside(0, 3)) {
                Due.due("yard's " + what, lake.yard(0, what), -1);
                Due.due("no yard's " + what, lake.yard(yards, what), -1);
            }
        }
        LakeBins lake = Due.told("bin 0 holds 1;");
        lake.off(0);
        Due.due("no bin any more", lake.yard(0, 1), 0);
        Due.due("nothing in it", lake.yard(0, 2), 0);
    }

    private static void personWhat0To3OthersNone() {
        StringBuilder people = new StringBuilder();
        for (int count = 0; count <= 6; count++) {
            LakeBins lake = Due.told(people + "takes has + 1;");
            for (int what = 0; what < 4; what++) {
                for (int person : Due.outside(0, count - 1)) {
                    Due.due("person " + person + " of " + count, lake.person(person, what), -1);
                }
                for (int person = 0; person < count; person++) {
                    int[] want = {person % 4, 9 - person, person, person + 1};
                    Due.due("person " + person + "'s " + what, lake.person(person, what), want[what]);
                }
            }
            for (int what : Due.outside(0, 3)) {
                Due.due("person's " + what, lake.person(0, what), -1);
            }
            String kind = new String[] {"plain", "tidy", "dog", "child"}[count % 4];
            people.append("person ").append((char) ('a' + count)).append(' ').append(kind)
                .append(" carries ").append(9 - count).append(" brings ").append(count).append(";");
        }
    }

    private static void spaceOfAllBins() {
        LakeBins lake = Due.told("yards 8; person a plain carries 9 brings 4;");
        Due.due("no bins", lake.space(), 0);
        for (int yard = 0; yard < 8; yard++) {
            lake.put(yard, 30);
            Due.due("bins that hold 30", lake.space(), 30 * (yard + 1));
        }
        lake.walk(0);
        Due.due("less four", lake.space(), 236);
        lake.off(0);
        Due.due("less the one with four", lake.space(), 210);
        lake = Due.told("yards 2; person a plain carries 9 brings 4; bin 0 holds 4; bin 1 holds 1;");
        lake.walk(0);
        Due.due("one is full", lake.space(), 1);
        lake.walk(0);
        Due.due("both are full", lake.space(), 0);
        lake.empty(0);
        Due.due("one is emptied", lake.space(), 4);
    }

    private static void heapsAboveSoMuch() {
        LakeBins lake = Due.told("yards 8; lies 0 1; lies 2 5; lies 3 6; lies 7 99;");
        int[][] due = {{-1, 255}, {0, 141}, {1, 140}, {4, 140}, {5, 136}, {6, 128}, {98, 128}, {99, 0}, {100, 0},
            {Integer.MIN_VALUE, 255}, {Integer.MAX_VALUE, 0}};
        for (int[] each : due) {
            Due.due("heaps above " + each[0], lake.heaps(each[0]), each[1]);
        }
        Due.due("nothing lies", new LakeBins().heaps(0), 0);
        Due.due("more than less than nothing", new LakeBins().heaps(-1), 63);
        Due.due("two yards", Due.told("yards 2; lies 1 3; lies 2 3;").heaps(2), 2);
    }

    private static void liesTogether() {
        Due.due("nothing", new LakeBins().lies(), 0);
        StringBuilder text = new StringBuilder("yards 8;");
        for (int yard = 0; yard < 8; yard++) {
            text.append("lies ").append(yard).append(" 99;");
            Due.due("99 each", Due.told(text.toString()).lies(), 99 * (yard + 1));
        }
        LakeBins lake = Due.told("yards 2; person a plain carries 9 brings 9; lies 0 1; bin 1 holds 9;");
        lake.walk(0);
        Due.due("what is in bins does not lie", lake.lies(), 1);
    }

    private static void walkOthersNone() {
        LakeBins lake = Due.told("person a plain carries 9 brings 3; person b plain carries 9 brings 4;");
        Due.due("the first", lake.walk(0), 3);
        Due.due("the last", lake.walk(1), 4);
        for (int person : Due.outside(0, 1)) {
            Due.due("walk " + person, lake.walk(person), -1);
        }
        Due.due("only those two", lake.count(5), 7);
        Due.due("only those two can be undone", lake.count(11), 2);
        Due.due("nobody is told", new LakeBins().walk(0), -1);
    }

    private static void emptyOthersNoBinNone() {
        for (int yards = 2; yards <= 8; yards++) {
            LakeBins lake = Due.told("yards " + yards + "; bin " + (yards - 1) + " holds 3; bin " + yards % 8 + " holds 3; pence 7;" + KID);
            lake.walk(0);
            int before = lake.count(7);
            for (int yard : Due.outside(0, yards - 1)) {
                Due.due("empty " + yard + " of " + yards, lake.empty(yard), -1);
            }
            for (int yard = 1; yard < yards - 1; yard++) {
                Due.due("no bin at " + yard, lake.empty(yard), -1);
            }
            Due.due("nothing is paid", lake.count(7), before);
            Due.due("the last one", lake.empty(yards - 1), yards == 8 ? 2 : 3);
            Due.due("it is empty", lake.yard(yards - 1, 2), 0);
            Due.due("it holds as much", lake.yard(yards - 1, 1), 3);
            Due.due("paid", lake.count(7), 7);
        }
    }

    private static void emptyPaysAlsoForNothing() {
        LakeBins lake = Due.told("bin 0 holds 3; pence 99;" + KID);
        Due.due("nothing was in it", lake.empty(0), 0);
        Due.due("paid", lake.count(7), 99);
        lake.walk(0);
        Due.due("it was full", lake.empty(0), 3);
        Due.due("paid", lake.count(7), 198);
        Due.due("nothing again", lake.empty(0), 0);
        Due.due("paid", lake.count(7), 297);
        Due.due("can be undone", lake.count(11), 4);
    }

    private static void put1To30AtAYardWithoutOne() {
        for (int yards = 2; yards <= 8; yards++) {
            LakeBins lake = Due.told("yards " + yards + ";");
            for (int yard : Due.outside(0, yards - 1)) {
                Due.due("put at " + yard + " of " + yards, lake.put(yard, 5), false);
            }
            for (int holds : Due.outside(1, 30)) {
                Due.due("put " + holds, lake.put(0, holds), false);
            }
            Due.due("no bin yet", lake.count(2), 0);
            Due.due("the least at the first", lake.put(0, 1), true);
            Due.due("the most at the last", lake.put(yards - 1, 30), true);
            Due.due("it holds 1", lake.yard(0, 1), 1);
            Due.due("it holds 30", lake.yard(yards - 1, 1), 30);
            Due.due("there is one", lake.put(0, 2), false);
            Due.due("there is one at the last", lake.put(yards - 1, 29), false);
            Due.due("it stays", lake.yard(0, 1), 1);
            Due.due("it stays at the last", lake.yard(yards - 1, 1), 30);
            Due.due("two bins", lake.count(2), 2);
            Due.due("two can be undone", lake.count(11), 2);
        }
        LakeBins lake = Due.told("bin 0 holds 3;" + KID);
        lake.walk(0);
        Due.due("a full one is there, too", lake.put(0, 9), false);
        Due.due("2 and 29 are as well", lake.put(1, 2) && lake.put(2, 29), true);
        Due.due("what lies is in nobody's way", Due.told("lies 0 9;").put(0, 9), true);
    }

    private static void offOthersNoBinNone() {
        for (int yards = 2; yards <= 8; yards++) {
            LakeBins lake = Due.told("yards " + yards + "; bin " + (yards - 1) + " holds 3; bin " + yards % 8 + " holds 3;");
            for (int yard : Due.outside(0, yards - 1)) {
                Due.due("off " + yard + " of " + yards, lake.off(yard), -1);
            }
            for (int yard = 1; yard < yards - 1; yard++) {
                Due.due("no bin at " + yard, lake.off(yard), -1);
            }
            Due.due("nothing was in it", lake.off(yards - 1), 0);
            Due.due("there is none any more", lake.off(yards - 1), -1);
            Due.due("bins", lake.count(2), yards == 8 ? 1 : 0);
            Due.due("one can be undone", lake.count(11), 1);
        }
    }

    private static void offTakesWhatWasInIt() {
        LakeBins lake = Due.told("bin 0 holds 3; bin 5 holds 30;" + KID);
        lake.walk(0);
        Due.due("a full one", lake.off(0), 3);
        Due.due("the other one", lake.off(5), 2);
        Due.due("nothing lies", lake.lies(), 0);
        Due.due("nothing is paid", lake.count(7), 0);
        Due.due("a new one", lake.put(0, 3), true);
        Due.due("is empty", lake.yard(0, 2), 0);
        Due.due("has space", lake.space(), 3);
        lake.undo();
        lake.undo();
        lake.undo();
        Due.due("it is there again with what was in it", lake.yard(0, 2), 3);
    }

    private static void sweepOthersNone() {
        for (int yards = 2; yards <= 8; yards++) {
            LakeBins lake = Due.told("yards " + yards + "; lies 0 3; lies " + (yards - 1) + " 99; lies " + (yards == 8 ? 1 : yards) + " 9;");
            int lies = lake.lies();
            for (int yard : Due.outside(0, yards - 1)) {
                Due.due("sweep " + yard + " of " + yards, lake.sweep(yard), -1);
            }
            Due.due("it lies yet", lake.lies(), lies);
            Due.due("the first", lake.sweep(0), 3);
            Due.due("the last", lake.sweep(yards - 1), 99);
            Due.due("nothing lies there", lake.sweep(yards - 1), 0);
            Due.due("it lies", lake.lies(), lies - 102);
            Due.due("three can be undone", lake.count(11), 3);
        }
        LakeBins lake = Due.told("bin 0 holds 3; lies 0 3;" + KID);
        lake.walk(0);
        lake.sweep(0);
        Due.due("what is in the bin stays", lake.yard(0, 2), 3);
    }

    private static void refusedCallsDoNothing() {
        LakeBins lake = Due.told("yards 3; bin 0 holds 3; lies 1 3; deposit 2;" + KID);
        lake.walk(0);
        int[] want = new int[13];
        for (int what = 0; what <= 12; what++) {
            want[what] = lake.count(what);
        }
        lake.walk(1);
        lake.walk(-1);
        lake.empty(1);
        lake.empty(3);
        lake.put(0, 3);
        lake.put(1, 31);
        lake.put(1, 0);
        lake.put(3, 1);
        lake.off(1);
        lake.off(-1);
        lake.sweep(3);
        lake.sweep(-1);
        lake.find(3, 1);
        lake.find(0, 100);
        lake.mark(4, false);
        lake.mark(0, true);
        Due.counts("behind refused calls", lake, want);
        Due.lying("behind refused calls", lake, 0, 1, 0);
        Due.due("the walk is what can be undone", lake.undo(), true);
        Due.lying("the walk is undone", lake, 0, 3, 0);
        Due.due("no more", lake.undo(), false);
    }

    private static void undoNothing() {
        LakeBins lake = new LakeBins();
        Due.due("new", lake.undo(), false);
        lake.hour();
        Due.due("one", lake.undo(), true);
        Due.due("none", lake.undo(), false);
        Due.due("none again", lake.undo(), false);
        Due.due("nothing is changed by it", lake.count(3) + lake.count(11), 0);
        lake.hour();
        Due.due("path", Due.path(lake, "yards 3;"), 0);
        Due.due("behind a path", lake.undo(), false);
    }

    private static void undoTheLast16() {
        for (int acts : new int[] {1, 2, 15, 16, 17, 18, 31, 32, 33, 48, 100}) {
            LakeBins lake = new LakeBins();
            for (int i = 0; i < acts; i++) {
                lake.hour();
                Due.due("can be undone behind " + (i + 1), lake.count(11), Math.min(16, i + 1));
            }
            int most = Math.min(16, acts);
            for (int i = 1; i <= most; i++) {
                Due.due("undo " + i + " of " + acts, lake.undo(), true);
                Due.due("the hour behind undo " + i + " of " + acts, lake.count(3), acts - i);
                Due.due("can be undone yet", lake.count(11), most - i);
            }
            Due.due("no more of " + acts, lake.undo(), false);
            Due.due("the hour stays", lake.count(3), acts - most);
        }
    }

    private static void undoEachKind() {
        LakeBins lake = Due.told("yards 3; bin 0 holds 3; lies 1 9; deposit 2; winds 1; pence 4;" + KID);
        lake.walk(0);
        Due.lying("walked", lake, 0, 9, 0);
        lake.undo();
        Due.counts("walk undone", lake, 3, 1, 1, 0, 1, 0, 0, 0, 2, 0, 0, 0, 0);
        Due.lying("walk undone", lake, 0, 9, 0);
        Due.due("walk undone, the bin", lake.yard(0, 2), 0);
        lake.walk(0);
        lake.empty(0);
        lake.undo();
        Due.due("empty undone", lake.yard(0, 2), 3);
        Due.due("empty undone, paid", lake.count(7), 0);
        lake.put(1, 8);
        lake.undo();
        Due.due("put undone", lake.yard(1, 1), 0);
        lake.off(0);
        lake.undo();
        Due.due("off undone, it holds", lake.yard(0, 1), 3);
        Due.due("off undone, in it", lake.yard(0, 2), 3);
        lake.sweep(1);
        lake.undo();
        Due.lying("sweep undone", lake, 0, 9, 0);
        lake.hour();
        lake.undo();
        Due.lying("hour undone", lake, 0, 9, 0);
        Due.due("hour undone, the hour", lake.count(3), 0);
        Due.due("the walk can be undone yet", lake.count(11), 1);
        Due.due("redeemed", lake.count(6), 2);
        lake.undo();
        Due.due("redeemed is undone", lake.count(6), 0);
        lake = Due.told("yards 2; person a plain carries 9 brings 9;");
        lake.walk(0);
        lake.walk(0);
        lake.undo();
        Due.due("one's home is undone", lake.count(5), 9);
    }

    private static void undoneAndDoneAgain() {
        LakeBins lake = Due.told("yards 2; lies 0 99; winds 1;");
        for (int i = 0; i < 20; i++) {
            lake.hour();
        }
        for (int i = 0; i < 10; i++) {
            lake.undo();
        }
        Due.due("six are left", lake.count(11), 6);
        for (int i = 0; i < 12; i++) {
            lake.sweep(0);
        }
        Due.due("sixteen again", lake.count(11), 16);
        for (int i = 0; i < 12; i++) {
            Due.due("undo a sweep", lake.undo(), true);
            Due.due("the hour stays", lake.count(3), 10);
        }
        for (int i = 1; i <= 4; i++) {
            Due.due("undo an hour", lake.undo(), true);
            Due.due("the hour", lake.count(3), 10 - i);
        }
        Due.due("no more", lake.undo(), false);
    }

    private static void undoIsNotForOtherCalls() {
        LakeBins lake = Due.told("yards 3; lies 1 3; bin 0 holds 1;" + KID);
        lake.find(0, 3);
        lake.mark(0, false);
        Due.due("day", Due.day(lake, "hour;"), 0);
        lake.feed(Due.eight("yards", 0), 0, 0);
        lake.place(1, 1, 0);
        lake.weeks(1, 5, 0);
        lake.order(-1);
        lake.rounds(3, 3, 0);
        Due.due("none of these can be undone", lake.count(11), 0);
        lake.hour();
        lake.find(1, 4);
        Due.due("the hour is undone", lake.undo(), true);
        Due.due("what was found stays", lake.count(10), 2);
        Due.due("the tape stays", lake.count(12), 5);
        Due.due("the day stays", lake.count(9), 1);
        Due.due("the mark stays", lake.mark(0, true), true);
    }

    private static void marks0To3() {
        LakeBins lake = new LakeBins();
        for (int mark : Due.outside(0, 3)) {
            Due.due("lay " + mark, lake.mark(mark, false), false);
            Due.due("back to " + mark, lake.mark(mark, true), false);
        }
        for (int mark = 0; mark < 4; mark++) {
            lake.hour();
            Due.due("lay " + mark, lake.mark(mark, false), true);
        }
        for (int mark : new int[] {2, 0, 3, 1, 1}) {
            Due.due("back to " + mark, lake.mark(mark, true), true);
            Due.due("its hour", lake.count(3), mark + 1);
        }
        for (int mark : Due.outside(0, 3)) {
            Due.due("back to " + mark, lake.mark(mark, true), false);
        }
    }

    private static void nothingOnAMark() {
        for (int laid = 0; laid < 4; laid++) {
            LakeBins lake = new LakeBins();
            for (int mark = 0; mark < 4; mark++) {
                Due.due("nothing on " + mark, lake.mark(mark, true), false);
            }
            lake.mark(laid, false);
            lake.hour();
            for (int mark = 0; mark < 4; mark++) {
                if (mark != laid) {
                    Due.due("nothing on " + mark + " by " + laid, lake.mark(mark, true), false);
                }
            }
            Due.due("it stays as it is", lake.count(3), 1);
            Due.due("it can be undone", lake.count(11), 1);
            Due.due("something on " + laid, lake.mark(laid, true), true);
            Due.due("path", lake.path(), 0);
            Due.due("nothing behind a path", lake.mark(laid, true), false);
        }
    }

    private static void aMarkHolds() {
        LakeBins lake = Due.told("yards 3; person k child carries 0 brings 5; person a plain carries 9 brings 4; bin 0 holds 2; bin 2 holds 2;"
            + "lies 1 3; deposit 2; pence 4; winds 1 2;");
        lake.hour();
        lake.walk(0);
        lake.walk(1);
        lake.empty(0);
        lake.off(2);
        lake.put(1, 7);
        lake.find(1, 3);
        int[] counts = new int[11];
        for (int what = 0; what <= 10; what++) {
            counts[what] = lake.count(what);
        }
        int[] yards = new int[12];
        for (int i = 0; i < 12; i++) {
            yards[i] = lake.yard(i / 4, i % 4);
        }
        Due.due("something went home", counts[5] > 0, true);
        Due.due("something is redeemed", counts[6] > 0, true);
        lake.mark(2, false);
        lake.hour();
        lake.walk(0);
        lake.walk(1);
        lake.sweep(0);
        lake.sweep(1);
        lake.empty(0);
        lake.off(1);
        lake.put(2, 3);
        lake.find(1, 4);
        lake.find(0, 4);
        Due.due("back", lake.mark(2, true), true);
        Due.counts("back", lake, counts);
        for (int i = 0; i < 12; i++) {
            Due.due("back, yard " + i / 4 + " " + i % 4, lake.yard(i / 4, i % 4), yards[i]);
        }
        lake = Due.told("yards 2; person a plain carries 0 brings 1;");
        lake.find(0, 1);
        lake.mark(0, false);
        lake.find(0, 2);
        Due.due("nobody", lake.who(), 0);
        lake.mark(0, true);
        Due.due("what was found then", lake.who(), 1);
    }

    private static void aMarkDoesNotHold() {
        LakeBins lake = new LakeBins();
        lake.mark(0, false);
        Due.due("day", Due.day(lake, "hour;"), 0);
        Due.feed(lake, "hour");
        lake.mark(1, false);
        lake.mark(0, true);
        Due.due("the day stays", lake.count(9), 1);
        Due.due("the tape stays", lake.count(12), 4);
        Due.due("other marks stay", lake.mark(1, true), true);
        Due.due("laying one does not end what can be undone", lake.hour() + lake.count(11), 1);
        lake.mark(3, false);
        Due.due("it can be undone yet", lake.undo(), true);
        Due.due("undone", lake.count(3), 0);
        Due.due("back to the mark", lake.mark(3, true), true);
        Due.due("hour 1 again", lake.count(3), 1);
    }

    private static void nothingCanBeUndoneBehindAMark() {
        LakeBins lake = new LakeBins();
        for (int i = 0; i < 20; i++) {
            lake.hour();
        }
        lake.mark(0, false);
        lake.hour();
        Due.due("sixteen", lake.count(11), 16);
        lake.mark(0, true);
        Due.due("none", lake.count(11), 0);
        Due.due("undo", lake.undo(), false);
        Due.due("the hour", lake.count(3), 20);
        lake.hour();
        Due.due("one again", lake.undo(), true);
        Due.due("no more", lake.undo(), false);
        Due.due("the hour", lake.count(3), 20);
    }

    private static void aMarkLaidAgain() {
        LakeBins lake = Due.told("yards 2; lies 0 4;");
        lake.mark(1, false);
        lake.sweep(0);
        lake.mark(1, false);
        lake.put(0, 3);
        lake.mark(1, true);
        Due.due("the later one", lake.lies(), 0);
        Due.due("ahead of the bin", lake.count(2), 0);
        lake.hour();
        lake.mark(1, true);
        Due.due("gone back to again", lake.count(3), 0);
    }

    private static void countWhat0To12() {
        LakeBins lake = Due.told("yards 8; deposit 9; winds 0 2; pence 6; bin 1 holds 1; bin 7 holds 3; lies 0 4; lies 1 2;"
            + "person k child carries 9 brings 5; person a plain carries 9 brings 9;");
        Due.due("day", Due.day(lake, "hour; hour; walk a;"), 0);
        lake.walk(1);
        lake.walk(0);
        lake.empty(1);
        lake.hour();
        lake.find(0, 1);
        lake.find(7, 1);
        lake.find(0, 2);
        Due.feed(lake, "yards");
        Due.counts("all", lake, 8, 2, 2, 1, 2, 10, 6, 6, 9, 3, 2, 4, 5);
        for (int what : Due.outside(0, 12)) {
            Due.due("count " + what, lake.count(what), -1);
        }
    }
}
