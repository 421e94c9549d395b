/** Promises 2 to 4: the tape, its tokens, paths, days and their faults. */
public final class ReadingTest {
    private static final String ANN = "person ann plain carries 1 brings 3;";

    public static void main(String[] args) {
        signs();
        theTapeIsFull();
        readingTakesTheTape();
        tokens();
        pathLines();
        names();
        lawFaults();
        lawsNested();
        dayLines();
        faultsLeaveAllAsItIs();
        aPathBeginsAnew();
        Due.end();
    }

    private static void faultOfPath(String text, int kind, int place) {
        Due.due("path " + text, Due.path(new LakeBins(), text), kind == 0 ? 0 : kind + 16 * place);
    }

    private static void faultOfDay(String text, int kind, int place) {
        LakeBins lake = Due.told(ANN + "person heap dog carries 1 brings 3;");
        Due.due("day " + text, Due.day(lake, text), kind == 0 ? 0 : kind + 16 * place);
        Due.due("tape behind day " + text, lake.count(12), 0);
    }

    private static void signs() {
        LakeBins lake = new LakeBins();
        Due.due("no signs", lake.feed(0, 0, 0), 0);
        Due.due("signs left out", lake.feed(0x00010A1F207E7F80L, -1L, 0x0B0C0D0E61FF0962L), 5);
        Due.due("more of them", lake.feed(0x4142434445464748L, 0x6162636465666768L, 0x3031323334353637L), 29);
        Due.due("tape", lake.count(12), 29);
        lake = new LakeBins();
        lake.feed(0x79000061L, Due.eight("rds 3", 0), Due.eight(";", 0));
        Due.due("order of bytes", lake.path(), 0);
        Due.due("yards", lake.count(0), 3);
    }

    private static void theTapeIsFull() {
        LakeBins lake = new LakeBins();
        String text = "yards 3;" + " ".repeat(991) + "?!";
        Due.due("beyond 1000", Due.feed(lake, text), 1000);
        Due.due("more beyond", lake.feed(Due.eight("ab", 0), 0, 0), 1000);
        Due.due("the last sign", lake.path(), 1 + 16 * 999);
        Due.due("only blanks beyond", Due.feed(lake, "yards 3;" + " ".repeat(992) + "??"), 1000);
        Due.due("the end", lake.path(), 0);
        Due.due("the fault at 1000", Due.path(lake, "yards 3" + " ".repeat(993)), 1 + 16 * 1000);
    }

    private static void readingTakesTheTape() {
        LakeBins lake = new LakeBins();
        Due.feed(lake, "yards 3;");
        Due.due("path", lake.path(), 0);
        Due.due("tape behind path", lake.count(12), 0);
        Due.due("an empty path", lake.path(), 0);
        Due.due("is one of 6 yards", lake.count(0), 6);
        Due.due("an empty day", lake.day(), 0);
        Due.due("fault", Due.path(lake, "yards"), 1 + 16 * 5);
        Due.due("tape behind a fault", lake.count(12), 0);
        Due.due("feed anew", Due.feed(lake, "hour;"), 5);
        lake.path();
        Due.path(lake, "yards 00000 yardsyards");
        Due.due("what stood there ahead is gone", Due.path(lake, "yards 9"), 4 + 16 * 6);
        Due.due("is gone", Due.path(lake, "pence 3;yards 9"), 4 + 16 * 14);
        Due.due("is gone", Due.path(lake, "yards 3;person"), 1 + 16 * 14);
    }

    private static void tokens() {
        faultOfPath("yards3;pence7;", 0, 0);
        faultOfPath("\nyards\n\n 3 ;\n", 0, 0);
        faultOfPath("yards 0003;", 0, 0);
        faultOfPath("yards 00003;", 1, 6);
        faultOfPath("yards 12345", 1, 6);
        faultOfPath("yardsyards 3;", 1, 0);
        faultOfPath("  abcdefghi", 1, 2);
        faultOfPath("person abcdefgh plain carries 1brings 2;", 0, 0);
        faultOfPath("person abcdefghi plain", 1, 7);
        faultOfPath("yards 3 , ", 1, 8);
        faultOfPath("Yards 3;", 1, 0);
        faultOfPath(";", 1, 0);
        faultOfPath("7", 1, 0);
        faultOfPath("yards 3;;", 1, 8);
        faultOfPath("   ", 0, 0);
        faultOfPath("yards 3  ", 1, 9);
    }

    private static void pathLines() {
        faultOfPath("yards 1;", 4, 6);
        faultOfPath("yards 2;", 0, 0);
        faultOfPath("yards 8;", 0, 0);
        faultOfPath("yards 9;", 4, 6);
        faultOfPath("yards x;", 1, 6);
        faultOfPath("yards 3; yards 3;", 3, 9);
        faultOfPath("yards 3; pence 1; deposit 1; winds 1; drops 1; takes 1; yards", 3, 56);
        faultOfPath("yards 3; pence 1; deposit 1; winds 1; drops 1; takes 1; winds", 3, 56);
        faultOfPath("bin 0 holds 30; bin 7 holds 1;", 0, 0);
        faultOfPath("bin 8 holds 0;", 4, 4);
        faultOfPath("bin 0 holds 31;", 4, 12);
        faultOfPath("bin 0 holds 0;", 4, 12);
        faultOfPath("bin 0 3;", 1, 6);
        faultOfPath("bin 3 holds 3; bin 3 holds 4;", 3, 19);
        faultOfPath("lies 0 99; lies 7 0;", 0, 0);
        faultOfPath("lies 0 100;", 4, 7);
        faultOfPath("lies 8 1;", 4, 5);
        faultOfPath("lies 2 0; lies 2 0;", 3, 15);
        faultOfPath("lies 2 0; lies 3 0; lies 2 0;", 3, 25);
        faultOfPath("bin 2 holds 1; bin 3 holds 1; bin 2 holds 1;", 3, 34);
        faultOfPath("lies 2;", 1, 6);
        faultOfPath("winds 0 1 2 0 1 2 0 1 2 0 1 2;", 0, 0);
        faultOfPath("winds 0 1 2 0 1 2 0 1 2 0 1 2 0;", 5, 30);
        faultOfPath("winds 0 1 2 0 1 2 0 1 2 0 1 2 3;", 4, 30);
        faultOfPath("winds 0 1 2 0 1 2 0 1 2 0 1 2 00000;", 1, 30);
        faultOfPath("winds 3;", 4, 6);
        faultOfPath("winds 0 1 3;", 4, 10);
        faultOfPath("winds;", 1, 5);
        faultOfPath("winds 1; winds 1;", 3, 9);
        faultOfPath("pence 99;", 0, 0);
        faultOfPath("pence 100;", 4, 6);
        faultOfPath("pence 1; pence 1;", 3, 9);
        faultOfPath("deposit 9;", 0, 0);
        faultOfPath("deposit 10;", 4, 8);
        faultOfPath("deposit 1; deposit 1;", 3, 11);
        faultOfPath("walk ann;", 1, 0);
        faultOfPath("holds 3;", 1, 0);
        faultOfPath("drops 1; drops 1;", 3, 9);
        faultOfPath("takes 1; takes 1;", 3, 9);
    }

    private static void names() {
        faultOfPath("person a plain carries 9 brings 9;", 0, 0);
        faultOfPath("person a plain carries 10 brings 9;", 4, 23);
        faultOfPath("person a plain carries 9 brings 10;", 4, 32);
        faultOfPath("person a plane carries 9 brings 9;", 1, 9);
        faultOfPath("person a plain brings 9 carries 9;", 1, 15);
        faultOfPath("person a plain carries 9 holds 9;", 1, 25);
        faultOfPath("person 3 plain", 1, 7);
        faultOfPath("person ;", 1, 7);
        for (String word : ("yards person carries brings bin holds lies winds pence deposit drops takes walk empty"
                + " put off sweep hour plain tidy dog child not and or").split(" ")) {
            faultOfPath("person " + word + " plain carries 1 brings 1;", 1, 7);
        }
        for (String word : "heap near has far x binbin no".split(" ")) {
            faultOfPath("person " + word + " plain carries 1 brings 1;", 0, 0);
        }
        String six = "";
        for (int i = 0; i < 6; i++) {
            six += "person " + (char) ('a' + i) + " dog carries 0 brings 1;";
        }
        faultOfPath(six, 0, 0);
        faultOfPath(six + "person", 5, six.length());
        faultOfPath(six + "person a", 5, six.length());
        faultOfPath(ANN + ANN, 3, ANN.length() + 7);
        faultOfPath(ANN + "person an dog carries 1 brings 1;", 0, 0);
    }

    private static void lawFaults() {
        faultOfPath("drops ;", 1, 6);
        faultOfPath("drops", 1, 5);
        faultOfPath("drops 9999;", 0, 0);
        faultOfPath("drops 1 2;", 1, 8);
        faultOfPath("drops 1 + ;", 1, 10);
        faultOfPath("drops 1 - - 1;", 1, 10);
        faultOfPath("drops -1;", 1, 6);
        faultOfPath("drops 1 = 1 = 1;", 1, 12);
        faultOfPath("drops 1 = 1 < 1;", 1, 12);
        faultOfPath("drops (1 = 1) = 1 and 2 < 3;", 0, 0);
        faultOfPath("drops 1 and;", 1, 11);
        faultOfPath("drops and 1;", 1, 6);
        faultOfPath("drops (1;", 1, 8);
        faultOfPath("drops 1);", 1, 7);
        faultOfPath("drops ();", 1, 7);
        faultOfPath("drops heaps;", 1, 6);
        faultOfPath("drops heap near;", 1, 11);
        faultOfPath("drops not;", 1, 9);
        faultOfPath("drops heap+near*has-far<1or 2;", 0, 0);
        faultOfPath("takes bin;", 1, 6);
    }

    private static void lawsNested() {
        faultOfPath("drops not not not not 1;", 0, 0);
        faultOfPath("drops not not not not not 1;", 5, 26);
        faultOfPath("drops not not not not not not", 5, 26);
        faultOfPath("drops not not not not not (", 5, 26);
        faultOfPath("drops not not not not not far", 5, 26);
        faultOfPath("drops not not not not not ;", 1, 26);
        faultOfPath("drops not not not not not", 1, 25);
        faultOfPath("drops ((((1))));", 0, 0);
        faultOfPath("drops (((((1)))));", 5, 11);
        faultOfPath("drops (not (not 1));", 0, 0);
        faultOfPath("drops (not (not (1)));", 5, 17);
        faultOfPath("drops ((((1)))) + not (((1))) * ((((2)) + (1)));", 0, 0);
    }

    private static void dayLines() {
        faultOfDay("", 0, 0);
        faultOfDay("walk ann; empty 0; put 7 30; off 7; sweep 7; hour;", 0, 0);
        faultOfDay("walk heap;", 0, 0);
        faultOfDay("walk near;", 2, 5);
        faultOfDay("walk dog;", 1, 5);
        faultOfDay("walk 1;", 1, 5);
        faultOfDay("walk abcdefghi;", 1, 5);
        faultOfDay("walk;", 1, 4);
        faultOfDay("walk ann", 1, 8);
        faultOfDay("yards 3;", 1, 0);
        faultOfDay("empty 8;", 4, 6);
        faultOfDay("put 8 0;", 4, 4);
        faultOfDay("put 7 0;", 4, 6);
        faultOfDay("put 7 31;", 4, 6);
        faultOfDay("put 7;", 1, 5);
        faultOfDay("off 8;", 4, 4);
        faultOfDay("sweep 8;", 4, 6);
        faultOfDay("sweep 1 1;", 1, 8);
        faultOfDay("hour 1;", 1, 5);
        String forty = "hour;".repeat(40);
        faultOfDay(forty, 0, 0);
        faultOfDay(forty + "hour;", 5, 200);
        faultOfDay(forty + "walk nobody;", 5, 200);
        faultOfDay(forty + "ours;", 1, 200);
        faultOfDay(forty + ";", 1, 200);
    }

    private static void faultsLeaveAllAsItIs() {
        LakeBins lake = Due.told("yards 3;" + ANN + "lies 1 5;");
        Due.due("day", Due.day(lake, "hour; hour;"), 0);
        lake.hour();
        lake.find(1, 1);
        lake.mark(2, false);
        Due.due("fault", Due.path(lake, "yards 4; bin 0 holds 3; lies 0 4; pence 3; deposit 2; x"), 1 + 16 * 54);
        Due.due("yards", lake.count(0), 3);
        Due.due("people", lake.count(1), 1);
        Due.due("bins", lake.count(2), 0);
        Due.due("hour", lake.count(3), 1);
        Due.due("deposit", lake.count(8), 0);
        Due.due("lines", lake.count(9), 2);
        Due.due("found", lake.count(10), 1);
        Due.due("undone", lake.count(11), 1);
        Due.due("lies", lake.lies(), 5);
        Due.due("mark", lake.mark(2, true), true);
        Due.due("fault of a day", Due.day(lake, "hour; hour; hour; hours;"), 1 + 16 * 18);
        Due.due("lines stay", lake.count(9), 2);
    }

    private static void aPathBeginsAnew() {
        LakeBins lake = Due.told("yards 3;" + ANN + "deposit 3; bin 0 holds 4; lies 1 5; drops 1; takes 1; winds 1;");
        Due.due("day", Due.day(lake, "hour; hour;"), 0);
        lake.walk(0);
        lake.hour();
        lake.empty(0);
        lake.find(1, 1);
        lake.mark(2, false);
        Due.due("path", Due.path(lake, "lies 0 1;"), 0);
        int[] want = {6, 0, 0, 0, 0, 0, 0, 0, 0, 0, 0, 0, 0};
        for (int what = 0; what < want.length; what++) {
            Due.due("count " + what, lake.count(what), want[what]);
        }
        Due.due("lies", lake.lies(), 1);
        Due.due("mark", lake.mark(2, true), false);
        Due.due("undo", lake.undo(), false);
        Due.path(lake, ANN);
        Due.due("takes as without", lake.person(0, 3), 3);
        Due.due("drops as without", lake.from(0, 0), 0);
        Due.due("the usual pence", lake.put(0, 1) ? lake.empty(0) + lake.count(7) : -1, 5);
    }
}
