/** The sentences on the TAPE and its TOKENS that name a boundary (promises 2 to 4), a test for each. */
public final class TapeEdgesTest {
    private static final String BEHIND_NAME = " dog carries 1 brings 1;";

    public static void main(String[] args) {
        signs10And32To126OthersAreLeftOut();
        whatIsLeftOutPartsNothing();
        upTo24SignsTheHighestByteFirst();
        signsComeBehindTheTape();
        atMost1000Signs();
        whatIsBeyond1000IsLeftOut();
        whatReadsItTakesIt();
        wordsOf8LettersAtMost();
        lettersAToZ();
        numbersOf1To4Digits();
        digits0To9();
        aLetterMayStandRightBehindANumber();
        tokensAsLongAsCanBe();
        blanksWhereOneLikes();
        theSigns();
        allElseIsNone();
        theEndIsATokenAtTheTextsLength();
        Due.end();
    }

    private static void signs10And32To126OthersAreLeftOut() {
        for (int sign = 0; sign < 256; sign++) {
            boolean comes = sign == 10 || sign >= 32 && sign <= 126;
            LakeBins lake = new LakeBins();
            for (int at = 0; at < 24; at++) {
                long[] abc = new long[3];
                abc[at / 8] = (long) sign << 56 - at % 8 * 8;
                Due.due("sign " + sign + " as byte " + at, lake.feed(abc[0], abc[1], abc[2]), comes ? at + 1 : 0);
            }
            Due.due("signs on the tape by " + sign, lake.count(12), comes ? 24 : 0);
        }
        Due.due("all bits", new LakeBins().feed(-1, -1, -1), 0);
    }

    private static void whatIsLeftOutPartsNothing() {
        LakeBins lake = new LakeBins();
        lake.feed(0x79_00_61_09_72_7F_64_1FL, 0x73_FF_80_0B_33_0D_01_3BL, 0);
        Due.due("yards3; with others between", lake.path(), 0);
        Due.due("yards", lake.count(0), 3);
        lake.feed(Due.eight("ya\t\r\u007Frds", 0), Due.eight("\u0000 9", 0), 0);
        Due.due("places count signs on the tape alone", lake.path(), 4 + 16 * 6);
    }

    private static void upTo24SignsTheHighestByteFirst() {
        LakeBins lake = new LakeBins();
        Due.due("24 signs", lake.feed(Due.eight("yards 4;", 0), Due.eight("pence 3;", 0), Due.eight("bin 3 ho", 0)), 24);
        Due.due("6 more", lake.feed(Due.eight("lds ", 0), Due.eight("7", 0), Due.eight(";", 0)), 30);
        Due.due("path", lake.path(), 0);
        Due.due("yards", lake.count(0), 4);
        Due.due("the bin", lake.yard(3, 1), 7);
        Due.due("paid", lake.empty(3) + lake.count(7), 3);
        lake.feed(Due.eight("?", 0), Due.eight("yards", 0), Due.eight("3;", 0));
        Due.due("a is first", lake.path(), 1);
        lake.feed(Due.eight("yards", 0), Due.eight("?", 0), Due.eight("3;", 0));
        Due.due("b is next", lake.path(), 1 + 16 * 5);
        lake.feed(Due.eight("yards", 0), Due.eight("3;", 0), Due.eight("?", 0));
        Due.due("c is last", lake.path(), 1 + 16 * 7);
    }

    private static void signsComeBehindTheTape() {
        LakeBins lake = new LakeBins();
        Due.due("ya", lake.feed(Due.eight("ya", 0), 0, 0), 2);
        Due.due("nothing", lake.feed(0, 0, 0), 2);
        Due.due("rds3", lake.feed(0, 0, Due.eight("rds3", 0)), 6);
        Due.due(";", lake.feed(0, Due.eight(";", 0), 0), 7);
        Due.due("path", lake.path(), 0);
        Due.due("yards", lake.count(0), 3);
    }

    private static void atMost1000Signs() {
        LakeBins lake = new LakeBins();
        Due.due("984", Due.feed(lake, " ".repeat(984)), 984);
        Due.due("998", Due.feed(lake, " ".repeat(14)), 998);
        Due.due("999", Due.feed(lake, " "), 999);
        Due.due("1000", Due.feed(lake, " "), 1000);
        Due.due("1001", Due.feed(lake, "?"), 1000);
        Due.due("1024", Due.feed(lake, "?".repeat(24)), 1000);
        Due.due("nothing more", lake.feed(0, 0, 0), 1000);
        Due.due("signs", lake.count(12), 1000);
        Due.due("the 1000 are read", lake.path(), 0);
        Due.due("then there is room again", Due.feed(lake, "?"), 1);
    }

    private static void whatIsBeyond1000IsLeftOut() {
        LakeBins lake = new LakeBins();
        Due.feed(lake, "yards 3;" + " ".repeat(982));
        Due.due("ten of these 24 come", lake.feed(Due.eight("        ", 0), Due.eight(" ?!!!!!!", 0), Due.eight("!!!", 0)), 1000);
        Due.due("the last one that came", lake.path(), 1 + 16 * 999);
        Due.feed(lake, "yards 3;" + " ".repeat(982));
        Due.due("ten blanks come", lake.feed(Due.eight("        ", 0), Due.eight("  ?!", 0), Due.eight("!!!", 0)), 1000);
        Due.due("none of the others", lake.path(), 0);
        Due.feed(lake, " ".repeat(992) + "yards 3;");
        Due.due("a line that ends at 1000", lake.path(), 0);
        Due.due("it counts", lake.count(0), 3);
        Due.feed(lake, " ".repeat(993) + "yards 4;");
        Due.due("a line whose ; is beyond", lake.path(), 1 + 16 * 1000);
        Due.due("it does not count", lake.count(0), 3);
        Due.feed(lake, "yards 4;" + " ".repeat(987) + "pence");
        Due.due("a word that ends at 1000", lake.path(), 1 + 16 * 1000);
        Due.feed(lake, "yards 4;" + " ".repeat(984) + "abcdefgh");
        Due.due("a word of no line at the end", lake.path(), 1 + 16 * 992);
        Due.feed(lake, "hour;" + " ".repeat(990) + "hour;");
        Due.due("a day of 1000 signs", lake.day(), 0);
        Due.due("its lines", lake.count(9), 2);
        Due.feed(lake, "hour;" + " ".repeat(991) + "hour;");
        Due.due("a day of 1001 signs", lake.day(), 1 + 16 * 1000);
    }

    private static void whatReadsItTakesIt() {
        LakeBins lake = new LakeBins();
        Due.due("path", Due.path(lake, "yards 3;"), 0);
        Due.due("empty behind a path", lake.count(12), 0);
        Due.due("path's fault", Due.path(lake, "yards 9;"), 4 + 16 * 6);
        Due.due("empty behind its fault", lake.count(12), 0);
        Due.due("day", Due.day(lake, "hour;"), 0);
        Due.due("empty behind a day", lake.count(12), 0);
        Due.due("day's fault", Due.day(lake, "hours;"), 1);
        Due.due("empty behind its fault", lake.count(12), 0);
        Due.due("an empty day is one", lake.day(), 0);
        Due.due("without lines", lake.count(9), 0);
        Due.due("an empty path is one", lake.path(), 0);
        Due.due("of 6 yards", lake.count(0), 6);
        Due.feed(lake, "yards 5");
        Due.due("other calls leave it", lake.lies() + lake.hour() + lake.count(12), 7);
        lake.undo();
        lake.mark(0, false);
        lake.mark(0, true);
        Due.feed(lake, ";");
        Due.due("marks and undo leave it", lake.path(), 0);
        Due.due("yards", lake.count(0), 5);
    }

    private static void wordsOf8LettersAtMost() {
        Due.pathFault(0, "person abcdefg" + BEHIND_NAME);
        Due.pathFault(0, "person abcdefgh" + BEHIND_NAME);
        Due.pathFault(1, "person ^abcdefghi" + BEHIND_NAME);
        Due.pathFault(1, "person ^" + "a".repeat(900));
        Due.pathFault(0, "person zzzzzzzz" + BEHIND_NAME + "person zzzzzzzy" + BEHIND_NAME + "person zzzzzzz" + BEHIND_NAME);
        Due.pathFault(3, "person zzzzzzzz" + BEHIND_NAME + "person ^zzzzzzzz" + BEHIND_NAME);
        Due.pathFault(0, "person azzzzzzz" + BEHIND_NAME + "person bzzzzzzz" + BEHIND_NAME);
        LakeBins lake = Due.told("person abcdefgh" + BEHIND_NAME);
        Due.dayFault(lake, 0, "walk abcdefgh;");
        Due.dayFault(lake, 2, "walk ^abcdefg;");
        Due.dayFault(lake, 2, "walk ^bcdefgha;");
        Due.dayFault(lake, 1, "walk ^abcdefghi;");
        Due.pathFault(1, "^aaaaaaaaaaaaayards 3;");
        Due.pathFault(1, "drops ^aaaaaaaaaaaaaheap;");
    }

    private static void lettersAToZ() {
        for (char sign = 33; sign < 127; sign++) {
            boolean letter = sign >= 'a' && sign <= 'z';
            Due.pathFault(letter ? 0 : 1, (letter ? "person " : "person ^") + (sign == '^' ? '~' : sign) + BEHIND_NAME);
            boolean digit = sign >= '0' && sign <= '9';
            if (!letter && !digit && sign != '^') {
                Due.pathFault(1, "person a^" + sign + "b" + BEHIND_NAME);
            }
        }
        Due.due("the sign ^ itself", Due.path(new LakeBins(), "person ^"), 1 + 16 * 7);
    }

    private static void numbersOf1To4Digits() {
        Due.pathFault(0, "yards 8;");
        Due.pathFault(0, "yards 08;");
        Due.pathFault(0, "yards 008;");
        Due.pathFault(0, "yards 0008;");
        Due.pathFault(1, "yards ^00008;");
        Due.pathFault(1, "yards ^" + "0".repeat(900) + "8;");
        Due.pathFault(4, "yards ^9999;");
        Due.pathFault(1, "yards ^10000;");
        Due.pathFault(1, "yards ^4294967299;");
        Due.pathFault(0, "drops 9999;");
        Due.pathFault(1, "drops ^10000;");
        Due.pathFault(0, "drops 0000;");
        Due.pathFault(1, "drops ^00000;");
        Due.due("0009 is 9", Due.told("person a dog carries 1 brings 1; takes 0009;").person(0, 3), 9);
        Due.due("1000 is 1000", Due.told("person a dog carries 1 brings 1; takes 1000 - 993;").person(0, 3), 7);
        Due.dayFault(new LakeBins(), 0, "sweep 0007;");
        Due.dayFault(new LakeBins(), 1, "sweep ^00007;");
    }

    private static void digits0To9() {
        for (char sign = 33; sign < 127; sign++) {
            boolean digit = sign >= '0' && sign <= '9';
            if (sign != '^') {
                Due.pathFault(digit ? 0 : 1, (digit ? "pence " : "pence ^") + sign + ";");
            }
        }
        for (int number = 0; number < 10; number++) {
            LakeBins lake = Due.told("bin 0 holds 1; pence " + number + ";");
            lake.empty(0);
            Due.due("pence " + number, lake.count(7), number);
        }
    }

    private static void aLetterMayStandRightBehindANumber() {
        LakeBins lake = Due.told("bin 1holds 7;person a dog carries 3brings 4;drops 1and 2or 3;");
        Due.due("holds", lake.yard(1, 1), 7);
        Due.due("carries", lake.person(0, 1), 3);
        Due.due("brings", lake.person(0, 2), 4);
        Due.pathFault(0, "bin 0001holds 7;");
        Due.pathFault(1, "bin ^00001holds 7;");
        Due.pathFault(1, "bin 1^x holds 7;");
        Due.pathFault(0, "bin1holds7;lies1 5;yards3;");
        Due.pathFault(0, "person a dog carries1brings1;");
        Due.pathFault(1, "person a^1 dog carries1brings1;");
    }

    private static void tokensAsLongAsCanBe() {
        Due.pathFault(1, "^yardsx 3;");
        Due.pathFault(1, "^yardspen 3;");
        Due.pathFault(1, "drops ^notheap;");
        Due.pathFault(1, "drops 1 ^orhas;");
        Due.pathFault(0, "drops not(heap)or(has);");
        Due.pathFault(1, "lies ^12345;");
        Due.pathFault(4, "lies ^12;");
        Due.dayFault(Due.told("person a dog carries 1 brings 1;"), 1, "^walka;");
        Due.dayFault(new LakeBins(), 1, "^hourhour;");
    }

    private static void blanksWhereOneLikes() {
        Due.pathFault(0, "\n \n  yards \n 3\n\n;\n ");
        Due.pathFault(0, "yards 3;pence 4;deposit 2;");
        Due.pathFault(0, "drops(1)+(2)*3<4and(5=6);");
        Due.pathFault(0, "drops ( 1 )\n+ ( 2 ) * 3 < 4 and ( 5 = 6 ) ;");
        Due.pathFault(1, "^yar ds 3;");
        Due.pathFault(1, "pence 1 ^2;");
        Due.pathFault(1, "pence 1\n^2;");
        Due.pathFault(0, " ");
        Due.pathFault(0, "\n");
        Due.pathFault(0, "");
        Due.pathFault(0, "yards\n3;");
        Due.dayFault(new LakeBins(), 0, "\nhour\n;sweep\n0;\n");
    }

    private static void theSigns() {
        for (char sign = 33; sign < 127; sign++) {
            boolean joins = "<=+-*".indexOf(sign) >= 0;
            if (sign != '^' && sign != ';') {
                Due.pathFault(joins ? 0 : 1, (joins ? "drops 1 " : "drops 1 ^") + sign + " 1;");
            }
        }
        Due.pathFault(0, "drops (1);");
        Due.pathFault(1, "drops ^[1];");
        Due.pathFault(1, "drops ^{1};");
        Due.pathFault(1, "drops (1^];");
        Due.pathFault(1, "drops 1 <^= 1;");
        Due.pathFault(1, "drops 1 =^= 1;");
        Due.pathFault(1, "yards 3^:");
    }

    private static void allElseIsNone() {
        for (char sign = 33; sign < 127; sign++) {
            boolean token = sign >= 'a' && sign <= 'z' || sign >= '0' && sign <= '9' || "()<=+-*;".indexOf(sign) >= 0;
            if (!token && sign != '^') {
                Due.pathFault(1, "^" + sign);
                Due.pathFault(1, "yards ^" + sign + ";");
                Due.pathFault(1, "yards 3 ^" + sign + ";");
                Due.pathFault(1, "drops ^" + sign + ";");
                Due.pathFault(1, "yards 3; ^" + sign);
                Due.dayFault(new LakeBins(), 1, "hour; hour^" + sign);
            }
        }
    }

    private static void theEndIsATokenAtTheTextsLength() {
        Due.pathFault(1, "yards^");
        Due.pathFault(1, "yards 3^");
        Due.pathFault(1, "yards 3  \n^");
        Due.pathFault(1, "drops (1^");
        Due.pathFault(1, "drops not ^");
        Due.pathFault(1, "person^");
        Due.pathFault(1, "person a dog carries 1 brings 1 ^");
        Due.pathFault(1, "winds^");
        Due.pathFault(1, "winds 1 2^");
        Due.pathFault(1, "yards 3" + " ".repeat(993) + "^");
        Due.pathFault(1, "yards 3" + " ".repeat(992) + "^");
        Due.dayFault(new LakeBins(), 1, "walk^");
        Due.dayFault(new LakeBins(), 1, "hour^");
        Due.dayFault(new LakeBins(), 1, "put 1 1 ^");
        Due.dayFault(new LakeBins(), 0, "");
    }
}
