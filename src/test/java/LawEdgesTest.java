/** The sentences on an E that name a boundary (promises 3, 6, 10 and 28), a test for each. */
public final class LawEdgesTest {
    private static final String WALKER = "yards 4; person p plain carries 3 brings 5;";

    public static void main(String[] args) {
        oneTestOrMoreFromTheLeft();
        aTestComparesOnce();
        sumsAndProducts();
        parts();
        noPartWithin5();
        depthIsLeftBehindAPart();
        tooDeepIsTheLeastFaultThere();
        oneOrZero();
        whatIsNot0IsSo();
        intsWrap();
        nearIs9IfThereIsNone();
        nearLeavesThisOneOut();
        nearPassesFullBins();
        heapIsWhatLiesThereNow();
        hasIsWhatIsInHand();
        farIsWhatHeCarries();
        takesHeapIsAllThatLies();
        takesNearOfYard0Is0();
        takesHasIsWhatHeBrings();
        takes0To9();
        drops0ToWhatHeHas();
        withoutLaws();
        aShorterLawBehindALongerOne();
        theLongestLaw();
        Due.end();
    }

    private static void value(String law, int want) {
        Due.due("takes " + law, Due.told(WALKER + "takes " + law + ";").person(0, 3), want);
    }

    private static void both(int kind, String law) {
        Due.pathFault(kind, "drops " + law + ";");
        Due.pathFault(kind, "takes " + law + ";");
    }

    private static void oneTestOrMoreFromTheLeft() {
        both(1, "^");
        both(0, "1");
        both(0, "1 and 2");
        both(0, "1 or 2 and 3 or 4");
        both(1, "^and 1");
        both(1, "1 and ^");
        both(1, "1 and ^or 2");
        both(1, "1 ^not 2");
        value("1 or 0 and 0", 0);
        value("0 and 0 or 1", 1);
        value("0 and 1 or 1 and 1 or 0", 1);
        value("1 or 1 and 0 or 0", 0);
    }

    private static void aTestComparesOnce() {
        both(0, "1 < 2");
        both(1, "1 < 2 ^< 3");
        both(1, "1 < 2 ^= 3");
        both(1, "1 = 2 ^= 3");
        both(1, "1 = 2 ^< 3");
        both(0, "1 < 2 and 3 < 4 or 5 = 6");
        both(0, "(1 < 2) < 3");
        both(0, "1 < (2 < 3)");
        both(1, "1 <^");
        both(1, "^< 1");
        value("2 < 2", 0);
        value("2 < 3", 1);
        value("3 < 2", 0);
        value("2 = 2", 1);
        value("2 = 3", 0);
        value("0 - 1 < 0", 1);
        value("1 + 1 < 1 + 2", 1);
        value("1 < 2 and 2 < 1", 0);
        value("5 and 2 < 3", 1);
    }

    private static void sumsAndProducts() {
        value("1 + 2 * 3", 7);
        value("2 * 3 + 1", 7);
        value("9 - 4 - 3", 2);
        value("9 - 4 + 3", 8);
        value("2 * 2 * 2", 8);
        value("(1 + 2) * 3", 9);
        both(1, "1 + ^");
        both(1, "1 * ^");
        both(1, "^+ 1");
        both(1, "^- 1");
        both(1, "1 - ^- 1");
        both(1, "1 * ^* 1");
        both(1, "1 + ^< 2");
    }

    private static void parts() {
        both(0, "0");
        both(0, "9999");
        both(1, "^99999");
        for (String fact : "heap near has far".split(" ")) {
            both(0, fact);
            both(0, "not " + fact);
            both(1, "^" + fact + "s");
            both(1, fact + " ^" + fact);
        }
        for (String word : "yards carries brings lies holds plain and or x".split(" ")) {
            both(1, "^" + word);
            both(1, "1 + ^" + word);
            both(1, "not ^" + word);
            both(1, "(^" + word + ")");
        }
        both(1, "(^)");
        both(1, "(1^");
        both(1, "1^)");
        both(1, "(1)^)");
        both(1, "(1 ^2)");
        both(1, "not^");
        both(0, "not not 1");
        both(0, "not(1)");
        value("not 1 + 1", 1);
        value("not 0 * 4", 4);
        value("not (0 * 4)", 1);
        value("not 5 = 0", 1);
        value("not (5 = 0)", 1);
        value("not (0 = 0)", 0);
    }

    private static void noPartWithin5() {
        String[] parts = {"1", "heap", "near", "has", "far"};
        for (String part : parts) {
            both(0, part);
            for (int nots = 0; nots <= 5; nots++) {
                StringBuilder open = new StringBuilder();
                StringBuilder close = new StringBuilder();
                for (int i = 0; i < 5; i++) {
                    open.append(i < nots ? "not " : "(");
                    close.append(i < nots ? "" : ")");
                }
                both(5, open + "^" + part + close);
                String four = open.substring(0, open.length() - (nots == 5 ? 4 : 1));
                both(0, four + part + (close.length() > 0 ? close.substring(1) : ""));
            }
        }
        both(0, "(not (not 1))");
        both(5, "(not (not (^1)))");
        both(5, "not (not (not ^1))");
        both(0, "not not (not 1)");
        both(5, "not not (not (^1))");
        both(5, "not not not (not ^(1))");
    }

    private static void depthIsLeftBehindAPart() {
        both(0, "((((1)))) + ((((2)))) * not not not not 3 < ((((4)))) and not (((5)))");
        both(0, "((((1)) + ((2)))) or 3");
        both(0, "(not not not 1) + (not not not 2)");
        both(0, "not (not not 1 + (2) * not 3)");
        both(5, "((((1)))) + (((((^2)))))");
        both(5, "((((1 + (^2)))))");
        both(5, "((((not ^2))))");
        both(5, "(((1 + (2) + (3 * (^4)))))");
        both(5, "(((1))) and ((1) or ((2 < not (^not 4))))");
    }

    private static void tooDeepIsTheLeastFaultThere() {
        both(5, "not not not not not ^not 1");
        both(5, "not not not not not ^(1)");
        both(5, "(((((^(1))))))");
        both(5, "(((((^not 1)))))");
        both(1, "not not not not not ^and");
        both(1, "not not not not not ^");
        both(1, "(((((^)))))");
        both(1, "(((((^12345)))))");
        both(1, "(((((^heaps)))))");
        both(1, "(((((^* 1)))))");
        Due.pathFault(1, "drops not not not not not^");
        Due.pathFault(1, "drops (((((^");
        Due.pathFault(1, "drops ((((1)))^");
    }

    private static void oneOrZero() {
        value("5 and 7", 1);
        value("5 or 7", 1);
        value("0 or 7", 1);
        value("7 or 0", 1);
        value("0 or 0", 0);
        value("5 and 0", 0);
        value("0 and 5", 0);
        value("not 5", 0);
        value("not 0", 1);
        value("not not 5", 1);
        value("(3 < 4) + (4 = 4) + (5 and 6) + (7 or 8) + not 0", 5);
        value("(4 < 3) + (4 = 3) + (5 and 0) + (0 or 0) + not 9 + 5", 5);
        value("(0 or 0) + 5", 5);
        value("(0 and 5) + 5", 5);
        value("5 - not 0 - (1 or 0) - (1 and 1) - (1 < 2) - (1 = 1)", 0);
    }

    private static void whatIsNot0IsSo() {
        value("(0 - 1) and 2", 1);
        value("(0 - 9999) or 0", 1);
        value("not (0 - 1)", 0);
        value("256 * 256 * 256 * 128 and 1", 1);
        value("256 * 256 * 256 * 256 or 0", 0);
        value("not (256 * 256 * 256 * 256)", 1);
    }

    private static void intsWrap() {
        value("256 * 256 * 256 * 128 < 0", 1);
        value("256 * 256 * 256 * 128 - 1 < 0", 0);
        value("256 * 256 * 256 * 127 < 0", 0);
        value("256 * 256 * 256 * 256 + 7", 7);
        value("256 * 256 * 256 * 128 - 1 + 1 < 0", 1);
        value("0 - 256 * 256 * 256 * 128 < 0", 1);
        value("9999 * 9999 * 21 < 0", 0);
        value("9999 * 9999 * 22 < 0", 1);
        value("256 * 256 * 256 * 128 * 2", 0);
        value("256 * 256 * 256 * 128", 0);
        value("256 * 256 * 256 * 128 - 1", 9);
    }

    /** By drops near = n a heap of 0 draws, if near is n. */
    private static void near(String rest, int yard, int want) {
        LakeBins lake = Due.told("yards 8; person p plain carries 0 brings 1;" + rest);
        Due.due("near of " + yard + ": " + rest, lake.yard(yard, 3), want);
        for (int near = 0; near < 11; near++) {
            LakeBins asked = Due.told("yards 8; person p plain carries 0 brings 1; drops near = " + near + ";" + rest);
            Due.due("near " + near + " by " + rest, asked.from(0, yard), near == want ? 0 : -1);
        }
    }

    private static void nearIs9IfThereIsNone() {
        near("", 0, 9);
        near("", 7, 9);
        near("bin 7 holds 1;", 0, 7);
        near("bin 7 holds 1;", 1, 6);
        near("bin 7 holds 1;", 6, 1);
        near("bin 6 holds 1; bin 7 holds 1;", 0, 6);
        near("bin 5 holds 1;", 6, 9);
        Due.due("none beyond the yards", Due.told("yards 7; bin 7 holds 1;").yard(0, 3), 9);
    }

    private static void nearLeavesThisOneOut() {
        near("bin 0 holds 1;", 0, 9);
        near("bin 0 holds 1; bin 1 holds 1;", 0, 1);
        near("bin 7 holds 30;", 7, 9);
        near("bin 3 holds 30; bin 7 holds 1;", 3, 4);
        near("bin 3 holds 30; bin 4 holds 1;", 2, 1);
    }

    private static void nearPassesFullBins() {
        LakeBins lake = Due.told("yards 8; person p plain carries 9 brings 1; bin 2 holds 2; bin 5 holds 1; drops 0;");
        Due.due("empty", lake.yard(0, 3), 2);
        lake.walk(0);
        Due.due("one less than full", lake.yard(0, 3), 2);
        lake.walk(0);
        Due.due("full", lake.yard(0, 3), 5);
        Due.due("full, from the one ahead", lake.yard(1, 3), 4);
        lake.walk(0);
        Due.due("both full", lake.yard(0, 3), 9);
        lake.empty(5);
        Due.due("the other one emptied", lake.yard(0, 3), 5);
        lake.empty(2);
        Due.due("emptied", lake.yard(0, 3), 2);
        lake.off(2);
        Due.due("taken away", lake.yard(0, 3), 5);
        lake.put(7, 1);
        lake.off(5);
        Due.due("put", lake.yard(0, 3), 7);
    }

    private static void heapIsWhatLiesThereNow() {
        for (int heap = 0; heap < 100; heap += 33) {
            LakeBins lake = Due.told("yards 3; person p plain carries 0 brings 4; lies 1 " + heap + "; lies 2 7; drops (heap = "
                + heap + ") * 2;");
            Due.due("drops by heap " + heap, lake.leaves(0, 1), 2);
        }
        LakeBins lake = Due.told("yards 2; person k child carries 0 brings 9; lies 0 7; deposit 2; drops (heap = 5) * 3;");
        Due.due("what a child has left of it", lake.leaves(0, 0), 3 - 2);
        lake.walk(0);
        Due.due("then six lie, less two", lake.leaves(0, 0), -2);
        lake.hour();
        lake.sweep(0);
        Due.due("swept", lake.from(0, 0), 5);
    }

    private static void hasIsWhatIsInHand() {
        LakeBins lake = Due.told("yards 3; person p plain carries 0 brings 9; bin 1 holds 3; drops (has < 9) * has;");
        Due.due("nine at yard 0", lake.leaves(0, 0), 0);
        Due.due("six behind the bin", lake.leaves(0, 1), 6);
        Due.due("none at last", lake.leaves(0, 2), 0);
        lake = Due.told("yards 3; person p plain carries 0 brings 9; drops has - 8 + (has < 9) * has;");
        Due.due("one of nine", lake.leaves(0, 0), 1);
        Due.due("all of eight", lake.leaves(0, 1), 8);
    }

    private static void farIsWhatHeCarries() {
        for (int far = 0; far < 10; far++) {
            LakeBins lake = Due.told("yards 2; person p plain carries " + far + " brings 9; drops far * (heap = 1); lies 0 1;");
            Due.due("drops far", lake.leaves(0, 0), far);
            Due.due("takes far", Due.told("person p plain carries " + far + " brings 0; takes far;").person(0, 3), far);
        }
    }

    private static void takesHeapIsAllThatLies() {
        String person = "person p plain carries 3 brings 5; takes heap;";
        Due.due("nothing", Due.told(person).person(0, 3), 0);
        Due.due("eight", Due.told("yards 8; lies 0 1; lies 1 1; lies 2 1; lies 3 1; lies 4 1; lies 5 1; lies 6 1; lies 7 1;"
            + person).person(0, 3), 8);
        Due.due("none beyond", Due.told("yards 7; lies 0 1; lies 7 4;" + person).person(0, 3), 1);
        LakeBins lake = Due.told("yards 2; lies 0 2; lies 1 3;" + person);
        lake.sweep(1);
        Due.due("what lies now", lake.person(0, 3), 2);
    }

    private static void takesNearOfYard0Is0() {
        for (int yard = 0; yard < 8; yard++) {
            LakeBins lake = Due.told("yards 8; person p plain carries 3 brings 5; takes near; bin " + yard + " holds 1;");
            Due.due("to yard " + yard, lake.person(0, 3), yard);
        }
        LakeBins lake = Due.told("yards 8; person p plain carries 3 brings 5; takes near * 1; drops 0;");
        Due.due("to none", lake.person(0, 3), 9);
        lake.put(4, 4);
        Due.due("to one", lake.person(0, 3), 4);
        lake.walk(0);
        Due.due("to a full one", lake.person(0, 3), 9);
        lake.put(7, 1);
        Due.due("to the last one", lake.person(0, 3), 7);
        lake.put(0, 1);
        Due.due("to the first one", lake.person(0, 3), 0);
    }

    private static void takesHasIsWhatHeBrings() {
        for (int brings = 0; brings < 10; brings++) {
            Due.due("has", Due.told("person p plain carries 3 brings " + brings + "; takes has;").person(0, 3), brings);
            Due.due("9 - has", Due.told("person p plain carries 3 brings " + brings + "; takes 9 - has;").person(0, 3), 9 - brings);
        }
    }

    private static void takes0To9() {
        value("0 - 1", 0);
        value("0", 0);
        value("1", 1);
        value("8", 8);
        value("9", 9);
        value("10", 9);
        value("9999", 9);
        value("0 - 9999", 0);
        LakeBins lake = Due.told("yards 2; person p plain carries 9 brings 1; takes 10; drops 0;");
        Due.due("nine come", lake.walk(0), 9);
        lake = Due.told("yards 2; person p plain carries 9 brings 1; takes 0 - 1; drops 0;");
        Due.due("none come", lake.walk(0), 0);
        Due.due("none in hand", lake.hands(0), 0);
    }

    private static void dropsAtFirst(String law, int want) {
        LakeBins lake = Due.told("yards 2; person p plain carries 9 brings 5; lies 0 1; drops (heap = 1) * (" + law + ");");
        Due.due("drops " + law, lake.leaves(0, 0), want);
        Due.due("the others go home by " + law, lake.leaves(0, 9), 5 - want);
    }

    private static void drops0ToWhatHeHas() {
        dropsAtFirst("0 - 9999", 0);
        dropsAtFirst("0 - 1", 0);
        dropsAtFirst("0", 0);
        dropsAtFirst("1", 1);
        dropsAtFirst("4", 4);
        dropsAtFirst("5", 5);
        dropsAtFirst("6", 5);
        dropsAtFirst("9999", 5);
        LakeBins lake = Due.told("yards 2; person p plain carries 9 brings 0; drops 9;");
        Due.due("of nothing", lake.leaves(0, 8), 0);
        Due.due("by no heap", lake.from(0, 0), -1);
        lake = Due.told("yards 2; person p plain carries 9 brings 4; bin 0 holds 3; drops 9;");
        Due.due("of what the bin leaves", lake.leaves(0, 0), 1);
    }

    private static void withoutLaws() {
        LakeBins lake = Due.told("yards 2; person p plain carries 9 brings 4; lies 0 5; drops 0;");
        Due.due("by the law", lake.leaves(0, 0), 0);
        lake = Due.told("yards 2; person p plain carries 9 brings 4; lies 0 5; takes 3;");
        Due.due("without drops", lake.leaves(0, 0), 3);
        lake = Due.told("yards 2; person p plain carries 9 brings 4; lies 0 5; drops has;");
        Due.due("without takes", lake.leaves(0, 0), 4);
        lake = Due.told("yards 2; person p plain carries 9 brings 4; person d dog carries 9 brings 4; lies 0 5; drops heap = 5;");
        Due.due("a law is for all kinds", lake.leaves(1, 0), 1);
    }

    /** Nothing of a longer law is left in a shorter one that is told two paths later. */
    private static void aShorterLawBehindALongerOne() {
        LakeBins lake = new LakeBins();
        String[] laws = {"not not not 0", "not not 1", "5", "6", "(1 + 2) * not 0", "not 0 + not not 4", "7", "8 - 1"};
        int[] want = {1, 1, 5, 6, 3, 2, 7, 7};
        for (int i = 0; i < laws.length; i++) {
            Due.due("path " + i, Due.path(lake, WALKER + "takes " + laws[i] + "; drops " + laws[i] + ";"), 0);
            Due.due("takes " + laws[i] + " behind longer ones", lake.person(0, 3), want[i]);
            Due.due("drops " + laws[i] + " behind longer ones", lake.leaves(0, 0), want[i]);
        }
    }

    /** A law that fills the tape: so long as the tape is, its steps are kept. */
    private static void theLongestLaw() {
        String ahead = "person p plain carries 9 brings 4;takes 1";
        int steps = (1000 - ahead.length() - 5) / 2;
        LakeBins lake = Due.told(ahead + "+1".repeat(steps) + "-" + (steps - 6) + ";");
        Due.due("the longest sum", lake.person(0, 3), 7);
        Due.due("the longest product", Due.told(ahead + "*1".repeat(steps) + "*6;").person(0, 3), 6);
        String deep = "1 and 1 < 1 + 1 * (1 and 1 < 1 + 1 * (1 and 1 < 1 + 1 * (1 and 1 < 1 + 1 * (1 and 1 < 1 + 1 * 2))))";
        Due.due("the most that waits", Due.told("person p plain carries 9 brings 4;takes 8 * (" + deep.replace("(1 and 1 < 1 + 1 * 2)", "2")
            + ");").person(0, 3), 8);
        Due.due("the most that waits, too", Due.told("person p plain carries 9 brings 4;takes " + deep + ";").person(0, 3), 1);
    }
}
