import java.util.NoSuchElementException;

/** What the tests share: telling a text, comparing answers, and the end of a test. */
final class Due {
    private static int wrong = 0;

    private Due() {
    }

    static void due(String call, long got, long want) {
        if (got != want) {
            wrong++;
            System.out.println(call + " answered " + got + ", due is " + want);
        }
    }

    static void due(String call, boolean got, boolean want) {
        due(call, got ? 1 : 0, want ? 1 : 0);
    }

    static void end() {
        System.out.println(wrong == 0 ? "all answers are as due" : wrong + " answers are not as due");
        if (wrong != 0) {
            System.exit(1);
        }
    }

    static boolean isWrong() {
        return wrong != 0;
    }

    /** Eight signs as the bytes of a long, the highest first; bytes beyond the text are 0. */
    static long eight(String text, int from) {
        long bytes = 0;
        for (int i = from; i < from + 8; i++) {
            bytes = bytes << 8 | (i < text.length() ? text.charAt(i) & 255 : 0);
        }
        return bytes;
    }

    static int feed(LakeBins lake, String text) {
        int signs = lake.count(12);
        for (int i = 0; i < text.length(); i += 24) {
            signs = lake.feed(eight(text, i), eight(text, i + 8), eight(text, i + 16));
        }
        return signs;
    }

    static int path(LakeBins lake, String text) {
        feed(lake, text);
        return lake.path();
    }

    static int day(LakeBins lake, String text) {
        feed(lake, text);
        return lake.day();
    }

    static LakeBins told(String text) {
        LakeBins lake = new LakeBins();
        due("path " + text, path(lake, text), 0);
        return lake;
    }

    /** The fault that is due of a text in which ^ stands ahead of the wrong token; kind 0: no fault. */
    private static int faultOf(int kind, String marked) {
        return kind == 0 ? 0 : kind + 16 * marked.indexOf('^');
    }

    /** Reads a path; ^ stands ahead of the wrong token. */
    static void pathFault(LakeBins lake, int kind, String marked) {
        due("path " + marked, path(lake, marked.replace("^", "")), faultOf(kind, marked));
    }

    static void pathFault(int kind, String marked) {
        pathFault(new LakeBins(), kind, marked);
    }

    /** Reads a day; ^ stands ahead of the wrong token. */
    static void dayFault(LakeBins lake, int kind, String marked) {
        due("day " + marked, day(lake, marked.replace("^", "")), faultOf(kind, marked));
    }

    /** Numbers that are not from least to most: those next to it, the ends of int, and some that a cut would bring in. */
    static int[] outside(int least, int most) {
        return new int[] {least - 1, least - 2, most + 1, most + 2, Integer.MIN_VALUE, Integer.MIN_VALUE + 1 + most,
            Integer.MAX_VALUE, Integer.MAX_VALUE - 1, 256 * 256 + most, -256 * 256 + least};
    }

    /** The counts 0 to 12. */
    static void counts(String when, LakeBins lake, int... want) {
        for (int what = 0; what < want.length; what++) {
            due(when + ", count " + what, lake.count(what), want[what]);
        }
    }

    /** What lies at the yards from 0 on. */
    static void lying(String when, LakeBins lake, int... want) {
        for (int yard = 0; yard < want.length; yard++) {
            due(when + ", lies at " + yard, lake.yard(yard, 0), want[yard]);
        }
    }

    /** What rests answers, or -99 for its exception. */
    static int rests(LakeBins lake, int gets, int loses, int what) {
        try {
            return lake.rests(gets, loses, what);
        } catch (NoSuchElementException none) {
            return -99;
        }
    }
}
