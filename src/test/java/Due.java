import java.util.NoSuchElementException;

/** What the tests share: telling a text, comparing answers, and the end of a test. */
final class Due {
    private static int wrong = 0;

    private Due() {
    }

    static void due(String call, long got, long want) {
        if (got != want) {
            wrong++;
            System.out.println(call + " answered " + got + ", due is " + want);
        }
    }

    static void due(String call, boolean got, boolean want) {
        due(call, got ? 1 : 0, want ? 1 : 0);
    }

    static void end() {
        System.out.println(wrong == 0 ? "all answers are as due" : wrong + " answers are not as due");
        if (wrong != 0) {
            System.exit(1);
        }
    }

    static boolean isWrong() {
        return wrong != 0;
    }

    /** Eight signs as the bytes of a long, the highest first; bytes beyond the text are 0. */
    static long eight(String text, int from) {
        long bytes = 0;
        for (int i = from; i < from + 8; i++) {
            bytes = bytes << 8 | (i < text.length() ? text.charAt(i) & 255 : 0);
        }
        return bytes;
    }

    static int feed(LakeBins lake, String text) {
        int signs = lake.count(12);
        for (int i = 0; i < text.length(); i += 24) {
            signs = lake.feed(eight(text, i), eight(text, i + 8), eight(text, i + 16));
        }
        return signs;
    }

    static int path(LakeBins lake, String text) {
        feed(lake, text);
        return lake.path();
    }

    static int day(LakeBins lake, String text) {
        feed(lake, text);
        return lake.day();
    }

    static LakeBins told(String text) {
        LakeBins lake = new LakeBins();
        due("path " + text, path(lake, text), 0);
        return lake;
    }

    /** What rests answers, or -99 for its exception. */
    static int rests(LakeBins lake, int gets, int loses, int what) {
        try {
            return lake.rests(gets, loses, what);
        } catch (NoSuchElementException none) {
            return -99;
        }
    }
}
