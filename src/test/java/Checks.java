/** What the tests by hand share: a row of checks, and short ways to tell an object things. */
abstract class Checks {
    static final int NONE = -1;
    static final int BAD = -2;
    static final int STATE = -3;
    static final int FULL = -4;
    static final int NO = Integer.MIN_VALUE;
    static final int LEAST_INT = Integer.MIN_VALUE;
    static final int MOST_INT = Integer.MAX_VALUE;

    // The rules' numbers, as the document's promise 8 tells them.
    static final int GATE = 0;
    static final int MISS = 1;
    static final int BIRTH = 2;
    static final int FALSE = 3;
    static final int BREAK = 4;
    static final int K = 5;

    // What track tells, by promise 13.
    static final int X = 0;
    static final int Y = 1;
    static final int U = 2;
    static final int V = 3;
    static final int LATEST = 4;
    static final int HITS = 5;
    static final int MISSED = 6;
    static final int MARK = 7;
    static final int ENDED = 8;
    static final int CONFIRMED = 9;

    static final int EVEN = 0;
    static final int HELD = 1;
    static final int BACK = 2;

    private static int checks = 0;
    private static int wrong = 0;
    private static String sentence = "";

    /** The words of the document that the checks behind it are about. */
    static void sentence(String words) {
        sentence = words;
    }

    static void due(String call, int got, int want) {
        checks++;
        if (got != want) {
            wrong++;
            System.out.println((sentence.isEmpty() ? "" : "\"" + sentence + "\": ")
                    + call + " answered " + got + ", due is " + want);
        }
    }

    static void end() {
        System.out.println(checks + " checks, " + wrong + " wrong");
        if (wrong != 0) {
            System.exit(1);
        }
    }

    static WhoIsWho watched(int watchers) {
        WhoIsWho x = new WhoIsWho();
        for (int w = 0; w < watchers; w++) {
            x.watcher();
        }
        return x;
    }

    /** A scan of watcher w at a moment; three numbers a dot: x, y, mark. */
    static int tell(WhoIsWho x, int w, int moment, int... dots) {
        for (int i = 0; i + 2 < dots.length; i += 3) {
            x.dot(dots[i], dots[i + 1], dots[i + 2]);
        }
        return x.scan(w, moment);
    }
}
