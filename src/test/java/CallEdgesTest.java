/** Promises 1 to 26, sentence by sentence: the edges of each call's own numbers and answers. */
public final class CallEdgesTest extends Checks {
    public static void main(String[] args) {
        newObject();
        newObjectsAreApart();
        watcher();
        shift();
        dot();
        scanAlsoNone();
        scanDotsWaitNoMore();
        dropNumbersOneLess();
        dropHowManyThereAre();
        dropOfNone();
        kind();
        rule();
        worldNumbers();
        worldsThatGo();
        trackNumbers();
        trackWhats();
        accountNumbers();
        foretellMoments();
        foretellNumbers();
        ordered();
        nameMarks();
        nameLeastOfSeveral();
        sureNumbers();
        aliveConfirmedNotEnded();
        pathOfTwelve();
        pathNumbers();
        falseIsNoTrack();
        apartNumbers();
        nearDistances();
        nearFirstMoment();
        nearOfOneMoment();
        nearNumbers();
        pairsNumbers();
        levelNumbers();
        rightKeptWithin();
        rightHowManyChanged();
        rightNumbers();
        counts();
        countNumbers();
        end();
    }

    /** Numbers just outside 0 .. n - 1, and far outside. */
    private static int[] outside(int n) {
        return new int[] {-1, n, LEAST_INT, MOST_INT};
    }

    /** Whatever may be joined, near enough, is; one world. */
    private static WhoIsWho joining(int watchers) {
        WhoIsWho x = watched(watchers);
        x.rule(GATE, 400);
        x.rule(MISS, 100000);
        x.rule(BIRTH, 100000);
        x.rule(FALSE, 100000);
        x.rule(K, 1);
        return x;
    }

    /**
     * Three worlds, of two tracks (marks 3 and 0), one and three; two scans, of two dots and of one.
     */
    private static WhoIsWho ordinary() {
        WhoIsWho x = watched(2);
        tell(x, 0, 4, 0, 0, 3, 500, 0, 0);
        tell(x, 1, 6, 4, -6, 0);
        return x;
    }

    private static void newObject() {
        sentence("WhoIsWho(): No WATCHERS, no SCANS");
        WhoIsWho x = new WhoIsWho();
        for (int what = 0; what < 6; what++) {
            due("count(" + what + ")", x.count(what), 0);
        }
        due("shift", x.shift(0, 0, 0), NONE);
        due("scan", x.scan(0, 0), NONE);
        due("drop", x.drop(0), NONE);
        due("worlds", x.worlds(), 1);
        due("cost", x.cost(0), 0);
        due("gap", x.gap(0), 0);
        due("tracks", x.tracks(0), 0);
        due("track", x.track(0, 0, 0), NO);
        due("account", x.account(0, 0, 0), -2);
        due("foretell", x.foretell(0, 0, 0, 0), NO);
        due("ordered", x.ordered(0), NONE);
        due("name", x.name(1), NONE);
        due("sure", x.sure(0, 0), NONE);
        due("alive", x.alive(0), 0);
        due("path", x.path(0, 0), NONE);
        due("apart", x.apart(0, 1, 0), NONE);
        due("near", x.near(0, 1, 0), NONE);
        due("pairs", x.pairs(0, 1), NONE);
        due("level", x.level(0, 1, 0), NO);
        due("right", x.right(0, 1), NONE);
        due("a DOT may wait ahead of any WATCHER", x.dot(1, 2, 3), 1);
        due("a KIND may be told", x.kind(1, 1), 0);
        due("a rule may be told", x.rule(0, 0), 60);
        due("the first WATCHER", x.watcher(), 0);
        due("the first SCAN", x.scan(0, 0), 0);
        due("has the DOT", x.account(0, 0, 0), 0);
    }

    private static void newObjectsAreApart() {
        sentence("WhoIsWho(): a new object");
        WhoIsWho one = ordinary();
        one.rule(GATE, 7);
        one.kind(3, BACK);
        one.dot(1, 1, 1);
        WhoIsWho other = new WhoIsWho();
        due("its WATCHERS", other.count(0), 0);
        due("its SCANS", other.count(1), 0);
        due("its DOTS that wait", other.count(2), 0);
        due("its GATE", other.rule(GATE, 8), 60);
        due("its KINDS", other.kind(3, HELD), EVEN);
        due("the first one's GATE", one.rule(GATE, 60), 7);
        due("the first one's KINDS", one.kind(3, EVEN), BACK);
    }

    private static void watcher() {
        sentence("A WATCHER more: its number. FULL");
        WhoIsWho x = new WhoIsWho();
        due("first", x.watcher(), 0);
        due("second", x.watcher(), 1);
        due("third", x.watcher(), 2);
        for (int i = 0; i < 5; i++) {
            due("no more", x.watcher(), FULL);
        }
        due("three", x.count(0), 3);
    }

    private static void shift() {
        sentence("SHIFT of a WATCHER: 0. NONE; BAD");
        WhoIsWho x = watched(2);
        due("first", x.shift(0, 1, 2), 0);
        due("last", x.shift(1, -1, -2), 0);
        due("the same again", x.shift(1, -1, -2), 0);
        for (int w : outside(2)) {
            due("watcher " + w, x.shift(w, 0, 0), NONE);
        }
        tell(x, 0, 0, 0, 0, 1);
        tell(x, 1, 0, 0, 0, 2);
        due("x of the first", x.track(0, 0, X), 1);
        due("y of the first", x.track(0, 0, Y), 2);
        due("x of the last", x.track(0, 1, X), -1);
        due("y of the last", x.track(0, 1, Y), -2);
    }

    private static void dot() {
        sentence("A DOT comes for the next SCAN: how many wait. BAD; FULL: 4");
        WhoIsWho x = watched(1);
        for (int i = 1; i <= 4; i++) {
            due("dot", x.dot(i, i, i), i);
            due("wait", x.count(2), i);
        }
        due("a fifth", x.dot(5, 5, 5), FULL);
        x.scan(0, 0);
        due("the first of the next SCAN", x.dot(6, 6, 6), 1);
    }

    private static void scanAlsoNone() {
        sentence("The DOTS that wait (also none) are a SCAN: its number");
        WhoIsWho x = watched(1);
        due("none", x.scan(0, 0), 0);
        due("it is one", x.count(1), 1);
        due("it has no DOTS", x.count(3), 0);
        tell(x, 0, 1, 0, 0, 0);
        due("none again", x.scan(0, 2), 2);
        due("it misses", x.track(0, 0, MISSED), 1);
        due("of all SCANS", x.count(3), 1);
    }

    private static void scanDotsWaitNoMore() {
        sentence("The DOTS that wait, which do so no more");
        for (int dots = 0; dots <= 4; dots++) {
            WhoIsWho x = watched(1);
            for (int i = 0; i < dots; i++) {
                x.dot(0, 0, 0);
            }
            due("wait", x.count(2), dots);
            x.scan(0, 0);
            due("wait no more", x.count(2), 0);
            x.scan(0, 0);
            due("nor are they the next one's", x.count(3), dots);
        }
    }

    private static void dropNumbersOneLess() {
        sentence("A SCAN is taken away, those behind it have numbers 1 less");
        for (int gone = 0; gone < 12; gone++) {
            WhoIsWho x = watched(1);
            x.rule(K, 1);
            // The scan of number s has s % 4 + 1 dots, at moments that make its place in ORDER 11 - s.
            for (int s = 0; s < 12; s++) {
                for (int i = 0; i <= s % 4; i++) {
                    x.dot(s, i, 0);
                }
                x.scan(0, 100 - s);
            }
            x.dot(0, 0, 9);
            due("drop(" + gone + ")", x.drop(gone), 11);
            for (int s = 0; s < 11; s++) {
                int was = s < gone ? s : s + 1;
                due("last DOT of " + s, x.sure(s, was % 4), 1);
                due("none beyond it", x.sure(s, was % 4 + 1), NONE);
                due("ordered", x.ordered(10 - s), s);
            }
            due("no SCAN 11", x.sure(11, 0), NONE);
            due("dots", x.count(3), 30 - (gone % 4 + 1));
            due("the DOT that waits does so still", x.count(2), 1);
        }
    }

    private static void dropHowManyThereAre() {
        sentence("drop: how many there are");
        WhoIsWho x = watched(1);
        for (int i = 0; i < 12; i++) {
            tell(x, 0, i, i, 0, 0);
        }
        for (int left = 11; left >= 0; left--) {
            due("drop", x.drop(left % 2 == 0 ? 0 : left), left);
            due("count(1)", x.count(1), left);
            due("count(3)", x.count(3), left);
        }
        due("tracks", x.tracks(0), 0);
        due("cost", x.cost(0), 0);
        due("worlds", x.worlds(), 1);
        due("a SCAN again is the first", x.scan(0, 0), 0);
    }

    private static void dropOfNone() {
        sentence("drop: NONE");
        WhoIsWho x = watched(1);
        for (int scan : outside(0)) {
            due("without any, " + scan, x.drop(scan), NONE);
        }
        tell(x, 0, 0, 0, 0, 0);
        tell(x, 0, 1, 0, 0, 0);
        for (int scan : outside(2)) {
            due("of two, " + scan, x.drop(scan), NONE);
        }
        due("two", x.count(1), 2);
        due("HITS", x.track(0, 0, HITS), 2);
    }

    private static void kind() {
        sentence("KIND of a MARK: what it was. NONE: not 1 .. 9; BAD");
        WhoIsWho x = new WhoIsWho();
        due("the least", x.kind(1, HELD), EVEN);
        due("the greatest", x.kind(9, BACK), EVEN);
        for (int mark : new int[] {0, -1, 10, LEAST_INT, MOST_INT}) {
            for (int k = EVEN; k <= BACK; k++) {
                due("mark " + mark, x.kind(mark, k), NONE);
            }
        }
        due("1 was", x.kind(1, HELD), HELD);
        due("9 was", x.kind(9, BACK), BACK);
        due("the same again", x.kind(9, BACK), BACK);
        for (int mark = 2; mark <= 8; mark++) {
            due("no other one", x.kind(mark, EVEN), EVEN);
        }
    }

    private static void rule() {
        sentence("what = 0 GATE .. 5 K becomes v: what it was. NONE; BAD");
        WhoIsWho x = new WhoIsWho();
        for (int what : outside(6)) {
            for (int v : new int[] {0, 1, 3, 60}) {
                due("what " + what, x.rule(what, v), NONE);
            }
        }
        int[] first = {60, 900, 2500, 4000, 3, 3};
        for (int what = 0; what < 6; what++) {
            due("was at first", x.rule(what, 1), first[what]);
            due("was 1", x.rule(what, 2), 1);
            due("was 2", x.rule(what, 2), 2);
            due("the same again", x.rule(what, 1), 2);
        }
    }

    private static void worldNumbers() {
        sentence("cost: NO; gap, tracks, alive: NONE");
        for (int worlds = 1; worlds <= 4; worlds++) {
            WhoIsWho x = ordinary();
            x.rule(K, worlds);
            due("worlds", x.worlds(), worlds);
            for (int world : outside(worlds)) {
                due("cost of " + world, x.cost(world), NO);
                due("gap of " + world, x.gap(world), NONE);
                due("tracks of " + world, x.tracks(world), NONE);
                due("alive of " + world, x.alive(world), NONE);
                due("track of " + world, x.track(world, 0, 0), NO);
                due("foretell of " + world, x.foretell(world, 0, 999, 0), NO);
                due("account of " + world, x.account(world, 0, 0), -2);
            }
            due("gap of the last", x.gap(worlds - 1), x.cost(worlds - 1) - x.cost(0));
            due("tracks of the last are some", x.tracks(worlds - 1) > 0 ? 1 : 0, 1);
            due("alive of the last is told", x.alive(worlds - 1) >= 0 ? 1 : 0, 1);
        }
    }

    private static void worldsThatGo() {
        sentence("How many WORLDS are KEPT");
        WhoIsWho x = ordinary();
        due("K at first", x.worlds(), 3);
        x.rule(K, 1);
        due("K 1", x.worlds(), 1);
        due("world 1 is gone", x.cost(1), NO);
        x.rule(K, 4);
        due("K 4", x.worlds(), 4);
        x.drop(0);
        due("one DOT: two ways", x.worlds(), 2);
        due("world 2 is gone", x.cost(2), NO);
        x.drop(0);
        due("no SCAN: one way", x.worlds(), 1);
        due("world 1 is gone", x.cost(1), NO);
    }

    private static void trackNumbers() {
        sentence("track: NO");
        WhoIsWho x = ordinary();
        for (int what = 0; what < 10; what++) {
            due("the last TRACK", x.track(0, 1, what) == NO ? 1 : 0, 0);
            for (int k : outside(2)) {
                due("TRACK " + k, x.track(0, k, what), NO);
            }
        }
        for (int what : outside(10)) {
            due("what " + what, x.track(0, 0, what), NO);
        }
        due("world 2 has a third", x.tracks(2), 3);
        due("whose place is told", x.track(2, 2, X), 4);
        due("but not in world 0", x.track(0, 2, X), NO);
        due("world 1 has one", x.tracks(1), 1);
        due("so there is no second", x.track(1, 1, X), NO);
    }

    private static void trackWhats() {
        sentence("Of a TRACK what 0 x, 1 y, 2 u, 3 v, 4 the MOMENT of its latest DOT, 5 HITS, "
                + "6 MISSED, 7 MARK, 8 whether it ENDED, 9 is CONFIRMED (1, 0)");
        WhoIsWho x = ordinary();
        int[] first = {4, -6, 2, -3, 6, 2, 0, 3, 0, 1};
        int[] second = {500, 0, 0, 0, 4, 1, 1, 0, 0, 0};
        for (int what = 0; what < 10; what++) {
            due("first, what " + what, x.track(0, 0, what), first[what]);
            due("second, what " + what, x.track(0, 1, what), second[what]);
        }
        x.rule(BREAK, 1);
        due("ENDED", x.track(0, 1, ENDED), 1);
    }

    private static void accountNumbers() {
        sentence("account: -2: there is no such one");
        WhoIsWho x = ordinary();
        for (int world = 0; world < 3; world++) {
            for (int scan : outside(2)) {
                due("SCAN " + scan, x.account(world, scan, 0), -2);
            }
            for (int dot : outside(2)) {
                due("DOT " + dot + " of two", x.account(world, 0, dot), -2);
            }
            for (int dot : outside(1)) {
                due("DOT " + dot + " of one", x.account(world, 1, dot), -2);
            }
            due("the last DOT of two is one", x.account(world, 0, 1) == -2 ? 1 : 0, 0);
            due("the DOT of one is one", x.account(world, 1, 0) == -2 ? 1 : 0, 0);
        }
        x.dot(0, 0, 0);
        due("a DOT that waits is none yet", x.account(0, 2, 0), -2);
        x.scan(0, 0);
        due("a SCAN's is", x.account(0, 2, 0) == -2 ? 1 : 0, 0);
    }

    private static void foretellMoments() {
        sentence("FORETOLD of a TRACK for a MOMENT, not ahead of its latest DOT's. NO");
        for (int latest : new int[] {0, 1, 500, 998, 999}) {
            WhoIsWho x = watched(1);
            tell(x, 0, latest, 7, -8, 0);
            due("at its latest DOT's", x.foretell(0, 0, latest, 0), 7);
            due("y", x.foretell(0, 0, latest, 1), -8);
            due("the last MOMENT", x.foretell(0, 0, 999, 1), -8);
            for (int moment : new int[] {latest - 1, -1, 1000, LEAST_INT, MOST_INT}) {
                due("at " + moment, x.foretell(0, 0, moment, 0), NO);
                due("at " + moment + ", y", x.foretell(0, 0, moment, 1), NO);
            }
        }
        WhoIsWho x = ordinary();
        due("of one DOT ahead of the other's", x.foretell(0, 1, 4, 0), 500);
        due("of the other", x.foretell(0, 0, 5, 0), NO);
    }

    private static void foretellNumbers() {
        sentence("FORETOLD x (what 0), y (1). NO");
        WhoIsWho x = ordinary();
        due("x", x.foretell(0, 0, 7, 0), 6);
        due("y", x.foretell(0, 0, 7, 1), -9);
        for (int what : outside(2)) {
            due("what " + what, x.foretell(0, 0, 7, what), NO);
        }
        for (int k : outside(2)) {
            due("TRACK " + k, x.foretell(0, k, 7, 0), NO);
        }
        x.rule(BREAK, 1);
        due("one that ENDED is foretold, too", x.foretell(0, 1, 999, 0), 500);
    }

    private static void ordered() {
        sentence("The i-th SCAN in ORDER. NONE");
        WhoIsWho x = watched(1);
        for (int scans = 0; scans <= 12; scans++) {
            for (int i : outside(scans)) {
                due("of " + scans + ", ordered(" + i + ")", x.ordered(i), NONE);
            }
            if (scans > 0) {
                due("of " + scans + ", the first", x.ordered(0), scans - 1);
                due("of " + scans + ", the last", x.ordered(scans - 1), 0);
            }
            x.scan(0, 900 - scans);
        }
    }

    private static void nameMarks() {
        sentence("The TRACK that a MARK (1 .. 9) is SURE to be. NONE: none, no such MARK");
        WhoIsWho x = joining(1);
        tell(x, 0, 0, 0, 0, 1, 500, 0, 9, -500, 0, 0);
        due("MARK 1", x.name(1), 0);
        due("MARK 9", x.name(9), 1);
        for (int mark = 2; mark <= 8; mark++) {
            due("none has " + mark, x.name(mark), NONE);
        }
        for (int mark : new int[] {0, -1, 10, LEAST_INT, MOST_INT}) {
            due("no such MARK " + mark, x.name(mark), NONE);
        }
    }

    private static void nameLeastOfSeveral() {
        sentence("name: the least one of several");
        WhoIsWho x = joining(1);
        x.rule(MISS, 0);
        x.rule(BREAK, 1);
        tell(x, 0, 0, 0, 0, 2, 500, 0, 5, -500, 0, 5, 0, 500, 5);
        due("of three", x.name(5), 1);
        tell(x, 0, 1);
        tell(x, 0, 2, 0, 0, 5);
        due("one that ENDED, too", x.name(5), 1);
        due("the last is one, too", x.track(0, 4, MARK), 5);
    }

    private static void sureNumbers() {
        sentence("Whether a DOT's ACCOUNT is SURE: 1, 0. NONE");
        WhoIsWho x = ordinary();
        due("the first", x.sure(0, 0), 1);
        due("one that is not", x.sure(1, 0), 0);
        for (int scan : outside(2)) {
            due("SCAN " + scan, x.sure(scan, 0), NONE);
        }
        for (int dot : outside(2)) {
            due("DOT " + dot + " of two", x.sure(0, dot), NONE);
        }
        for (int dot : outside(1)) {
            due("DOT " + dot + " of one", x.sure(1, dot), NONE);
        }
        x.scan(0, 0);
        due("of a SCAN without DOTS", x.sure(2, 0), NONE);
    }

    private static void aliveConfirmedNotEnded() {
        sentence("How many TRACKS of a WORLD are CONFIRMED and have not ENDED");
        WhoIsWho x = joining(1);
        x.rule(MISS, 0);
        x.rule(BIRTH, 0);
        x.rule(GATE, 0);
        due("no TRACKS", x.alive(0), 0);
        for (int round = 0; round < 2; round++) {
            due("not CONFIRMED", x.alive(0), 0);
            tell(x, 0, 0, 0, 0, 1, 100, 0, 2, 200, 0, 3, 300, 0, 4);
            due("those CONFIRMED", x.alive(0), 4 * round);
            tell(x, 0, 0, 400, 0, 5, 500, 0, 6);
            due("those CONFIRMED", x.alive(0), 6 * round);
            if (round == 0) {
                x.rule(BIRTH, 100000);
            }
        }
        due("as many as there may be", x.tracks(0), 6);
        tell(x, 0, 1, 400, 0, 5);
        due("all six, some missed twice", x.alive(0), 6);
        tell(x, 0, 2, 400, 0, 5);
        due("four ENDED", x.alive(0), 2);
        tell(x, 0, 3, 400, 0, 5);
        due("five ENDED", x.alive(0), 1);
        tell(x, 0, 4);
        tell(x, 0, 5);
        due("missed twice", x.alive(0), 1);
        tell(x, 0, 6);
        due("all ENDED", x.alive(0), 0);
    }

    private static void pathOfTwelve() {
        sentence("The i-th DOT of a TRACK, in ORDER: 4 times the SCAN and the DOT");
        WhoIsWho x = joining(1);
        x.rule(GATE, 0);
        x.rule(BIRTH, 1);
        x.rule(FALSE, 0);
        // Track 0 is the only mark 7; it is the dot of number s % 4 of each scan.
        for (int s = 0; s < 12; s++) {
            for (int i = 0; i < 4; i++) {
                x.dot(i == s % 4 ? 0 : 100 * i + s, 0, i == s % 4 ? 7 : 0);
            }
            x.scan(0, 50 - s);
        }
        x.rule(FALSE, 2);
        x.rule(MISS, 2);
        int k = x.name(7);
        due("it is the last DOT of the first in ORDER", x.account(0, 11, 3), k);
        due("it has all there may be", x.track(0, k, HITS), 12);
        for (int i = 0; i < 12; i++) {
            due("path " + i, x.path(k, i), 4 * (11 - i) + (11 - i) % 4);
        }
        for (int i : outside(12)) {
            due("path " + i, x.path(k, i), NONE);
        }
    }

    private static void pathNumbers() {
        sentence("path: NONE");
        WhoIsWho x = ordinary();
        due("of the first, 0", x.path(0, 0), 0);
        due("of the first, 1", x.path(0, 1), 4);
        due("of the last, 0", x.path(1, 0), 1);
        for (int i : outside(2)) {
            due("of the first, " + i, x.path(0, i), NONE);
        }
        for (int i : outside(1)) {
            due("of the last, " + i, x.path(1, i), NONE);
        }
        for (int k : outside(2)) {
            due("of TRACK " + k, x.path(k, 0), NONE);
        }
    }

    private static void falseIsNoTrack() {
        sentence("the ACCOUNT of a FALSE DOT, NONE, is no TRACK's number");
        WhoIsWho x = watched(1);
        x.rule(FALSE, 2400);
        tell(x, 0, 0, 0, 0, 1);
        tell(x, 0, 1, 0, 0, 1, 500, 0, 2);
        due("one DOT is FALSE", x.account(0, 1, 1), NONE);
        due("one TRACK", x.tracks(0), 1);
        due("path", x.path(-1, 0), NONE);
        due("apart", x.apart(0, -1, 1), NONE);
        due("apart, the other way", x.apart(-1, 0, 1), NONE);
        due("apart of both", x.apart(-1, -1, 1), NONE);
        due("near", x.near(0, -1, 1000), NONE);
        due("near, the other way", x.near(-1, 0, 1000), NONE);
        due("track", x.track(0, -1, X), NO);
        due("foretell", x.foretell(0, -1, 9, 0), NO);
        due("name", x.name(2), NONE);
    }

    private static void apartNumbers() {
        sentence("APART. NONE: one is not there, no such TRACK");
        WhoIsWho x = ordinary();
        due("both", x.apart(0, 1, 4), 250000);
        due("later", x.apart(0, 1, 6), 496 * 496 + 36);
        due("one is not there", x.apart(0, 1, 3), NONE);
        for (int k : outside(2)) {
            due("first is " + k, x.apart(k, 0, 6), NONE);
            due("second is " + k, x.apart(0, k, 6), NONE);
            due("both are " + k, x.apart(k, k, 6), NONE);
        }
        due("of one and itself", x.apart(1, 1, 4), 0);
        due("of one and itself, not there", x.apart(1, 1, 3), NONE);
    }

    private static WhoIsWho two(int dx, int dy) {
        WhoIsWho x = joining(1);
        tell(x, 0, 5, -500, -500, 1, -500 + dx, -500 + dy, 2);
        return x;
    }

    private static void nearDistances() {
        sentence("two TRACKS are APART by no more than the square of d (0 .. 1000)");
        int[][] rows = {
            {0, 0, 0, 5}, {1, 0, 0, NONE}, {0, -1, 0, NONE}, {1, 0, 1, 5}, {1, 1, 1, NONE}, {3, 4, 4, NONE},
            {3, 4, 5, 5}, {5, 1, 5, NONE}, {5, 1, 6, 5}, {1000, 0, 999, NONE}, {1000, 0, 1000, 5},
            {0, 1000, 1000, 5}, {600, 800, 1000, 5}, {1000, 1, 1000, NONE}, {600, 801, 1000, NONE},
            {1500, 1500, 1000, NONE}
        };
        for (int[] row : rows) {
            WhoIsWho x = two(row[0], row[1]);
            due(row[0] + ", " + row[1] + " off, d " + row[2], x.near(0, 1, row[2]), row[3]);
            due("the other way", x.near(1, 0, row[2]), row[3]);
        }
        sentence("near: BAD: d");
        WhoIsWho x = two(0, 0);
        for (int d : new int[] {-1, 1001, -1000, 46341, 65536, LEAST_INT, MOST_INT}) {
            due("d " + d, x.near(0, 1, d), BAD);
        }
    }

    private static void nearFirstMoment() {
        sentence("The first MOMENT of a SCAN, in ORDER, at which two TRACKS are APART by no more");
        WhoIsWho x = joining(1);
        tell(x, 0, 10, 0, 0, 1);
        tell(x, 0, 20, 0, 0, 1, 100, 0, 2);
        tell(x, 0, 30, 0, 0, 1, 50, 0, 2);
        tell(x, 0, 40, 0, 0, 1, 200, 0, 2);
        tell(x, 0, 50, 0, 0, 1, 20, 0, 2);
        due("when both are there", x.near(0, 1, 1000), 20);
        due("100", x.near(0, 1, 100), 20);
        due("99", x.near(0, 1, 99), 30);
        due("50", x.near(0, 1, 50), 30);
        due("49", x.near(0, 1, 49), 50);
        due("20", x.near(0, 1, 20), 50);
        due("none such", x.near(0, 1, 19), NONE);
        tell(x, 0, 25, 0, 0, 1, 50, 0, 2);
        due("by a late SCAN", x.near(0, 1, 99), 25);
        x.drop(5);
        due("without it", x.near(0, 1, 99), 30);

        x = joining(1);
        tell(x, 0, 0, 0, 0, 1, 0, 0, 2);
        due("MOMENT 0 is one", x.near(0, 1, 0), 0);
        x = joining(1);
        tell(x, 0, 999, 0, 0, 1, 0, 0, 2);
        due("MOMENT 999 is one", x.near(0, 1, 0), 999);
    }

    private static void nearOfOneMoment() {
        sentence("the first MOMENT at which they are APART: of their latest DOTS at it");
        WhoIsWho x = joining(1);
        tell(x, 0, 10, 0, 0, 1, 100, 0, 2);
        tell(x, 0, 20, 0, 0, 1, 10, 0, 2);
        tell(x, 0, 20, 0, 0, 1, 90, 0, 2);
        due("the later SCAN of that MOMENT took them apart", x.near(0, 1, 50), NONE);
        due("90", x.near(0, 1, 90), 20);
        x.drop(2);
        due("without it", x.near(0, 1, 50), 20);
    }

    private static void nearNumbers() {
        sentence("near: NONE: none such; BAD: d, they are one");
        WhoIsWho x = ordinary();
        for (int k : outside(2)) {
            due("first is " + k, x.near(k, 0, 1000), NONE);
            due("second is " + k, x.near(0, k, 1000), NONE);
            due("both are " + k, x.near(k, k, 1000), NONE);
        }
        due("they are the first", x.near(0, 0, 1000), BAD);
        due("they are the last", x.near(1, 1, 0), BAD);
    }

    private static void pairsNumbers() {
        sentence("How many pairs of DOTS LEVEL goes by. NONE; BAD: they are one");
        WhoIsWho x = watched(3);
        tell(x, 0, 0, 0, 0, 1);
        tell(x, 2, 0, 0, 0, 1, 0, 0, 1);
        due("first and last", x.pairs(0, 2), 2);
        due("last and first", x.pairs(2, 0), 2);
        due("none", x.pairs(0, 1), 0);
        for (int w = 0; w < 3; w++) {
            due("they are one", x.pairs(w, w), BAD);
        }
        for (int w : outside(3)) {
            due("first is " + w, x.pairs(w, 0), NONE);
            due("second is " + w, x.pairs(0, w), NONE);
        }
    }

    private static void levelNumbers() {
        sentence("LEVEL x (what 0), y (1). NO: also without pairs, or if they are one");
        WhoIsWho x = watched(3);
        tell(x, 0, 0, 0, 0, 1);
        tell(x, 2, 0, 3, -4, 1);
        due("x", x.level(0, 2, 0), 3);
        due("y", x.level(0, 2, 1), -4);
        for (int what : outside(2)) {
            due("what " + what, x.level(0, 2, what), NO);
        }
        for (int what = 0; what < 2; what++) {
            due("without pairs", x.level(0, 1, what), NO);
            due("they are one", x.level(2, 2, what), NO);
            for (int w : outside(3)) {
                due("first is " + w, x.level(w, 0, what), NO);
                due("second is " + w, x.level(0, w, what), NO);
            }
        }
    }

    private static void rightKeptWithin() {
        sentence("u's SHIFT becomes w's less LEVEL, kept within -50 .. 50");
        int[][] rows = {
            // w's SHIFT, LEVEL, u's SHIFT
            {0, 0, 0}, {0, 1, -1}, {0, -1, 1}, {0, 49, -49}, {0, 50, -50}, {0, 51, -50}, {0, -49, 49},
            {0, -50, 50}, {0, -51, 50}, {0, 2000, -50}, {0, -2000, 50}, {50, 0, 50}, {-50, 0, -50},
            {50, -1, 50}, {50, 1, 49}, {-50, 1, -50}, {-50, -1, -49}, {50, 100, -50}, {50, 99, -49},
            {50, 101, -50}, {-50, -100, 50}, {-50, -99, 49}, {-50, -101, 50}
        };
        for (int[] row : rows) {
            due("x: " + row[0] + " less " + row[1], shiftByRight(row[0], row[1], 0), row[2]);
            due("y: " + row[0] + " less " + row[1], shiftByRight(row[0], row[1], 1), row[2]);
        }
    }

    /** What right makes of one number of u's shift, by where u's dot then is. */
    private static int shiftByRight(int shift, int level, int axis) {
        WhoIsWho x = watched(2);
        int half = level / 2;
        int told = level - half;
        x.shift(0, axis == 0 ? shift : 0, axis == 1 ? shift : 0);
        tell(x, 0, 7, axis == 0 ? -half : 0, axis == 1 ? -half : 0, 1);
        tell(x, 1, 7, axis == 0 ? told : 0, axis == 1 ? told : 0, 1);
        x.right(0, 1);
        x.drop(0);
        due("the other number is 0", x.track(0, 0, 1 - axis), 0);
        return x.track(0, 0, axis) - told;
    }

    private static void rightHowManyChanged() {
        sentence("right: how many of its two numbers changed");
        WhoIsWho x = watched(2);
        x.shift(0, 3, 4);
        tell(x, 0, 7, 0, 0, 1);
        tell(x, 1, 7, 60, -20, 1);
        x.right(0, 1);
        x.drop(1);
        due("w's SHIFT is as it was, a", x.track(0, 0, X), 3);
        due("w's SHIFT is as it was, b", x.track(0, 0, Y), 4);
        x = watched(2);
        tell(x, 0, 7, 0, 0, 1);
        tell(x, 1, 7, 60, -20, 1);
        due("both", x.right(0, 1), 2);
        due("neither", x.right(0, 1), 0);
        x.shift(1, 50, 20);
        due("a alone", x.right(0, 1), 1);
        x.shift(1, -50, 19);
        due("b alone", x.right(0, 1), 1);
        x.shift(0, -50, -50);
        due("b alone, a kept within", x.right(0, 1), 1);
        x.shift(0, 50, 0);
        due("both", x.right(0, 1), 2);
        x.shift(1, -10, 20);
        due("they are as told: neither", x.right(0, 1), 0);
        due("w by u: as it is", x.right(1, 0), 0);
        x.shift(0, 0, 0);
        due("w by u: both or one", x.right(1, 0), 1);
    }

    private static void rightNumbers() {
        sentence("right: NONE; BAD: they are one; STATE: there are no pairs");
        WhoIsWho x = watched(3);
        tell(x, 0, 0, 0, 0, 1);
        tell(x, 2, 0, 9, 9, 1);
        for (int w : outside(3)) {
            due("first is " + w, x.right(w, 0), NONE);
            due("second is " + w, x.right(0, w), NONE);
            due("both are " + w, x.right(w, w), NONE);
        }
        for (int w = 0; w < 3; w++) {
            due("they are one", x.right(w, w), BAD);
        }
        due("no pairs", x.right(0, 1), STATE);
        due("no pairs, the other way", x.right(1, 2), STATE);
        due("one pair", x.right(0, 2), 2);
    }

    private static void counts() {
        sentence("0 WATCHERS, 1 SCANS, 2 DOTS that wait, 3 DOTS of all SCANS, 4 DOTS that are FALSE "
                + "in WORLD 0, 5 those of which the ACCOUNT is not SURE");
        WhoIsWho x = watched(3);
        x.rule(K, 2);
        for (int s = 0; s < 12; s++) {
            for (int i = 1; i <= 4; i++) {
                x.dot(i, s, 0);
                due("wait", x.count(2), i);
            }
            x.scan(s % 3, s);
            due("SCANS", x.count(1), s + 1);
            due("DOTS of all SCANS", x.count(3), 4 * (s + 1));
        }
        for (int i = 1; i <= 4; i++) {
            x.dot(0, 0, 0);
        }
        due("WATCHERS", x.count(0), 3);
        due("wait", x.count(2), 4);
        due("those that wait are no SCAN's", x.count(3), 48);
        x.rule(BIRTH, 100000);
        x.rule(FALSE, 0);
        x.rule(MISS, 100000);
        x.rule(GATE, 0);
        due("all FALSE", x.count(4), 48);
        due("not SURE: one DOT, begun in world 1", x.count(5), 1);
        x.rule(K, 1);
        due("one WORLD is SURE", x.count(5), 0);
        x.rule(BIRTH, 0);
        x.rule(MISS, 0);
        due("none FALSE but where no TRACK can be", x.count(4), 48 - 6);
        x.rule(GATE, 500);
        x.rule(BREAK, 9);
        x.rule(FALSE, 100000);
        due("none FALSE", x.count(4), 0);

        x = watched(1);
        x.rule(K, 4);
        tell(x, 0, 0, 0, 0, 0, 300, 0, 0, 600, 0, 0, 900, 0, 0);
        due("not SURE: the second to fourth", x.count(5), 3);
        due("FALSE in WORLD 0", x.count(4), 0);
        x.rule(BIRTH, 5000);
        due("FALSE in WORLD 0, the other way", x.count(4), 4);
    }

    private static void countNumbers() {
        sentence("count: NONE");
        WhoIsWho x = ordinary();
        for (int what : outside(6)) {
            due("what " + what, x.count(what), NONE);
        }
        due("0", x.count(0), 2);
        due("5", x.count(5), 2);
    }
}
