/** Part 2 of the document's terms, sentence by sentence: tracks, joins, costs, worlds. */
public final class WorldEdgesTest extends Checks {
    public static void main(String[] args) {
        tracksNumberedAsTheyBegan();
        tracksSixAtMost();
        endedTracksCountToo();
        markIsTheFirst();
        accountIsTrackOrNone();
        foretoldByKind();
        joinOnlyWithoutADotYet();
        joinOnlyIfNotEnded();
        joinWithinGate();
        joinWithinGateOfWhatIsForetold();
        joinByMarks();
        begunIfFewerThanSix();
        costsOfJoins();
        costsOfMisses();
        paceCutDown();
        paceAtOneMoment();
        hitsAndMissed();
        endedWithBreak();
        confirmedWithTwoHits();
        keptAtFirst();
        keptAreK();
        keptAreTheCheapest();
        keptScanByScan();
        alikeByPlaceThenAccounts();
        madeAnew();
        end();
    }

    /** All but joining is as dear as can be; one world: what may be joined, near enough, is. */
    private static WhoIsWho joining(int gate) {
        WhoIsWho x = watched(1);
        x.rule(GATE, gate);
        x.rule(MISS, 100000);
        x.rule(BIRTH, 100000);
        x.rule(FALSE, 100000);
        x.rule(K, 1);
        return x;
    }

    /** Nothing is joined but at the very place; what is begun costs nothing. One world. */
    private static WhoIsWho begetting() {
        WhoIsWho x = watched(1);
        x.rule(GATE, 0);
        x.rule(MISS, 0);
        x.rule(BIRTH, 0);
        x.rule(FALSE, 100000);
        x.rule(K, 1);
        return x;
    }

    private static void sixTracks(WhoIsWho x) {
        tell(x, 0, 0, 0, 0, 0, 100, 0, 0, 200, 0, 0, 300, 0, 0);
        tell(x, 0, 0, 400, 0, 0, 500, 0, 0);
    }

    private static void tracksNumberedAsTheyBegan() {
        sentence("TRACKS, numbered from 0 on as they began");
        WhoIsWho x = begetting();
        due("none", x.tracks(0), 0);
        due("no track 0", x.track(0, 0, X), NO);
        tell(x, 0, 5, 30, 0, 0, 10, 0, 0);
        tell(x, 0, 6, 20, 0, 0);
        due("first dot", x.track(0, 0, X), 30);
        due("second dot", x.track(0, 1, X), 10);
        due("next scan", x.track(0, 2, X), 20);
        due("no track 3", x.track(0, 3, X), NO);
        tell(x, 0, 4, 40, 0, 0);
        due("a late scan's one comes first", x.track(0, 0, X), 40);
        due("the others behind it", x.track(0, 1, X), 30);
        due("four", x.tracks(0), 4);
    }

    private static void tracksSixAtMost() {
        sentence("TRACKS, 6 at most");
        WhoIsWho x = begetting();
        sixTracks(x);
        due("six", x.tracks(0), 6);
        due("the sixth", x.track(0, 5, X), 500);
        due("no seventh", x.track(0, 6, X), NO);
        tell(x, 0, 1, 600, 0, 0);
        due("six still", x.tracks(0), 6);
        due("its dot is FALSE, however dear", x.account(0, 2, 0), NONE);
        due("and costs so", x.cost(0), 100000);
    }

    private static void endedTracksCountToo() {
        sentence("6 at most (those that ENDED, too)");
        WhoIsWho x = begetting();
        x.rule(BREAK, 1);
        sixTracks(x);
        tell(x, 0, 1);
        for (int k = 0; k < 6; k++) {
            due("ended " + k, x.track(0, k, ENDED), 1);
        }
        tell(x, 0, 2, 0, 0, 0);
        due("six still", x.tracks(0), 6);
        due("no track takes the dot", x.account(0, 3, 0), NONE);
        due("cost", x.cost(0), 100000);
    }

    private static void markIsTheFirst() {
        sentence("a MARK (the first that is not 0 of its DOTS; 0)");
        int[][] marks = {{0}, {0, 0}, {5}, {5, 0}, {0, 5}, {0, 0, 9, 0}, {1, 1}};
        int[] want = {0, 0, 5, 5, 5, 9, 1};
        for (int i = 0; i < marks.length; i++) {
            WhoIsWho x = joining(60);
            for (int moment = 0; moment < marks[i].length; moment++) {
                tell(x, 0, moment, 0, 0, marks[i][moment]);
            }
            due("one track", x.tracks(0), 1);
            due("MARK of row " + i, x.track(0, 0, MARK), want[i]);
        }
        WhoIsWho x = joining(60);
        tell(x, 0, 5, 0, 0, 0);
        tell(x, 0, 6, 0, 0, 0);
        due("none", x.track(0, 0, MARK), 0);
        tell(x, 0, 1, 0, 0, 7);
        due("by a late scan", x.track(0, 0, MARK), 7);
        x.drop(2);
        due("none again", x.track(0, 0, MARK), 0);
    }

    private static void accountIsTrackOrNone() {
        sentence("For each DOT it has an ACCOUNT: the TRACK, or NONE (the DOT is FALSE)");
        WhoIsWho x = begetting();
        sixTracks(x);
        tell(x, 0, 1, 500, 0, 0, 501, 0, 0, 0, 0, 0);
        due("the last track", x.account(0, 1, 1), 5);
        due("joined to the last track", x.account(0, 2, 0), 5);
        due("FALSE", x.account(0, 2, 1), -1);
        due("joined to the first track", x.account(0, 2, 2), 0);
    }

    private static void foretoldByKind() {
        sentence("FORETOLD of a TRACK for a MOMENT d beyond its latest one");
        WhoIsWho x = joining(60);
        tell(x, 0, 10, 0, 0, 4);
        tell(x, 0, 12, 6, -8, 4);
        int[] beyond = {0, 1, 2, 987};
        for (int d : beyond) {
            x.kind(4, EVEN);
            due("EVEN x, d " + d, x.foretell(0, 0, 12 + d, 0), 6 + 3 * d);
            due("EVEN y, d " + d, x.foretell(0, 0, 12 + d, 1), -8 - 4 * d);
            x.kind(4, HELD);
            due("HELD x, d " + d, x.foretell(0, 0, 12 + d, 0), 6);
            due("HELD y, d " + d, x.foretell(0, 0, 12 + d, 1), -8);
            x.kind(4, BACK);
            due("BACK x, d " + d, x.foretell(0, 0, 12 + d, 0), 6 - 3 * d);
            due("BACK y, d " + d, x.foretell(0, 0, 12 + d, 1), -8 + 4 * d);
        }
        x.kind(4, EVEN);
        tell(x, 0, 13, 9, -12, 0);
        due("a DOT without a MARK leaves it the TRACK's KIND", x.kind(4, HELD), EVEN);
        due("HELD x by the TRACK's MARK", x.foretell(0, 0, 20, 0), 9);
    }

    private static void joinOnlyWithoutADotYet() {
        sentence("a TRACK that has no DOT of this SCAN yet");
        WhoIsWho x = joining(60);
        tell(x, 0, 0, 0, 0, 0, 0, 0, 0);
        due("begun in this scan: takes no more of it", x.tracks(0), 2);
        due("cost", x.cost(0), 200000);
        tell(x, 0, 1, 0, 0, 0, 0, 0, 0, 0, 0, 0);
        due("first", x.account(0, 1, 0), 0);
        due("second", x.account(0, 1, 1), 1);
        due("a third finds none, and begins one", x.account(0, 1, 2), 2);
        due("cost", x.cost(0), 300000);
        tell(x, 0, 1, 0, 0, 0);
        due("another scan of the same moment is another one", x.account(0, 2, 0), 0);
    }

    private static void joinOnlyIfNotEnded() {
        sentence("a TRACK that has not ENDED");
        for (int misses = 1; misses <= 3; misses++) {
            WhoIsWho x = joining(60);
            x.rule(MISS, 0);
            x.rule(BIRTH, 1);
            tell(x, 0, 0, 0, 0, 0);
            for (int i = 0; i < misses; i++) {
                tell(x, 0, 1 + i);
            }
            tell(x, 0, 9, 0, 0, 0);
            due("missed " + misses + " times", x.account(0, misses + 1, 0), misses < 3 ? 0 : 1);
        }
    }

    /**
     * Whether a dot may be joined to a track that was seen three times at (0, 0). Three worlds are
     * kept, since at distances near 500 the join is not the cheapest way to account for the dot.
     */
    private static int mayJoin(int gate, int dx, int dy, int trackMark, int dotMark) {
        WhoIsWho x = joining(gate);
        x.rule(K, 3);
        for (int moment = 0; moment < 3; moment++) {
            tell(x, 0, moment, 0, 0, trackMark);
        }
        tell(x, 0, 3, dx, dy, dotMark);
        for (int world = 0; world < x.worlds(); world++) {
            if (x.track(world, 0, HITS) == 4) {
                return 1;
            }
        }
        return 0;
    }

    private static void joinWithinGate() {
        sentence("the squares of both distances together are not above that of GATE");
        int[][] rows = {
            {0, 0, 0, 1}, {0, 1, 0, 0}, {0, 0, -1, 0}, {1, 1, 0, 1}, {1, 0, -1, 1}, {1, 1, 1, 0},
            {60, 60, 0, 1}, {60, 61, 0, 0}, {60, 0, -60, 1}, {60, 0, -61, 0}, {60, 36, -48, 1},
            {60, 36, -49, 0}, {60, -37, 48, 0}, {60, 59, 11, 0}, {60, 59, 10, 1},
            {500, 500, 0, 1}, {500, 501, 0, 0}, {500, 0, -500, 1}, {500, 0, -501, 0},
            {500, 300, 400, 1}, {500, 300, 401, 0}, {500, -301, -400, 0}, {500, 500, 1, 0}
        };
        for (int[] row : rows) {
            due("GATE " + row[0] + ", off by " + row[1] + ", " + row[2],
                    mayJoin(row[0], row[1], row[2], 0, 0), row[3]);
        }
        due("60 at first", mayJoinAtFirst(60), 1);
        due("61 at first", mayJoinAtFirst(61), 0);
    }

    private static int mayJoinAtFirst(int dx) {
        WhoIsWho x = watched(1);
        x.rule(MISS, 100000);
        tell(x, 0, 0, 0, 0, 0);
        tell(x, 0, 1, dx, 0, 0);
        return x.track(0, 0, HITS) == 2 ? 1 : 0;
    }

    private static void joinWithinGateOfWhatIsForetold() {
        sentence("the DOT (put right) lies within GATE of what is FORETOLD");
        int[] foretold = {100, 50, 0};
        for (int kind = EVEN; kind <= BACK; kind++) {
            for (int off : new int[] {-61, -60, 0, 60, 61}) {
                WhoIsWho x = joining(60);
                x.kind(1, kind);
                tell(x, 0, 0, 0, 0, 1);
                tell(x, 0, 5, 50, 0, 1);
                tell(x, 0, 10, foretold[kind] + off, 0, 1);
                due("KIND " + kind + ", off by " + off, x.account(0, 2, 0), Math.abs(off) <= 60 ? 0 : 1);
            }
        }
        WhoIsWho x = watched(2);
        x.rule(BIRTH, 4000);
        x.rule(MISS, 4000);
        x.rule(K, 1);
        tell(x, 0, 0, 0, 0, 0);
        tell(x, 1, 1, 110, 0, 0);
        due("too far as told", x.account(0, 1, 0) != 0 ? 1 : 0, 1);
        x.shift(1, -49, 0);
        due("too far put right", x.account(0, 1, 0) != 0 ? 1 : 0, 1);
        x.shift(1, -50, 0);
        due("near enough put right", x.account(0, 1, 0), 0);
        due("cost", x.cost(0), 4000 + 3600);
    }

    private static void joinByMarks() {
        sentence("not both have MARKS that are unlike");
        int[][] rows = {
            {0, 0, 1}, {0, 1, 1}, {1, 0, 1}, {0, 9, 1}, {9, 0, 1}, {1, 1, 1}, {9, 9, 1}, {1, 2, 0},
            {2, 1, 0}, {8, 9, 0}, {9, 1, 0}
        };
        for (int[] row : rows) {
            due("track " + row[0] + ", dot " + row[1], mayJoin(60, 0, 0, row[0], row[1]), row[2]);
        }
        WhoIsWho x = joining(60);
        tell(x, 0, 0, 0, 0, 0);
        tell(x, 0, 1, 0, 0, 5);
        tell(x, 0, 2, 0, 0, 0);
        tell(x, 0, 3, 0, 0, 6);
        due("its MARK came with its second DOT", x.account(0, 3, 0) != 0 ? 1 : 0, 1);
    }

    private static void begunIfFewerThanSix() {
        sentence("or a TRACK more is begun (if there are fewer than 6): PACE (0, 0)");
        WhoIsWho x = begetting();
        tell(x, 0, 0, 0, 0, 0, 100, 0, 0, 200, 0, 0, 300, 0, 0);
        tell(x, 0, 0, 400, 0, 0);
        due("five", x.tracks(0), 5);
        tell(x, 0, 1, 0, 50, 0, 100, 50, 0, 200, 0, 0);
        due("the sixth", x.account(0, 2, 0), 5);
        due("none beyond it", x.account(0, 2, 1), NONE);
        due("joined all the same", x.account(0, 2, 2), 2);
        due("six", x.tracks(0), 6);
        due("PACE u", x.track(0, 5, U), 0);
        due("PACE v", x.track(0, 5, V), 0);

        x = begetting();
        tell(x, 0, 0, 0, 0, 0, 100, 0, 0, 200, 0, 0, 300, 0, 0);
        tell(x, 0, 0, 0, 50, 0, 100, 50, 0, 200, 50, 0, 300, 50, 0);
        due("of four two are begun", x.account(0, 1, 1), 5);
        due("the third is FALSE", x.account(0, 1, 2), NONE);
        due("the fourth is FALSE", x.account(0, 1, 3), NONE);
        due("cost", x.cost(0), 200000);
    }

    private static void costsOfJoins() {
        sentence("It COSTS: for each DOT joined to a TRACK these squares together");
        int[][] offs = {{0, 0, 0}, {1, 0, 1}, {0, -1, 1}, {-3, 4, 25}, {60, 0, 3600}, {-36, -48, 3600}};
        for (int[] off : offs) {
            WhoIsWho x = joining(60);
            tell(x, 0, 0, 0, 0, 0, 500, 0, 0);
            tell(x, 0, 1, off[0], off[1], 0, 500 + off[1], off[0], 0);
            due("off by " + off[0] + ", " + off[1], x.cost(0), 200000 + 2 * off[2]);
        }
        sentence("each begun one BIRTH, each FALSE DOT FALSE");
        int[] prices = {0, 1, 99999, 100000};
        for (int price : prices) {
            WhoIsWho x = watched(1);
            x.rule(BIRTH, price);
            x.rule(FALSE, 100000);
            tell(x, 0, 0, 0, 0, 0, 0, 0, 0, 0, 0, 0, 0, 0, 0);
            due("BIRTH " + price, x.cost(0), 4 * price);
            due("four begun", x.tracks(0), 4);
            x = watched(1);
            x.rule(BIRTH, 100000);
            x.rule(FALSE, price);
            x.rule(K, 2);
            tell(x, 0, 0, 0, 0, 0, 0, 0, 0, 0, 0, 0, 0, 0, 0);
            due("FALSE " + price, x.cost(0), 4 * price);
            due("begun, if they cost alike", x.tracks(0), price == 100000 ? 4 : 0);
        }
        WhoIsWho x = watched(1);
        x.rule(BIRTH, 100000);
        x.rule(FALSE, 99999);
        for (int scan = 0; scan < 12; scan++) {
            tell(x, 0, scan, 0, 0, 0, 0, 0, 0, 0, 0, 0, 0, 0, 0);
        }
        x.rule(K, 1);
        due("all there may be are FALSE", x.cost(0), 48 * 99999);
        due("count(4)", x.count(4), 48);
        due("count(3)", x.count(3), 48);
    }

    private static void costsOfMisses() {
        sentence("each TRACK that had not ENDED and gets no DOT MISS");
        int[] prices = {0, 1, 100000};
        for (int price : prices) {
            WhoIsWho x = begetting();
            x.rule(MISS, price);
            tell(x, 0, 0, 0, 0, 0, 100, 0, 0, 200, 0, 0);
            due("one begun is not missed by its own scan", x.cost(0), 0);
            tell(x, 0, 1, 100, 0, 0);
            due("two of three", x.cost(0), 2 * price);
            tell(x, 0, 2);
            due("all three", x.cost(0), 5 * price);
            tell(x, 0, 3, 100, 0, 0);
            due("the miss that ends it costs, too", x.cost(0), 7 * price);
            due("first ended", x.track(0, 0, ENDED), 1);
            due("second not", x.track(0, 1, ENDED), 0);
            tell(x, 0, 4);
            due("those that had ENDED cost no more", x.cost(0), 8 * price);
        }
    }

    private static void paceCutDown() {
        sentence("its PACE becomes the difference of the DOT's and its own place by d (each cut to "
                + "the greatest whole number not above)");
        int[][] rows = {
            {7, -7, 4, 1, -2}, {8, -8, 4, 2, -2}, {-1, 1, 2, -1, 0}, {1, -1, 999, 0, -1}, {0, 0, 1, 0, 0},
            {-9, 9, 1, -9, 9}, {300, -300, 7, 42, -43}, {-4, 4, 5, -1, 0}, {-5, 5, 5, -1, 1}, {-6, 6, 5, -2, 1}
        };
        for (int[] row : rows) {
            WhoIsWho x = joining(500);
            tell(x, 0, 0, 11, -13, 0);
            tell(x, 0, row[2], 11 + row[0], -13 + row[1], 0);
            due("HITS", x.track(0, 0, HITS), 2);
            due("u of " + row[0] + " by " + row[2], x.track(0, 0, U), row[3]);
            due("v of " + row[1] + " by " + row[2], x.track(0, 0, V), row[4]);
        }
        WhoIsWho x = joining(60);
        tell(x, 0, 0, 0, 0, 0);
        tell(x, 0, 1, 40, 0, 0);
        tell(x, 0, 2, 80, 30, 0);
        due("by its own place, not what was foretold", x.track(0, 0, U), 40);
        due("v", x.track(0, 0, V), 30);
    }

    private static void paceAtOneMoment() {
        sentence("if d is above 0 its PACE becomes");
        WhoIsWho x = joining(60);
        tell(x, 0, 3, 0, 0, 0);
        tell(x, 0, 3, 9, -9, 0);
        due("u of d 0, none yet", x.track(0, 0, U), 0);
        due("v of d 0, none yet", x.track(0, 0, V), 0);
        due("its place is the DOT's", x.track(0, 0, X), 9);
        tell(x, 0, 4, 19, 11, 0);
        due("u of d 1", x.track(0, 0, U), 10);
        due("v of d 1", x.track(0, 0, V), 20);
        tell(x, 0, 4, 0, 0, 0);
        due("u of d 0", x.track(0, 0, U), 10);
        due("v of d 0", x.track(0, 0, V), 20);
        due("x of d 0", x.track(0, 0, X), 0);
        due("y of d 0", x.track(0, 0, Y), 0);
        due("HITS", x.track(0, 0, HITS), 4);
        due("what is foretold goes on from there", x.foretell(0, 0, 5, 1), 20);
        due("d 0 is off by its place alone", x.cost(0), 100000 + 162 + 500 + 482);
    }

    private static void hitsAndMissed() {
        sentence("HITS 1 more, MISSED 0. One that gets none: MISSED 1 more");
        WhoIsWho x = joining(60);
        x.rule(MISS, 0);
        x.rule(BREAK, 9);
        int[] seen = {1, 1, 0, 0, 1, 0, 1, 0, 0, 0, 0, 1};
        int[] hits = {1, 2, 2, 2, 3, 3, 4, 4, 4, 4, 4, 5};
        int[] missed = {0, 0, 1, 2, 0, 1, 0, 1, 2, 3, 4, 0};
        int latest = 0;
        for (int i = 0; i < 12; i++) {
            if (seen[i] == 1) {
                x.dot(0, 0, 0);
                latest = i;
            }
            x.scan(0, i);
            due("HITS behind scan " + i, x.track(0, 0, HITS), hits[i]);
            due("MISSED behind scan " + i, x.track(0, 0, MISSED), missed[i]);
            due("MOMENT behind scan " + i, x.track(0, 0, LATEST), latest);
        }
        x = joining(60);
        for (int i = 0; i < 12; i++) {
            tell(x, 0, 7, 0, 0, 0);
        }
        due("as many HITS as SCANS", x.track(0, 0, HITS), 12);
    }

    private static void endedWithBreak() {
        sentence("MISSED 1 more; with BREAK it has ENDED");
        for (int most = 1; most <= 9; most++) {
            WhoIsWho x = joining(60);
            x.rule(MISS, 0);
            x.rule(BREAK, most);
            tell(x, 0, 0, 0, 0, 0);
            due("not ended", x.track(0, 0, ENDED), 0);
            for (int missed = 1; missed <= most; missed++) {
                tell(x, 0, missed);
                due("MISSED " + missed + " of " + most, x.track(0, 0, MISSED), missed);
                due("ended", x.track(0, 0, ENDED), missed == most ? 1 : 0);
            }
            tell(x, 0, 99, 0, 0, 0);
            due("gets no DOT any more", x.track(0, 0, HITS), 1);
            x.drop(1);
            due("with a miss less it is not ended", x.track(0, 0, ENDED), 0);
            due("and gets the DOT", x.track(0, 0, HITS), 2);
        }
        WhoIsWho x = joining(60);
        x.rule(MISS, 0);
        x.rule(BREAK, 2);
        for (int i = 0; i < 5; i++) {
            tell(x, 0, 2 * i, 0, 0, 0);
            tell(x, 0, 2 * i + 1);
        }
        due("not in a row", x.track(0, 0, ENDED), 0);
        tell(x, 0, 10);
        due("two in a row", x.track(0, 0, ENDED), 1);
    }

    private static void confirmedWithTwoHits() {
        sentence("A TRACK is CONFIRMED with 2 HITS or more");
        WhoIsWho x = joining(60);
        for (int hits = 1; hits <= 3; hits++) {
            tell(x, 0, hits, 0, 0, 0);
            due("HITS", x.track(0, 0, HITS), hits);
            due("CONFIRMED", x.track(0, 0, CONFIRMED), hits >= 2 ? 1 : 0);
        }
    }

    private static void keptAtFirst() {
        sentence("begun with one without TRACKS, that costs 0");
        WhoIsWho x = watched(1);
        x.rule(K, 4);
        for (int scans = 0; scans <= 12; scans++) {
            due("worlds", x.worlds(), 1);
            due("cost", x.cost(0), 0);
            due("tracks", x.tracks(0), 0);
            due("no other", x.cost(1), NO);
            x.scan(0, 999 - scans);
        }
    }

    private static void keptAreK() {
        sentence("KEPT are the K WORLDS (K 1 .. 4, 3 at first)");
        WhoIsWho one = watched(1);
        tell(one, 0, 0, 0, 0, 0);
        WhoIsWho many = watched(1);
        tell(many, 0, 0, 0, 0, 0, 0, 0, 0, 0, 0, 0, 0, 0, 0);
        due("two ways, K 3 at first", one.worlds(), 2);
        due("many ways, K 3 at first", many.worlds(), 3);
        for (int k = 1; k <= 4; k++) {
            one.rule(K, k);
            many.rule(K, k);
            due("two ways, K " + k, one.worlds(), Math.min(2, k));
            due("many ways, K " + k, many.worlds(), k);
            due("the last one", many.cost(k - 1), k == 1 ? 10000 : 11500);
            due("none beyond it", many.cost(k), NO);
        }
        tell(many, 0, 1);
        due("one way for each", many.worlds(), 4);
    }

    private static void keptAreTheCheapest() {
        sentence("with the least COSTS behind all SCANS so far");
        WhoIsWho x = watched(1);
        x.rule(K, 4);
        tell(x, 0, 0, 0, 0, 0);
        tell(x, 0, 1, 30, 0, 0);
        int[] costs = {3400, 5900, 6500, 7400};
        for (int world = 0; world < 4; world++) {
            due("cost of " + world, x.cost(world), costs[world]);
        }
        due("begun, joined", x.account(0, 1, 0), 0);
        due("begun, begun", x.account(1, 1, 0), 1);
        due("FALSE, begun", x.account(2, 0, 0), NONE);
        due("begun, FALSE", x.account(3, 1, 0), NONE);
    }

    private static void keptScanByScan() {
        sentence("with each SCAN, in ORDER, of all KEPT WORLDS with each JOIN of them the K cheapest");
        WhoIsWho x = watched(1);
        x.rule(FALSE, 2400);
        tell(x, 0, 0, 0, 0, 0);
        tell(x, 0, 1, 0, 0, 0);
        x.rule(K, 1);
        due("one that was given up does not come back", x.cost(0), 4800);
        due("tracks", x.tracks(0), 0);
        x.rule(K, 2);
        due("one that was kept does", x.cost(0), 2500);
        due("tracks", x.tracks(0), 1);

        x = watched(1);
        tell(x, 0, 0, 0, 0, 0, 200, 0, 0, 400, 0, 0, 600, 0, 0);
        tell(x, 0, 1, 0, 0, 0);
        due("the first with its best JOIN", x.cost(0), 4 * 2500 + 3 * 900);
        due("the second with its best", x.cost(1), 3 * 2500 + 4000 + 2 * 900);
        due("the third with its best", x.cost(2), 3 * 2500 + 4000 + 2 * 900);
        due("its last DOT is FALSE", x.account(1, 0, 3), NONE);
        due("its third is FALSE", x.account(2, 0, 2), NONE);
    }

    private static void alikeByPlaceThenAccounts() {
        sentence("of those that cost alike by the WORLD's place among those KEPT");
        WhoIsWho x = watched(1);
        x.rule(K, 4);
        x.rule(MISS, 0);
        x.rule(BIRTH, 0);
        x.rule(FALSE, 0);
        tell(x, 0, 0, 0, 0, 0);
        tell(x, 0, 1, 0, 0, 0);
        int[] first = {0, 0, 0, NONE};
        int[] second = {0, 1, NONE, 0};
        for (int world = 0; world < 4; world++) {
            due("first DOT in world " + world, x.account(world, 0, 0), first[world]);
            due("second DOT in world " + world, x.account(world, 1, 0), second[world]);
            due("cost", x.cost(world), 0);
        }
        sentence("then by ACCOUNTS: a lesser TRACK first, then a begun one, then FALSE");
        x = watched(1);
        x.rule(K, 4);
        x.rule(MISS, 0);
        x.rule(BIRTH, 0);
        x.rule(FALSE, 0);
        tell(x, 0, 0, 0, 0, 0, 0, 0, 0);
        tell(x, 0, 1, 0, 0, 0);
        int[] third = {0, 1, 2, NONE};
        for (int world = 0; world < 4; world++) {
            due("world " + world, x.account(world, 1, 0), third[world]);
        }
        sentence("of the first DOT that differs");
        x = watched(1);
        x.rule(K, 2);
        tell(x, 0, 0, 0, 0, 0, 0, 0, 0);
        tell(x, 0, 1, 0, 0, 0, 0, 0, 0);
        due("world 0, first DOT", x.account(0, 1, 0), 0);
        due("world 0, second DOT", x.account(0, 1, 1), 1);
        due("world 1, first DOT", x.account(1, 1, 0), 1);
        due("world 1, second DOT", x.account(1, 1, 1), 0);
        due("they cost alike", x.gap(1), 0);
    }

    private static void madeAnew() {
        sentence("All is made anew from the first SCAN on, whenever a SCAN, a SHIFT, a KIND, or a "
                + "number above becomes another one");
        WhoIsWho x = watched(2);
        tell(x, 0, 0, 0, 0, 1);
        tell(x, 0, 1, 30, 0, 1);
        tell(x, 0, 2, 60, 0, 1);
        due("at first", x.cost(0), 2500 + 900);
        x.kind(1, HELD);
        due("a KIND", x.cost(0), 2500 + 900 + 900);
        x.kind(1, EVEN);
        tell(x, 1, 1, 30, 40, 1);
        due("a SCAN", x.cost(0), 2500 + 900 + 1600 + 1600);
        x.shift(1, 0, -40);
        due("a SHIFT", x.cost(0), 2500 + 900);
        x.shift(1, 0, 0);
        due("SHIFT back", x.cost(0), 2500 + 900 + 1600 + 1600);
        due("right", x.right(0, 1), 1);
        due("a SHIFT by right", x.cost(0), 2500 + 900);
        x.drop(3);
        due("a SCAN taken away", x.cost(0), 2500 + 900);
        x.rule(GATE, 29);
        due("GATE", x.cost(0), 4000 + 2500 + 2500 + 900);
        x.rule(MISS, 100);
        due("MISS", x.cost(0), 3 * 2500 + 3 * 100);
        x.rule(BIRTH, 300);
        due("BIRTH", x.cost(0), 3 * 300 + 3 * 100);
        x.rule(BREAK, 1);
        due("BREAK", x.cost(0), 3 * 300 + 2 * 100);
        x.rule(FALSE, 50);
        due("FALSE", x.cost(0), 3 * 50);
        due("K 3", x.worlds(), 3);
        x.rule(K, 1);
        due("K 1", x.worlds(), 1);
    }
}
