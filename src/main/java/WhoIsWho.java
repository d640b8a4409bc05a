/**
 * Movers that watchers see as dots without names: dots of scans are joined to tracks, and the few
 * cheapest worlds of such joins are kept. A call that changes what the worlds hang on only notes
 * that it did; the next question about them makes them anew.
 */
public final class WhoIsWho {
    public static final int NONE = -1, BAD = -2, STATE = -3, FULL = -4;
    public static final int NO = Integer.MIN_VALUE;

    private static final int MOST_WATCHERS = 3;
    private static final int MOST_SCANS = 12;
    private static final int MOST_DOTS = 4;
    private static final int MOST_TRACKS = 6;
    private static final int MOST_WORLDS = 4;
    private static final int MARKS = 10;
    private static final int LAST_MOMENT = 999;
    private static final int FARTHEST = 1000;
    private static final int WIDEST_SHIFT = 50;
    private static final int WIDEST_NEAR = 1000;

    private static final int GATE = 0;
    private static final int MISS = 1;
    private static final int BIRTH = 2;
    private static final int FALSE = 3;
    private static final int BREAK = 4;
    private static final int KEEP = 5;
    private static final int RULES = 6;
    private static final int[] RULE_FIRST = {60, 900, 2500, 4000, 3, 3};
    private static final int[] RULE_LEAST = {0, 0, 0, 0, 1, 1};
    private static final int[] RULE_MOST = {500, 100000, 100000, 100000, 9, 4};

    private static final int HELD = 1;
    private static final int BACK = 2;
    private static final int KINDS = 3;

    // Behind the tracks' numbers, so that lesser picks come first where worlds cost alike.
    private static final int PICK_BEGUN = 6;
    private static final int PICK_FALSE = 7;
    private static final int CLOSED = -1;

    private static final int X = 0;
    private static final int Y = 1;

    private final Told told;
    private final Keeper keeper;
    private final Level measured;

    public WhoIsWho() {
        told = new Told();
        keeper = new Keeper();
        measured = new Level();
    }

    // ---- what is told

    public int watcher() {
        if (told.watchers >= MOST_WATCHERS) {
            return FULL;
        }
        told.watchers++;
        return told.watchers - 1;
    }

    public int shift(int w, int a, int b) {
        if (!told.isWatcher(w)) {
            return NONE;
        }
        if (!within(a, -WIDEST_SHIFT, WIDEST_SHIFT) || !within(b, -WIDEST_SHIFT, WIDEST_SHIFT)) {
            return BAD;
        }
        told.shiftX[w] = a;
        told.shiftY[w] = b;
        told.changed = true;
        return 0;
    }

    public int dot(int x, int y, int mark) {
        if (!within(x, -FARTHEST, FARTHEST) || !within(y, -FARTHEST, FARTHEST)
                || !within(mark, 0, MARKS - 1)) {
            return BAD;
        }
        Scan waiting = told.waiting();
        if (waiting.dots >= MOST_DOTS) {
            return FULL;
        }
        waiting.add(x, y, mark);
        return waiting.dots;
    }

    public int scan(int w, int moment) {
        if (!told.isWatcher(w)) {
            return NONE;
        }
        if (!within(moment, 0, LAST_MOMENT)) {
            return BAD;
        }
        if (told.scanCount >= MOST_SCANS) {
            return FULL;
        }
        told.closeWaiting(w, moment);
        told.changed = true;
        return told.scanCount - 1;
    }

    public int drop(int scan) {
        if (!told.isScan(scan)) {
            return NONE;
        }
        told.remove(scan);
        told.changed = true;
        return told.scanCount;
    }

    public int kind(int mark, int k) {
        if (!within(mark, 1, MARKS - 1)) {
            return NONE;
        }
        if (!within(k, 0, KINDS - 1)) {
            return BAD;
        }
        int was = told.kinds[mark];
        told.kinds[mark] = k;
        told.changed = true;
        return was;
    }

    public int rule(int what, int v) {
        if (!within(what, 0, RULES - 1)) {
            return NONE;
        }
        if (!within(v, RULE_LEAST[what], RULE_MOST[what])) {
            return BAD;
        }
        int was = told.rules[what];
        told.rules[what] = v;
        told.changed = true;
        return was;
    }

    // ---- worlds

    public int worlds() {
        keeper.refresh(told);
        return keeper.keptCount;
    }

    public int cost(int world) {
        keeper.refresh(told);
        return keeper.isWorld(world) ? keeper.kept[world].total : NO;
    }

    public int gap(int world) {
        keeper.refresh(told);
        return keeper.isWorld(world) ? keeper.kept[world].total - keeper.kept[0].total : NONE;
    }

    public int tracks(int world) {
        keeper.refresh(told);
        return keeper.isWorld(world) ? keeper.kept[world].trackCount : NONE;
    }

    public int track(int world, int k, int what) {
        keeper.refresh(told);
        if (!keeper.isTrack(world, k)) {
            return NO;
        }
        return keeper.kept[world].tracks[k].read(what);
    }

    public int account(int world, int scan, int dot) {
        keeper.refresh(told);
        if (!keeper.isWorld(world) || !told.isDot(scan, dot)) {
            return BAD;
        }
        return keeper.kept[world].accountOf(scan, dot);
    }

    public int foretell(int world, int k, int moment, int what) {
        keeper.refresh(told);
        if (!keeper.isTrack(world, k) || !within(what, X, Y)) {
            return NO;
        }
        Track track = keeper.kept[world].tracks[k];
        if (!within(moment, track.latest, LAST_MOMENT)) {
            return NO;
        }
        int kind = told.kinds[track.mark];
        return what == X ? track.foretoldX(kind, moment) : track.foretoldY(kind, moment);
    }

    public int ordered(int i) {
        if (!told.isScan(i)) {
            return NONE;
        }
        keeper.refresh(told);
        return told.order[i];
    }

    // ---- names

    public int name(int mark) {
        if (!within(mark, 1, MARKS - 1)) {
            return NONE;
        }
        keeper.refresh(told);
        for (int k = 0; k < keeper.kept[0].trackCount; k++) {
            if (keeper.allMark(k, mark)) {
                return k;
            }
        }
        return NONE;
    }

    public int sure(int scan, int dot) {
        if (!told.isDot(scan, dot)) {
            return NONE;
        }
        keeper.refresh(told);
        return keeper.allAgree(scan, dot) ? 1 : 0;
    }

    public int alive(int world) {
        keeper.refresh(told);
        return keeper.isWorld(world) ? keeper.kept[world].countAlive() : NONE;
    }

    // ---- paths, of world 0

    public int path(int k, int i) {
        keeper.refresh(told);
        if (!keeper.isTrack(0, k) || i < 0) {
            return NONE;
        }
        int left = i;
        for (int at = 0; at < told.scanCount; at++) {
            int scan = told.order[at];
            int dot = dotOfTrack(scan, k);
            if (dot >= 0) {
                if (left == 0) {
                    return MOST_DOTS * scan + dot;
                }
                left--;
            }
        }
        return NONE;
    }

    public int apart(int k, int j, int moment) {
        keeper.refresh(told);
        if (!keeper.isTrack(0, k) || !keeper.isTrack(0, j)) {
            return NONE;
        }
        return squareApart(k, j, moment);
    }

    public int near(int k, int j, int d) {
        keeper.refresh(told);
        if (!keeper.isTrack(0, k) || !keeper.isTrack(0, j)) {
            return NONE;
        }
        if (!within(d, 0, WIDEST_NEAR) || k == j) {
            return BAD;
        }
        for (int at = 0; at < told.scanCount; at++) {
            int moment = told.scans[told.order[at]].moment;
            int square = squareApart(k, j, moment);
            if (square >= 0 && square <= d * d) {
                return moment;
            }
        }
        return NONE;
    }

    // ---- watchers put right

    public int pairs(int w, int u) {
        if (!told.isWatcher(w) || !told.isWatcher(u)) {
            return NONE;
        }
        if (w == u) {
            return BAD;
        }
        measured.measure(told, w, u);
        return measured.pairCount;
    }

    public int level(int w, int u, int what) {
        if (!told.isWatcher(w) || !told.isWatcher(u) || w == u || !within(what, X, Y)) {
            return NO;
        }
        measured.measure(told, w, u);
        return what == X ? measured.meanX() : measured.meanY();
    }

    public int right(int w, int u) {
        if (!told.isWatcher(w) || !told.isWatcher(u)) {
            return NONE;
        }
        if (w == u) {
            return BAD;
        }
        measured.measure(told, w, u);
        if (measured.pairCount == 0) {
            return STATE;
        }
        int a = keptWithin(told.shiftX[w] - measured.meanX());
        int b = keptWithin(told.shiftY[w] - measured.meanY());
        int changed = (a != told.shiftX[u] ? 1 : 0) + (b != told.shiftY[u] ? 1 : 0);
        told.shiftX[u] = a;
        told.shiftY[u] = b;
        told.changed = true;
        return changed;
    }

    public int count(int what) {
        switch (what) {
            case 0:
                return told.watchers;
            case 1:
                return told.scanCount;
            case 2:
                return told.waiting().dots;
            case 3:
                return told.countDots();
            case 4:
                return countFalse();
            case 5:
                return countUnsure();
            default:
                return NONE;
        }
    }

    // ---- within

    private static boolean within(int v, int least, int most) {
        return v >= least && v <= most;
    }

    private static int keptWithin(int v) {
        return Math.max(-WIDEST_SHIFT, Math.min(WIDEST_SHIFT, v));
    }

    /** The dot of a scan that a track of world 0 has, or NONE. */
    private int dotOfTrack(int scan, int k) {
        for (int dot = 0; dot < told.scans[scan].dots; dot++) {
            if (keeper.kept[0].accountOf(scan, dot) == k) {
                return dot;
            }
        }
        return NONE;
    }

    /** The latest dot of a track of world 0 at or ahead of a moment, as path tells it, or NONE. */
    private int latestDot(int k, int moment) {
        int found = NONE;
        for (int at = 0; at < told.scanCount; at++) {
            int scan = told.order[at];
            if (told.scans[scan].moment > moment) {
                break;
            }
            int dot = dotOfTrack(scan, k);
            if (dot >= 0) {
                found = MOST_DOTS * scan + dot;
            }
        }
        return found;
    }

    private int squareApart(int k, int j, int moment) {
        int one = latestDot(k, moment);
        int other = latestDot(j, moment);
        if (one < 0 || other < 0) {
            return NONE;
        }
        int dx = told.rightX(one / MOST_DOTS, one % MOST_DOTS)
                - told.rightX(other / MOST_DOTS, other % MOST_DOTS);
        int dy = told.rightY(one / MOST_DOTS, one % MOST_DOTS)
                - told.rightY(other / MOST_DOTS, other % MOST_DOTS);
        return dx * dx + dy * dy;
    }

    private int countFalse() {
        keeper.refresh(told);
        int found = 0;
        for (int scan = 0; scan < told.scanCount; scan++) {
            for (int dot = 0; dot < told.scans[scan].dots; dot++) {
                found += keeper.kept[0].accountOf(scan, dot) == NONE ? 1 : 0;
            }
        }
        return found;
    }

    private int countUnsure() {
        keeper.refresh(told);
        int found = 0;
        for (int scan = 0; scan < told.scanCount; scan++) {
            for (int dot = 0; dot < told.scans[scan].dots; dot++) {
                found += keeper.allAgree(scan, dot) ? 0 : 1;
            }
        }
        return found;
    }

    /** The dots that one watcher saw at one moment, as told. */
    private static final class Scan {
        int watcher;
        int moment;
        int dots;
        final int[] x = new int[MOST_DOTS];
        final int[] y = new int[MOST_DOTS];
        final int[] mark = new int[MOST_DOTS];

        void add(int atX, int atY, int withMark) {
            if (dots < MOST_DOTS) {
                x[dots] = atX;
                y[dots] = atY;
                mark[dots] = withMark;
                dots++;
            }
        }
    }

    /** All that was told: watchers, scans, and the numbers that the worlds are reckoned by. */
    private static final class Told {
        // Whether the worlds no more go by what is told here.
        boolean changed;
        int watchers;
        int scanCount;
        final int[] shiftX = new int[MOST_WATCHERS];
        final int[] shiftY = new int[MOST_WATCHERS];
        // One more than there can be scans: the one behind the last gathers the dots that wait.
        final Scan[] scans = new Scan[MOST_SCANS + 1];
        final int[] order = new int[MOST_SCANS];
        final int[] rules = new int[RULES];
        final int[] kinds = new int[MARKS];

        Told() {
            for (int i = 0; i < scans.length; i++) {
                scans[i] = new Scan();
            }
            System.arraycopy(RULE_FIRST, 0, rules, 0, RULES);
        }

        boolean isWatcher(int w) {
            return w >= 0 && w < watchers;
        }

        boolean isScan(int scan) {
            return scan >= 0 && scan < scanCount;
        }

        boolean isDot(int scan, int dot) {
            return isScan(scan) && dot >= 0 && dot < scans[scan].dots;
        }

        Scan waiting() {
            return scans[scanCount];
        }

        void closeWaiting(int w, int moment) {
            if (scanCount < MOST_SCANS) {
                scans[scanCount].watcher = w;
                scans[scanCount].moment = moment;
                scanCount++;
                scans[scanCount].dots = 0;
            }
        }

        /** Moves the dots that wait along with the scans, and keeps the scan's object for later. */
        void remove(int scan) {
            if (!isScan(scan)) {
                return;
            }
            Scan gone = scans[scan];
            for (int i = scan; i < scanCount; i++) {
                scans[i] = scans[i + 1];
            }
            scans[scanCount] = gone;
            scanCount--;
        }

        void sortOrder() {
            for (int scan = 0; scan < scanCount; scan++) {
                int at = scan;
                while (at > 0 && scans[order[at - 1]].moment > scans[scan].moment) {
                    order[at] = order[at - 1];
                    at--;
                }
                order[at] = scan;
            }
        }

        int rightX(int scan, int dot) {
            return scans[scan].x[dot] + shiftX[scans[scan].watcher];
        }

        int rightY(int scan, int dot) {
            return scans[scan].y[dot] + shiftY[scans[scan].watcher];
        }

        int countDots() {
            int found = 0;
            for (int scan = 0; scan < scanCount; scan++) {
                found += scans[scan].dots;
            }
            return found;
        }
    }

    /** How far apart two watchers tell of the same things. */
    private static final class Level {
        int pairCount;
        int sumX;
        int sumY;

        void measure(Told told, int w, int u) {
            pairCount = 0;
            sumX = 0;
            sumY = 0;
            for (int i = 0; i < told.scanCount; i++) {
                for (int j = 0; j < told.scanCount; j++) {
                    Scan one = told.scans[i];
                    Scan other = told.scans[j];
                    if (one.watcher == w && other.watcher == u && one.moment == other.moment) {
                        addPairs(one, other);
                    }
                }
            }
        }

        void addPairs(Scan one, Scan other) {
            for (int i = 0; i < one.dots; i++) {
                for (int j = 0; j < other.dots; j++) {
                    if (one.mark[i] != 0 && one.mark[i] == other.mark[j]) {
                        pairCount++;
                        sumX += other.x[j] - one.x[i];
                        sumY += other.y[j] - one.y[i];
                    }
                }
            }
        }

        int meanX() {
            return pairCount > 0 ? Math.floorDiv(sumX, pairCount) : NO;
        }

        int meanY() {
            return pairCount > 0 ? Math.floorDiv(sumY, pairCount) : NO;
        }
    }

    /** A mover as one world takes it to be. */
    private static final class Track {
        int x;
        int y;
        int u;
        int v;
        int latest;
        int hits;
        int missed;
        int mark;
        boolean ended;

        void copyFrom(Track other) {
            x = other.x;
            y = other.y;
            u = other.u;
            v = other.v;
            latest = other.latest;
            hits = other.hits;
            missed = other.missed;
            mark = other.mark;
            ended = other.ended;
        }

        void begin(int atX, int atY, int moment, int withMark) {
            x = atX;
            y = atY;
            u = 0;
            v = 0;
            latest = moment;
            hits = 1;
            missed = 0;
            mark = withMark;
            ended = false;
        }

        void hit(int atX, int atY, int moment, int withMark) {
            int d = moment - latest;
            if (d > 0) {
                u = Math.floorDiv(atX - x, d);
                v = Math.floorDiv(atY - y, d);
            }
            x = atX;
            y = atY;
            latest = moment;
            hits++;
            missed = 0;
            if (mark == 0) {
                mark = withMark;
            }
        }

        /** A track that ended is looked for no more, so that no scan misses it any more. */
        void miss(int breakAt) {
            if (!ended) {
                missed++;
                ended = missed >= breakAt;
            }
        }

        boolean isConfirmed() {
            return hits >= 2;
        }

        boolean mayBear(int withMark) {
            return mark == 0 || withMark == 0 || mark == withMark;
        }

        int foretoldX(int kind, int moment) {
            return x + ahead(kind, moment) * u;
        }

        int foretoldY(int kind, int moment) {
            return y + ahead(kind, moment) * v;
        }

        /** How many times its pace a track of this kind is foretold to go on. */
        int ahead(int kind, int moment) {
            if (kind == HELD) {
                return 0;
            }
            return kind == BACK ? latest - moment : moment - latest;
        }

        int read(int what) {
            switch (what) {
                case 0:
                    return x;
                case 1:
                    return y;
                case 2:
                    return u;
                case 3:
                    return v;
                case 4:
                    return latest;
                case 5:
                    return hits;
                case 6:
                    return missed;
                case 7:
                    return mark;
                case 8:
                    return ended ? 1 : 0;
                case 9:
                    return isConfirmed() ? 1 : 0;
                default:
                    return NO;
            }
        }
    }

    /** One way to account for all dots of the scans so far. */
    private static final class World {
        int total;
        int trackCount;
        final Track[] tracks = new Track[MOST_TRACKS];
        final int[] accounts = new int[MOST_SCANS * MOST_DOTS];

        World() {
            for (int k = 0; k < MOST_TRACKS; k++) {
                tracks[k] = new Track();
            }
        }

        void clear() {
            total = 0;
            trackCount = 0;
        }

        void copyFrom(World other) {
            total = other.total;
            trackCount = other.trackCount;
            for (int k = 0; k < trackCount; k++) {
                tracks[k].copyFrom(other.tracks[k]);
            }
            System.arraycopy(other.accounts, 0, accounts, 0, accounts.length);
        }

        int accountOf(int scan, int dot) {
            return accounts[MOST_DOTS * scan + dot];
        }

        /** The number of a track more; only asked where there is room for one. */
        int addTrack(int x, int y, int moment, int mark) {
            if (trackCount >= MOST_TRACKS) {
                return NONE;
            }
            tracks[trackCount].begin(x, y, moment, mark);
            trackCount++;
            return trackCount - 1;
        }

        int countLookedFor() {
            int found = 0;
            for (int k = 0; k < trackCount; k++) {
                found += tracks[k].ended ? 0 : 1;
            }
            return found;
        }

        int countAlive() {
            int found = 0;
            for (int k = 0; k < trackCount; k++) {
                found += tracks[k].isConfirmed() && !tracks[k].ended ? 1 : 0;
            }
            return found;
        }

        boolean hasMarked(int k, int mark) {
            return k < trackCount && tracks[k].mark == mark;
        }

        /** Carries out a join: what each dot of the scan was picked for. */
        void apply(Join join, Told told, int scan) {
            Scan seen = told.scans[scan];
            int before = trackCount;
            for (int k = 0; k < before; k++) {
                int dot = join.dotPickedFor(k, seen.dots);
                if (dot >= 0) {
                    tracks[k].hit(told.rightX(scan, dot), told.rightY(scan, dot), seen.moment,
                            seen.mark[dot]);
                } else {
                    tracks[k].miss(told.rules[BREAK]);
                }
            }
            for (int dot = 0; dot < seen.dots; dot++) {
                int pick = join.picks[dot];
                int k = pick;
                if (pick == PICK_BEGUN) {
                    k = addTrack(told.rightX(scan, dot), told.rightY(scan, dot), seen.moment,
                            seen.mark[dot]);
                } else if (pick == PICK_FALSE) {
                    k = NONE;
                }
                accounts[MOST_DOTS * scan + dot] = k;
            }
            total = join.total;
        }
    }

    /** What one kept world and one join of a scan come to. */
    private static final class Join {
        int parent;
        int total;
        final int[] picks = new int[MOST_DOTS];

        int dotPickedFor(int k, int dots) {
            for (int dot = 0; dot < dots; dot++) {
                if (picks[dot] == k) {
                    return dot;
                }
            }
            return NONE;
        }
    }

    /** The cheapest joins of one scan, in order; of those that cost alike the first offered. */
    private static final class Shortlist {
        int length;
        int most;
        final Join[] joins = new Join[MOST_WORLDS];

        Shortlist() {
            for (int i = 0; i < MOST_WORLDS; i++) {
                joins[i] = new Join();
            }
        }

        void open(int room) {
            length = 0;
            most = Math.max(1, Math.min(MOST_WORLDS, room));
        }

        boolean takes(int total) {
            return length < most || total < joins[length - 1].total;
        }

        void offer(int parent, int total, int[] picks) {
            if (!takes(total)) {
                return;
            }
            int at = length < most ? length : length - 1;
            Join used = joins[at];
            while (at > 0 && joins[at - 1].total > total) {
                joins[at] = joins[at - 1];
                at--;
            }
            joins[at] = used;
            used.parent = parent;
            used.total = total;
            System.arraycopy(picks, 0, used.picks, 0, MOST_DOTS);
            if (length < most) {
                length++;
            }
        }
    }

    /** Tries all joins of one scan to one world. */
    private static final class Dealer {
        final Shortlist shortlist = new Shortlist();
        private int miss;
        private int birth;
        private int falsely;
        private long gateSquare;
        private int parent;
        private int trackCount;
        private int dots;
        // What joining a dot to a track costs, or CLOSED.
        private final int[] tolls = new int[MOST_TRACKS * MOST_DOTS];
        // The least that a dot and all behind it can cost.
        private final int[] leastFrom = new int[MOST_DOTS + 1];
        private final int[] picks = new int[MOST_DOTS];
        private final boolean[] taken = new boolean[MOST_TRACKS];

        void goBy(int[] rules) {
            miss = rules[MISS];
            birth = rules[BIRTH];
            falsely = rules[FALSE];
            gateSquare = (long) rules[GATE] * rules[GATE];
        }

        void deal(int parentIndex, World world, Told told, int scan) {
            parent = parentIndex;
            trackCount = world.trackCount;
            dots = told.scans[scan].dots;
            setTolls(world, told, scan);
            setLeast();
            dealFrom(this, 0, world.total, world.countLookedFor(), 0);
        }

        private void setTolls(World world, Told told, int scan) {
            Scan seen = told.scans[scan];
            for (int k = 0; k < trackCount; k++) {
                Track track = world.tracks[k];
                int kind = told.kinds[track.mark];
                int x = track.foretoldX(kind, seen.moment);
                int y = track.foretoldY(kind, seen.moment);
                for (int dot = 0; dot < dots; dot++) {
                    boolean open = !track.ended && track.mayBear(seen.mark[dot]);
                    tolls[MOST_DOTS * k + dot] = open
                            ? toll(told.rightX(scan, dot) - x, told.rightY(scan, dot) - y)
                            : CLOSED;
                }
            }
        }

        // In longs: a pace over many moments foretells places whose squares no int holds.
        private int toll(long dx, long dy) {
            long square = dx * dx + dy * dy;
            return square <= gateSquare ? (int) square : CLOSED;
        }

        private void setLeast() {
            leastFrom[dots] = 0;
            for (int dot = dots - 1; dot >= 0; dot--) {
                int least = Math.min(birth, falsely);
                for (int k = 0; k < trackCount; k++) {
                    int toll = tolls[MOST_DOTS * k + dot];
                    if (toll != CLOSED) {
                        least = Math.min(least, toll);
                    }
                }
                leastFrom[dot] = leastFrom[dot + 1] + least;
            }
        }

        /** Whether a join that has come so far can still be among the cheapest. */
        private boolean mayServe(int dot, int total, int unjoined) {
            int missedAtLeast = Math.max(0, unjoined - (dots - dot));
            return shortlist.takes(total + leastFrom[dot] + missedAtLeast * miss);
        }

        /** Goes through the picks in the order that decides where worlds cost alike; 5 deep. */
        private static void dealFrom(Dealer d, int dot, int total, int unjoined, int begun) {
            if (dot >= d.dots || dot >= MOST_DOTS) {
                d.shortlist.offer(d.parent, total + unjoined * d.miss, d.picks);
                return;
            }
            if (!d.mayServe(dot, total, unjoined)) {
                return;
            }
            for (int k = 0; k < d.trackCount; k++) {
                int toll = d.tolls[MOST_DOTS * k + dot];
                if (toll != CLOSED && !d.taken[k]) {
                    d.taken[k] = true;
                    d.picks[dot] = k;
                    dealFrom(d, dot + 1, total + toll, unjoined - 1, begun);
                    d.taken[k] = false;
                }
            }
            if (d.trackCount + begun < MOST_TRACKS) {
                d.picks[dot] = PICK_BEGUN;
                dealFrom(d, dot + 1, total + d.birth, unjoined, begun + 1);
            }
            d.picks[dot] = PICK_FALSE;
            dealFrom(d, dot + 1, total + d.falsely, unjoined, begun);
        }
    }

    /** The worlds that are kept. */
    private static final class Keeper {
        World[] kept = new World[MOST_WORLDS];
        int keptCount;
        private World[] spare = new World[MOST_WORLDS];
        private final Dealer dealer = new Dealer();

        Keeper() {
            for (int i = 0; i < MOST_WORLDS; i++) {
                kept[i] = new World();
                spare[i] = new World();
            }
            keptCount = 1;
        }

        /** Makes all anew from the first scan on, if what was told is no more what it was. */
        void refresh(Told told) {
            if (!told.changed) {
                return;
            }
            told.changed = false;
            told.sortOrder();
            dealer.goBy(told.rules);
            kept[0].clear();
            keptCount = 1;
            for (int at = 0; at < told.scanCount; at++) {
                takeIn(told, told.order[at]);
            }
        }

        private void takeIn(Told told, int scan) {
            Shortlist cheapest = dealer.shortlist;
            cheapest.open(told.rules[KEEP]);
            for (int i = 0; i < keptCount; i++) {
                dealer.deal(i, kept[i], told, scan);
            }
            for (int i = 0; i < cheapest.length; i++) {
                Join join = cheapest.joins[i];
                spare[i].copyFrom(kept[join.parent]);
                spare[i].apply(join, told, scan);
            }
            World[] before = kept;
            kept = spare;
            spare = before;
            keptCount = cheapest.length;
        }

        boolean isWorld(int world) {
            return world >= 0 && world < keptCount;
        }

        boolean isTrack(int world, int k) {
            return isWorld(world) && k >= 0 && k < kept[world].trackCount;
        }

        boolean allMark(int k, int mark) {
            for (int i = 0; i < keptCount; i++) {
                if (!kept[i].hasMarked(k, mark)) {
                    return false;
                }
            }
            return true;
        }

        boolean allAgree(int scan, int dot) {
            for (int i = 1; i < keptCount; i++) {
                if (kept[i].accountOf(scan, dot) != kept[0].accountOf(scan, dot)) {
                    return false;
                }
            }
            return true;
        }
    }
}
