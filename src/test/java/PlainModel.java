import java.util.ArrayList;
import java.util.Comparator;
import java.util.List;

/**
 * The document once more, as plainly as can be and by other means than the class: every question
 * makes all worlds anew, all joins are written down and sorted.
 */
final class PlainModel {
    static final int NONE = -1;
    static final int BAD = -2;
    static final int STATE = -3;
    static final int FULL = -4;
    static final int NO = Integer.MIN_VALUE;
    // An account of a dot that begins a track, and of a false one, behind all tracks.
    private static final int BEGUN = 100;
    private static final int FALSE = 200;

    private record Dot(int x, int y, int mark) { }

    private record Scan(int watcher, int moment, List<Dot> dots) { }

    private record Seen(int x, int y, int moment, int mark, int scan, int dot) { }

    /** A track is the list of what it was seen as; all else is reckoned from that. */
    private static final class Track {
        final List<Seen> seen = new ArrayList<>();
        int missed = 0;
        boolean ended = false;

        Track copy() {
            Track t = new Track();
            t.seen.addAll(seen);
            t.missed = missed;
            t.ended = ended;
            return t;
        }

        Seen last() {
            return seen.get(seen.size() - 1);
        }

        int mark() {
            return seen.stream().mapToInt(Seen::mark).filter(m -> m != 0).findFirst().orElse(0);
        }

        int pace(boolean ofX) {
            for (int i = seen.size() - 1; i > 0; i--) {
                Seen b = seen.get(i);
                Seen a = seen.get(i - 1);
                if (b.moment > a.moment) {
                    double by = ofX ? b.x - a.x : b.y - a.y;
                    return (int) Math.floor(by / (b.moment - a.moment));
                }
            }
            return 0;
        }
    }

    private static final class World {
        final List<Track> tracks = new ArrayList<>();
        long cost = 0;
        int place = 0;
        List<Integer> accounts = new ArrayList<>();

        World copy() {
            World w = new World();
            tracks.forEach(t -> w.tracks.add(t.copy()));
            w.cost = cost;
            return w;
        }

        int trackOf(int scan, int dot) {
            for (int k = 0; k < tracks.size(); k++) {
                for (Seen s : tracks.get(k).seen) {
                    if (s.scan == scan && s.dot == dot) {
                        return k;
                    }
                }
            }
            return NONE;
        }
    }

    private final List<int[]> shifts = new ArrayList<>();
    private final List<Scan> scans = new ArrayList<>();
    private List<Dot> waiting = new ArrayList<>();
    private final int[] rules = {60, 900, 2500, 4000, 3, 3};
    private final int[] kinds = new int[10];
    private List<World> made = null;

    // ---- the worlds

    private List<Integer> order() {
        List<Integer> order = new ArrayList<>();
        for (int i = 0; i < scans.size(); i++) {
            order.add(i);
        }
        order.sort(Comparator.<Integer>comparingInt(i -> scans.get(i).moment).thenComparing(i -> i));
        return order;
    }

    private List<World> kept() {
        if (made == null) {
            List<World> kept = new ArrayList<>(List.of(new World()));
            for (int scan : order()) {
                List<World> all = new ArrayList<>();
                for (int i = 0; i < kept.size(); i++) {
                    spread(all, kept.get(i), i, scan, new ArrayList<>());
                }
                all.sort(PlainModel::compareWorlds);
                kept = new ArrayList<>(all.subList(0, Math.min(rules[5], all.size())));
            }
            made = kept;
        }
        return made;
    }

    private static int compareWorlds(World a, World b) {
        if (a.cost != b.cost) {
            return Long.compare(a.cost, b.cost);
        }
        if (a.place != b.place) {
            return Integer.compare(a.place, b.place);
        }
        for (int i = 0; i < a.accounts.size(); i++) {
            int c = Integer.compare(a.accounts.get(i), b.accounts.get(i));
            if (c != 0) {
                return c;
            }
        }
        return 0;
    }

    // Goes through the accounts from the last to the first, so that the sorting has work to do.
    private void spread(List<World> all, World from, int place, int scan, List<Integer> accounts) {
        if (accounts.size() == scans.get(scan).dots.size()) {
            all.add(carryOut(from, place, scan, accounts));
            return;
        }
        List<Integer> open = new ArrayList<>();
        open.add(FALSE);
        long begun = accounts.stream().filter(a -> a == BEGUN).count();
        if (from.tracks.size() + begun < 6) {
            open.add(BEGUN);
        }
        for (int k = from.tracks.size() - 1; k >= 0; k--) {
            boolean free = !accounts.contains(k);
            if (free && square(from.tracks.get(k), scan, accounts.size()) >= 0) {
                open.add(k);
            }
        }
        for (int account : open) {
            List<Integer> more = new ArrayList<>(accounts);
            more.add(account);
            spread(all, from, place, scan, more);
        }
    }

    private Seen seen(int scan, int dot) {
        Scan s = scans.get(scan);
        Dot d = s.dots.get(dot);
        int[] shift = shifts.get(s.watcher);
        return new Seen(d.x + shift[0], d.y + shift[1], s.moment, d.mark, scan, dot);
    }

    private int foretold(Track t, int moment, boolean ofX) {
        int d = moment - t.last().moment;
        int place = ofX ? t.last().x : t.last().y;
        return switch (kinds[t.mark()]) {
            case 0 -> place + d * t.pace(ofX);
            case 1 -> place;
            default -> place - d * t.pace(ofX);
        };
    }

    /** What joining a dot to a track costs, or NONE if it may not be. */
    private long square(Track t, int scan, int dot) {
        Seen s = seen(scan, dot);
        long dx = (long) s.x - foretold(t, s.moment, true);
        long dy = (long) s.y - foretold(t, s.moment, false);
        long square = dx * dx + dy * dy;
        boolean unlike = t.mark() != 0 && s.mark != 0 && t.mark() != s.mark;
        return t.ended || unlike || square > (long) rules[0] * rules[0] ? NONE : square;
    }

    private World carryOut(World from, int place, int scan, List<Integer> accounts) {
        World w = from.copy();
        w.place = place;
        w.accounts = accounts;
        for (int k = 0; k < from.tracks.size(); k++) {
            Track t = w.tracks.get(k);
            int dot = accounts.indexOf(k);
            if (dot >= 0) {
                w.cost += square(t, scan, dot);
                t.seen.add(seen(scan, dot));
                t.missed = 0;
            } else if (!t.ended) {
                w.cost += rules[1];
                t.missed++;
                t.ended = t.missed == rules[4];
            }
        }
        for (int dot = 0; dot < accounts.size(); dot++) {
            if (accounts.get(dot) == BEGUN) {
                Track t = new Track();
                t.seen.add(seen(scan, dot));
                w.tracks.add(t);
                w.cost += rules[2];
            } else if (accounts.get(dot) == FALSE) {
                w.cost += rules[3];
            }
        }
        return w;
    }

    // ---- the face

    int watcher() {
        if (shifts.size() == 3) {
            return FULL;
        }
        shifts.add(new int[2]);
        return shifts.size() - 1;
    }

    int shift(int w, int a, int b) {
        if (!isWatcher(w)) {
            return NONE;
        }
        if (Math.abs((long) a) > 50 || Math.abs((long) b) > 50) {
            return BAD;
        }
        shifts.set(w, new int[] {a, b});
        made = null;
        return 0;
    }

    int dot(int x, int y, int mark) {
        if (Math.abs((long) x) > 1000 || Math.abs((long) y) > 1000 || mark < 0 || mark > 9) {
            return BAD;
        }
        if (waiting.size() == 4) {
            return FULL;
        }
        waiting.add(new Dot(x, y, mark));
        return waiting.size();
    }

    int scan(int w, int moment) {
        if (!isWatcher(w)) {
            return NONE;
        }
        if (moment < 0 || moment > 999) {
            return BAD;
        }
        if (scans.size() == 12) {
            return FULL;
        }
        scans.add(new Scan(w, moment, waiting));
        waiting = new ArrayList<>();
        made = null;
        return scans.size() - 1;
    }

    int drop(int scan) {
        if (scan < 0 || scan >= scans.size()) {
            return NONE;
        }
        scans.remove(scan);
        made = null;
        return scans.size();
    }

    int kind(int mark, int k) {
        if (mark < 1 || mark > 9) {
            return NONE;
        }
        if (k < 0 || k > 2) {
            return BAD;
        }
        int was = kinds[mark];
        kinds[mark] = k;
        made = null;
        return was;
    }

    int rule(int what, int v) {
        if (what < 0 || what > 5) {
            return NONE;
        }
        int least = what >= 4 ? 1 : 0;
        int most = what == 0 ? 500 : what == 4 ? 9 : what == 5 ? 4 : 100000;
        if (v < least || v > most) {
            return BAD;
        }
        int was = rules[what];
        rules[what] = v;
        made = null;
        return was;
    }

    int worlds() {
        return kept().size();
    }

    int cost(int world) {
        return isWorld(world) ? (int) kept().get(world).cost : NO;
    }

    int gap(int world) {
        return isWorld(world) ? (int) (kept().get(world).cost - kept().get(0).cost) : NONE;
    }

    int tracks(int world) {
        return isWorld(world) ? kept().get(world).tracks.size() : NONE;
    }

    int track(int world, int k, int what) {
        if (!isTrack(world, k)) {
            return NO;
        }
        Track t = kept().get(world).tracks.get(k);
        return switch (what) {
            case 0 -> t.last().x;
            case 1 -> t.last().y;
            case 2 -> t.pace(true);
            case 3 -> t.pace(false);
            case 4 -> t.last().moment;
            case 5 -> t.seen.size();
            case 6 -> t.missed;
            case 7 -> t.mark();
            case 8 -> t.ended ? 1 : 0;
            case 9 -> t.seen.size() >= 2 ? 1 : 0;
            default -> NO;
        };
    }

    int account(int world, int scan, int dot) {
        return isWorld(world) && isDot(scan, dot) ? kept().get(world).trackOf(scan, dot) : -2;
    }

    int foretell(int world, int k, int moment, int what) {
        if (!isTrack(world, k) || what < 0 || what > 1 || moment > 999) {
            return NO;
        }
        Track t = kept().get(world).tracks.get(k);
        return moment < t.last().moment ? NO : foretold(t, moment, what == 0);
    }

    int ordered(int i) {
        return i >= 0 && i < scans.size() ? order().get(i) : NONE;
    }

    int name(int mark) {
        for (int k = 0; k < 6 && mark >= 1 && mark <= 9; k++) {
            int at = k;
            if (kept().stream().allMatch(w -> at < w.tracks.size() && w.tracks.get(at).mark() == mark)) {
                return k;
            }
        }
        return NONE;
    }

    int sure(int scan, int dot) {
        if (!isDot(scan, dot)) {
            return NONE;
        }
        return kept().stream().map(w -> w.trackOf(scan, dot)).distinct().count() == 1 ? 1 : 0;
    }

    int alive(int world) {
        if (!isWorld(world)) {
            return NONE;
        }
        return (int) kept().get(world).tracks.stream().filter(t -> !t.ended && t.seen.size() >= 2).count();
    }

    int path(int k, int i) {
        if (!isTrack(0, k) || i < 0 || i >= kept().get(0).tracks.get(k).seen.size()) {
            return NONE;
        }
        Seen s = kept().get(0).tracks.get(k).seen.get(i);
        return 4 * s.scan + s.dot;
    }

    int apart(int k, int j, int moment) {
        if (!isTrack(0, k) || !isTrack(0, j)) {
            return NONE;
        }
        Seen a = latest(k, moment);
        Seen b = latest(j, moment);
        if (a == null || b == null) {
            return NONE;
        }
        return (a.x - b.x) * (a.x - b.x) + (a.y - b.y) * (a.y - b.y);
    }

    private Seen latest(int k, int moment) {
        Seen found = null;
        for (Seen s : kept().get(0).tracks.get(k).seen) {
            found = s.moment <= moment ? s : found;
        }
        return found;
    }

    int near(int k, int j, int d) {
        if (!isTrack(0, k) || !isTrack(0, j)) {
            return NONE;
        }
        if (d < 0 || d > 1000 || k == j) {
            return BAD;
        }
        for (int moment = 0; moment < 1000; moment++) {
            int at = moment;
            int apart = apart(k, j, moment);
            if (apart != NONE && apart <= d * d && scans.stream().anyMatch(s -> s.moment == at)) {
                return moment;
            }
        }
        return NONE;
    }

    private List<int[]> levelPairs(int w, int u) {
        List<int[]> pairs = new ArrayList<>();
        for (Scan s : scans) {
            for (Scan t : scans) {
                if (s.watcher != w || t.watcher != u || s.moment != t.moment) {
                    continue;
                }
                for (Dot a : s.dots) {
                    for (Dot b : t.dots) {
                        if (a.mark == b.mark && a.mark != 0) {
                            pairs.add(new int[] {b.x - a.x, b.y - a.y});
                        }
                    }
                }
            }
        }
        return pairs;
    }

    int pairs(int w, int u) {
        if (!isWatcher(w) || !isWatcher(u)) {
            return NONE;
        }
        return w == u ? BAD : levelPairs(w, u).size();
    }

    int level(int w, int u, int what) {
        if (pairs(w, u) <= 0 || what < 0 || what > 1) {
            return NO;
        }
        double sum = levelPairs(w, u).stream().mapToInt(p -> p[what]).sum();
        return (int) Math.floor(sum / pairs(w, u));
    }

    int right(int w, int u) {
        int pairs = pairs(w, u);
        if (pairs <= 0) {
            return pairs == 0 ? STATE : pairs;
        }
        int changed = 0;
        int[] shift = new int[2];
        for (int i = 0; i < 2; i++) {
            shift[i] = Math.min(50, Math.max(-50, shifts.get(w)[i] - level(w, u, i)));
            changed += shift[i] != shifts.get(u)[i] ? 1 : 0;
        }
        shifts.set(u, shift);
        made = null;
        return changed;
    }

    int count(int what) {
        int dots = 0;
        int falseOnes = 0;
        int unsure = 0;
        for (int scan = 0; scan < scans.size(); scan++) {
            for (int dot = 0; dot < scans.get(scan).dots.size(); dot++) {
                dots++;
                falseOnes += account(0, scan, dot) == NONE ? 1 : 0;
                unsure += 1 - sure(scan, dot);
            }
        }
        int[] counts = {shifts.size(), scans.size(), waiting.size(), dots, falseOnes, unsure};
        return what >= 0 && what < 6 ? counts[what] : NONE;
    }

    private boolean isWatcher(int w) {
        return w >= 0 && w < shifts.size();
    }

    private boolean isDot(int scan, int dot) {
        return scan >= 0 && scan < scans.size() && dot >= 0 && dot < scans.get(scan).dots.size();
    }

    private boolean isWorld(int world) {
        return world >= 0 && world < kept().size();
    }

    private boolean isTrack(int world, int k) {
        return isWorld(world) && k >= 0 && k < kept().get(world).tracks.size();
    }
}
