/** Every promise of the document on its own: ordinary inputs, named edges, wrong inputs. */
public final class PromiseTest extends Checks {
    public static void main(String[] args) {
        newObject();
        watcher();
        shift();
        dot();
        scan();
        drop();
        kind();
        rule();
        worlds();
        costAndGap();
        tracks();
        track();
        missedAndEnded();
        account();
        foretell();
        ordered();
        name();
        sure();
        alive();
        path();
        apart();
        near();
        pairsAndLevel();
        right();
        count();
        gateAndMarks();
        tiesAndOrderOfWorlds();
        refusalsChangeNothing();
        end();
    }

    private static void newObject() {
        WhoIsWho x = new WhoIsWho();
        due("1 count(0)", x.count(0), 0);
        due("1 count(1)", x.count(1), 0);
        due("1 count(2)", x.count(2), 0);
        due("1 count(3)", x.count(3), 0);
        due("1 count(4)", x.count(4), 0);
        due("1 count(5)", x.count(5), 0);
        due("1 worlds", x.worlds(), 1);
        due("1 GATE", x.rule(0, 60), 60);
        due("1 MISS", x.rule(1, 900), 900);
        due("1 BIRTH", x.rule(2, 2500), 2500);
        due("1 FALSE", x.rule(3, 4000), 4000);
        due("1 BREAK", x.rule(4, 3), 3);
        due("1 K", x.rule(5, 3), 3);
        for (int mark = 1; mark <= 9; mark++) {
            due("1 KIND of " + mark, x.kind(mark, 0), 0);
        }
    }

    private static void watcher() {
        WhoIsWho x = new WhoIsWho();
        due("2 first", x.watcher(), 0);
        due("2 second", x.watcher(), 1);
        due("2 third", x.watcher(), 2);
        due("2 fourth", x.watcher(), FULL);
        due("2 still three", x.count(0), 3);
    }

    private static void shift() {
        WhoIsWho x = watched(1);
        tell(x, 0, 1, 100, -100, 0);
        due("3 shift", x.shift(0, 50, -50), 0);
        due("3 x put right", x.track(0, 0, 0), 150);
        due("3 y put right", x.track(0, 0, 1), -150);
        due("3 no watcher", x.shift(1, 0, 0), NONE);
        due("3 no watcher, bad", x.shift(1, 51, 0), NONE);
        due("3 below", x.shift(-1, 0, 0), NONE);
        due("3 a above", x.shift(0, 51, 0), BAD);
        due("3 a below", x.shift(0, -51, 0), BAD);
        due("3 b above", x.shift(0, 0, 51), BAD);
        due("3 b below", x.shift(0, 0, -51), BAD);
        due("3 unchanged", x.track(0, 0, 0), 150);
        due("3 back", x.shift(0, -50, 50), 0);
        due("3 x anew", x.track(0, 0, 0), 50);
        due("3 y anew", x.track(0, 0, 1), -50);
    }

    private static void dot() {
        WhoIsWho x = watched(1);
        due("4 x below", x.dot(-1001, 0, 0), BAD);
        due("4 x above", x.dot(1001, 0, 0), BAD);
        due("4 y below", x.dot(0, -1001, 0), BAD);
        due("4 y above", x.dot(0, 1001, 0), BAD);
        due("4 mark below", x.dot(0, 0, -1), BAD);
        due("4 mark above", x.dot(0, 0, 10), BAD);
        due("4 none waits", x.count(2), 0);
        due("4 first", x.dot(-1000, 1000, 9), 1);
        due("4 second", x.dot(1000, -1000, 0), 2);
        due("4 third", x.dot(0, 0, 1), 3);
        due("4 fourth", x.dot(0, 0, 2), 4);
        due("4 full", x.dot(0, 0, 3), FULL);
        due("4 bad ahead of full", x.dot(0, 1001, 3), BAD);
        due("4 four wait", x.count(2), 4);
    }

    private static void scan() {
        WhoIsWho x = watched(2);
        x.dot(1, 2, 3);
        due("5 no watcher", x.scan(2, 0), NONE);
        due("5 no watcher, bad", x.scan(-1, 1000), NONE);
        due("5 moment below", x.scan(0, -1), BAD);
        due("5 moment above", x.scan(0, 1000), BAD);
        due("5 still waits", x.count(2), 1);
        due("5 first", x.scan(1, 999), 0);
        due("5 waits no more", x.count(2), 0);
        for (int i = 1; i < 12; i++) {
            due("5 number " + i, x.scan(0, 0), i);
        }
        x.dot(1, 2, 3);
        due("5 none ahead of full", x.scan(2, 0), NONE);
        due("5 bad ahead of full", x.scan(0, 1000), BAD);
        due("5 full", x.scan(0, 5), FULL);
        due("5 waits on", x.count(2), 1);
        due("5 twelve", x.count(1), 12);
        due("5 drop makes room", x.drop(3), 11);
        due("5 again", x.scan(0, 5), 11);
        due("5 two dots", x.count(3), 2);
    }

    private static void drop() {
        WhoIsWho x = watched(1);
        due("6 none", x.drop(0), NONE);
        tell(x, 0, 5, 10, 0, 0);
        tell(x, 0, 6, 12, 0, 0);
        tell(x, 0, 7, 500, 0, 0, 501, 0, 0);
        x.dot(7, 7, 7);
        due("6 below", x.drop(-1), NONE);
        due("6 above", x.drop(3), NONE);
        due("6 hits ahead", x.track(0, 0, 5), 2);
        due("6 first", x.drop(0), 2);
        due("6 hits behind", x.track(0, 0, 5), 1);
        due("6 number 1 less", x.account(0, 1, 1), 2);
        due("6 no such dot", x.account(0, 0, 1), -2);
        due("6 order", x.ordered(1), 1);
        due("6 waits on", x.count(2), 1);
        due("6 last", x.drop(1), 1);
        due("6 dots", x.count(3), 1);
        due("6 the dot that waits", x.scan(0, 8), 1);
        due("6 is whole", x.track(0, 0, 7), 7);
        due("6 all", x.drop(0) + x.drop(0), 1);
        due("6 worlds", x.worlds(), 1);
        due("6 tracks", x.tracks(0), 0);
        due("6 cost", x.cost(0), 0);
    }

    private static void kind() {
        WhoIsWho x = watched(1);
        due("7 mark 0", x.kind(0, 0), NONE);
        due("7 mark 10", x.kind(10, 0), NONE);
        due("7 none ahead of bad", x.kind(0, 3), NONE);
        due("7 k below", x.kind(1, -1), BAD);
        due("7 k above", x.kind(1, 3), BAD);
        due("7 was", x.kind(9, 2), 0);
        due("7 was 2", x.kind(9, 1), 2);
        due("7 was 1", x.kind(9, 0), 1);
        x.rule(1, 2000);
        tell(x, 0, 0, 0, 0, 4);
        tell(x, 0, 1, 30, 0, 4);
        tell(x, 0, 2, 60, 0, 4);
        due("7 even: foretold", x.cost(0), 2500 + 900);
        x.kind(4, 1);
        due("7 held: 30 each", x.cost(0), 2500 + 900 + 900);
        x.kind(4, 2);
        due("7 back: 60 at the gate", x.cost(0), 2500 + 900 + 3600);
    }

    private static void rule() {
        WhoIsWho x = watched(1);
        int[] least = {0, 0, 0, 0, 1, 1};
        int[] most = {500, 100000, 100000, 100000, 9, 4};
        for (int what = 0; what < 6; what++) {
            due("8 below " + what, x.rule(what, least[what] - 1), BAD);
            due("8 above " + what, x.rule(what, most[what] + 1), BAD);
            x.rule(what, most[what]);
            due("8 most " + what, x.rule(what, least[what]), most[what]);
            due("8 least " + what, x.rule(what, least[what]), least[what]);
        }
        due("8 no such what", x.rule(6, 1), NONE);
        due("8 no such what, below", x.rule(-1, 1), NONE);

        x = watched(1);
        tell(x, 0, 0, 0, 0, 0);
        tell(x, 0, 1, 50, 0, 0);
        tell(x, 0, 2);
        due("8 cost", x.cost(0), 2500 + 2500 + 900);
        x.rule(1, 100);
        due("8 MISS", x.cost(0), 2500 + 2500 + 100);
        x.rule(2, 300);
        due("8 BIRTH", x.cost(0), 300 + 100 + 300 + 200);
        x.rule(3, 7);
        due("8 FALSE", x.cost(0), 14);
        x.rule(3, 4000);
        x.rule(4, 1);
        due("8 BREAK", x.cost(0), 300 + 100 + 300 + 100);
        due("8 ended", x.track(0, 0, 8), 1);
        x.rule(0, 49);
        due("8 GATE", x.tracks(2), 1);
        due("8 three worlds", x.worlds(), 3);
        x.rule(5, 4);
        due("8 K", x.worlds(), 4);
    }

    private static void worlds() {
        WhoIsWho x = watched(1);
        due("9 without scans", x.worlds(), 1);
        tell(x, 0, 0);
        due("9 without dots", x.worlds(), 1);
        tell(x, 0, 1, 0, 0, 0);
        due("9 begun or false", x.worlds(), 2);
        tell(x, 0, 2, 0, 0, 0);
        due("9 K", x.worlds(), 3);
        x.rule(5, 1);
        due("9 K 1", x.worlds(), 1);
        x.rule(5, 4);
        due("9 K 4", x.worlds(), 4);
    }

    private static void costAndGap() {
        WhoIsWho x = watched(1);
        due("10 empty", x.cost(0), 0);
        due("10 above", x.cost(1), NO);
        due("10 below", x.cost(-1), NO);
        due("11 above", x.gap(1), NONE);
        due("11 below", x.gap(-1), NONE);
        tell(x, 0, 0, 0, 0, 0);
        tell(x, 0, 3, 3, 4, 0);
        due("10 begun, joined", x.cost(0), 2525);
        due("10 begun, begun, missed", x.cost(1), 5900);
        due("10 false, begun", x.cost(2), 6500);
        due("10 no more", x.cost(3), NO);
        due("11 own", x.gap(0), 0);
        due("11 second", x.gap(1), 3375);
        due("11 third", x.gap(2), 3975);
        due("11 no more", x.gap(3), NONE);
    }

    private static void tracks() {
        WhoIsWho x = watched(1);
        due("12 empty", x.tracks(0), 0);
        due("12 above", x.tracks(1), NONE);
        due("12 below", x.tracks(-1), NONE);
        tell(x, 0, 0, 0, 0, 0, 200, 0, 0, 400, 0, 0, 600, 0, 0);
        due("12 four", x.tracks(0), 4);
        due("12 three, one false", x.tracks(1), 3);
        x.rule(5, 1);
        tell(x, 0, 1, 0, 500, 0, 200, 500, 0, 400, 500, 0, 600, 500, 0);
        due("12 six at most", x.tracks(0), 6);
        due("12 first two are begun", x.account(0, 1, 0) + x.account(0, 1, 1), 9);
        due("12 the rest are false", x.account(0, 1, 2) + x.account(0, 1, 3), -2);
        due("12 cost", x.cost(0), 6 * 2500 + 2 * 4000 + 4 * 900);
        tell(x, 0, 2);
        tell(x, 0, 3);
        tell(x, 0, 4, 900, 900, 0);
        due("12 ended count, too", x.tracks(0), 6);
        due("12 false", x.account(0, 4, 0), NONE);
    }

    private static void track() {
        WhoIsWho x = watched(1);
        tell(x, 0, 10, 0, 0, 0);
        int[] begun = {0, 0, 0, 0, 10, 1, 0, 0, 0, 0};
        for (int what = 0; what < 10; what++) {
            due("13 begun " + what, x.track(0, 0, what), begun[what]);
        }
        tell(x, 0, 14, 7, -7, 5);
        int[] joined = {7, -7, 1, -2, 14, 2, 0, 5, 0, 1};
        for (int what = 0; what < 10; what++) {
            due("13 joined " + what, x.track(0, 0, what), joined[what]);
        }
        tell(x, 0, 14, 9, -9, 5);
        due("13 x at one moment", x.track(0, 0, 0), 9);
        due("13 pace at one moment", x.track(0, 0, 2), 1);
        due("13 pace at one moment, y", x.track(0, 0, 3), -2);
        due("13 hits", x.track(0, 0, 5), 3);
        due("13 no such what", x.track(0, 0, 10), NO);
        due("13 no such what, below", x.track(0, 0, -1), NO);
        due("13 no such track", x.track(0, 1, 0), NO);
        due("13 no such track, below", x.track(0, -1, 0), NO);
        due("13 no such world", x.track(3, 0, 0), NO);
        due("13 no such world, below", x.track(-1, 0, 0), NO);
    }

    private static void missedAndEnded() {
        WhoIsWho x = watched(1);
        x.rule(5, 1);
        tell(x, 0, 0, 0, 0, 0);
        tell(x, 0, 1);
        tell(x, 0, 2);
        due("13 missed", x.track(0, 0, 6), 2);
        due("13 not ended", x.track(0, 0, 8), 0);
        tell(x, 0, 3, 0, 0, 2);
        due("13 missed no more", x.track(0, 0, 6), 0);
        due("13 mark of a later dot", x.track(0, 0, 7), 2);
        due("13 moment", x.track(0, 0, 4), 3);
        tell(x, 0, 4);
        tell(x, 0, 5);
        tell(x, 0, 6);
        due("13 missed with BREAK", x.track(0, 0, 6), 3);
        due("13 ended", x.track(0, 0, 8), 1);
        due("13 still confirmed", x.track(0, 0, 9), 1);
        int cost = x.cost(0);
        tell(x, 0, 7);
        due("13 no miss of an ended one", x.cost(0), cost);
        due("13 nor counted", x.track(0, 0, 6), 3);
        tell(x, 0, 8, 0, 0, 2);
        due("13 nor joined", x.account(0, 8, 0), 1);
    }

    private static void account() {
        WhoIsWho x = watched(1);
        due("14 no scan", x.account(0, 0, 0), -2);
        tell(x, 0, 5, 0, 0, 0, 300, 0, 0);
        tell(x, 0, 6, 301, 0, 0, 1, 0, 0, 0, 800, 0);
        due("14 joined", x.account(0, 1, 0), 1);
        due("14 joined, crossed", x.account(0, 1, 1), 0);
        due("14 begun", x.account(0, 1, 2), 2);
        due("14 false in world 1", x.account(1, 1, 2), NONE);
        due("14 no such world", x.account(3, 0, 0), -2);
        due("14 no such world, below", x.account(-1, 0, 0), -2);
        due("14 no such scan", x.account(0, 2, 0), -2);
        due("14 no such scan, below", x.account(0, -1, 0), -2);
        due("14 no such dot", x.account(0, 0, 2), -2);
        due("14 no such dot, below", x.account(0, 0, -1), -2);
    }

    private static void foretell() {
        WhoIsWho x = watched(1);
        tell(x, 0, 10, 0, 0, 6);
        tell(x, 0, 14, 7, -7, 6);
        due("15 at its moment", x.foretell(0, 0, 14, 0), 7);
        due("15 even x", x.foretell(0, 0, 20, 0), 13);
        due("15 even y", x.foretell(0, 0, 20, 1), -19);
        due("15 last moment", x.foretell(0, 0, 999, 1), -7 - 985 * 2);
        due("15 ahead", x.foretell(0, 0, 13, 0), NO);
        due("15 no moment", x.foretell(0, 0, 1000, 0), NO);
        due("15 no moment, below", x.foretell(0, 0, -1, 0), NO);
        due("15 no such what", x.foretell(0, 0, 20, 2), NO);
        due("15 no such what, below", x.foretell(0, 0, 20, -1), NO);
        due("15 no such track", x.foretell(0, 1, 20, 0), NO);
        due("15 no such world", x.foretell(3, 0, 20, 0), NO);
        x.kind(6, 1);
        due("15 held x", x.foretell(0, 0, 20, 0), 7);
        due("15 held y", x.foretell(0, 0, 20, 1), -7);
        x.kind(6, 2);
        due("15 back x", x.foretell(0, 0, 20, 0), 1);
        due("15 back y", x.foretell(0, 0, 20, 1), 5);
    }

    private static void ordered() {
        WhoIsWho x = watched(2);
        due("16 none", x.ordered(0), NONE);
        tell(x, 0, 7);
        tell(x, 1, 3);
        tell(x, 1, 7);
        tell(x, 0, 3);
        int[] want = {1, 3, 0, 2};
        for (int i = 0; i < 4; i++) {
            due("16 ordered " + i, x.ordered(i), want[i]);
        }
        due("16 above", x.ordered(4), NONE);
        due("16 below", x.ordered(-1), NONE);
        x.drop(1);
        due("16 anew", x.ordered(0), 2);
    }

    private static void name() {
        WhoIsWho x = watched(1);
        due("17 none", x.name(1), NONE);
        due("17 mark 0", x.name(0), NONE);
        due("17 mark 10", x.name(10), NONE);
        x.rule(5, 1);
        tell(x, 0, 0, 0, 0, 3, 200, 0, 0, 400, 0, 3, 600, 0, 9);
        due("17 least of several", x.name(3), 0);
        due("17 mark 9", x.name(9), 3);
        due("17 mark 0 of a track", x.name(0), NONE);
        due("17 not seen", x.name(4), NONE);
        x.rule(5, 2);
        due("17 track 0 in both", x.name(3), 0);
        due("17 last is false in one", x.name(9), NONE);
        x.rule(3, 2500);
        x.rule(5, 4);
        due("17 not sure", x.name(9), NONE);

        x = watched(1);
        x.rule(5, 2);
        tell(x, 0, 0, 0, 0, 0);
        tell(x, 0, 1, 0, 0, 5);
        due("17 second world begins one more", x.tracks(1), 2);
        due("17 marks of one track differ", x.name(5), NONE);
    }

    private static void sure() {
        WhoIsWho x = watched(1);
        due("18 none", x.sure(0, 0), NONE);
        tell(x, 0, 0, 0, 0, 0, 200, 0, 0);
        due("18 not sure", x.sure(0, 0), 0);
        x.rule(5, 2);
        due("18 sure", x.sure(0, 0), 1);
        due("18 false in one", x.sure(0, 1), 0);
        x.rule(5, 1);
        due("18 one world", x.sure(0, 1), 1);
        due("18 no such dot", x.sure(0, 2), NONE);
        due("18 no such dot, below", x.sure(0, -1), NONE);
        due("18 no such scan", x.sure(1, 0), NONE);
        due("18 no such scan, below", x.sure(-1, 0), NONE);
    }

    private static void alive() {
        WhoIsWho x = watched(1);
        due("19 empty", x.alive(0), 0);
        due("19 above", x.alive(1), NONE);
        due("19 below", x.alive(-1), NONE);
        x.rule(4, 2);
        tell(x, 0, 0, 0, 0, 0, 200, 0, 0);
        due("19 one hit each", x.alive(0), 0);
        tell(x, 0, 1, 1, 0, 0);
        due("19 one confirmed", x.alive(0), 1);
        tell(x, 0, 2, 2, 0, 0, 200, 0, 0);
        x.rule(5, 1);
        due("19 two or one", x.alive(0), x.track(0, 1, 9) + 1);
        tell(x, 0, 3);
        tell(x, 0, 4);
        due("19 all ended", x.alive(0), 0);
    }

    private static void path() {
        WhoIsWho x = watched(1);
        due("20 none", x.path(0, 0), NONE);
        tell(x, 0, 9, 500, 0, 0, 2, 0, 0);
        tell(x, 0, 3, 0, 0, 0);
        tell(x, 0, 5);
        tell(x, 0, 6, 900, 0, 0, 0, 900, 0, 1, 0, 0);
        due("20 first", x.path(0, 0), 4);
        due("20 second", x.path(0, 1), 4 * 3 + 2);
        due("20 third", x.path(0, 2), 1);
        due("20 no more", x.path(0, 3), NONE);
        due("20 below", x.path(0, -1), NONE);
        due("20 another", x.path(1, 0), 12);
        due("20 no such track", x.path(4, 0), NONE);
        due("20 no such track, below", x.path(-1, 0), NONE);
    }

    private static WhoIsWho twoTracks() {
        WhoIsWho x = watched(2);
        tell(x, 0, 2, 0, 0, 0);
        tell(x, 0, 4, 3, 0, 0, 100, 40, 0);
        tell(x, 0, 6, 6, 0, 0, 60, 40, 0);
        tell(x, 1, 6, 6, 0, 0, 36, 40, 0);
        return x;
    }

    private static void apart() {
        WhoIsWho x = twoTracks();
        due("21 tracks", x.tracks(0), 2);
        due("21 none is there", x.apart(0, 1, 1), NONE);
        due("21 one is not there", x.apart(0, 1, 3), NONE);
        due("21 the other way", x.apart(1, 0, 3), NONE);
        due("21 both", x.apart(0, 1, 4), 97 * 97 + 1600);
        due("21 between scans", x.apart(0, 1, 5), 97 * 97 + 1600);
        due("21 latest of one moment", x.apart(0, 1, 6), 2500);
        due("21 later", x.apart(1, 0, 999), 2500);
        due("21 one and itself", x.apart(0, 0, 2), 0);
        due("21 no such track", x.apart(0, 2, 6), NONE);
        due("21 no such track, below", x.apart(-1, 0, 6), NONE);
        due("21 below", x.apart(0, 1, -1), NONE);
        x.shift(1, 10, 0);
        due("21 put right", x.apart(0, 1, 6), 2500);
        x.shift(0, 10, 0);
        x.shift(1, 0, 0);
        due("21 put right, at another moment", x.apart(0, 1, 4), 97 * 97 + 1600);
        x.drop(3);
        due("21 by moments", x.apart(0, 1, 6), 54 * 54 + 1600);
    }

    private static void near() {
        WhoIsWho x = twoTracks();
        due("22 at once, ahead of any other question", x.near(0, 1, 200), 4);
        due("22 later", x.near(0, 1, 50), 6);
        due("22 the other way", x.near(1, 0, 50), 6);
        due("22 never", x.near(0, 1, 49), NONE);
        due("22 d least", x.near(0, 1, 0), NONE);
        due("22 d most", x.near(0, 1, 1000), 4);
        due("22 d above", x.near(0, 1, 1001), BAD);
        due("22 d below", x.near(0, 1, -1), BAD);
        due("22 they are one", x.near(1, 1, 5), BAD);
        due("22 no such track", x.near(0, 2, 5), NONE);
        due("22 none ahead of bad", x.near(2, 2, 5), NONE);
        due("22 none ahead of bad d", x.near(-1, 0, 1001), NONE);

        x = watched(1);
        tell(x, 0, 5, 0, 0, 1, 90, 0, 2);
        tell(x, 0, 8, 40, 0, 1, 40, 0, 2);
        due("22 at one place", x.near(0, 1, 0), 8);
    }

    private static void pairsAndLevel() {
        WhoIsWho x = watched(3);
        due("23 no pairs", x.pairs(0, 1), 0);
        due("24 no pairs", x.level(0, 1, 0), NO);
        tell(x, 0, 3, 0, 0, 1, 50, 50, 2, 70, 70, 0, 80, 80, 4);
        tell(x, 1, 3, 4, -3, 1, 55, 46, 2, 71, 71, 0, 90, 90, 5);
        tell(x, 1, 4, 0, 0, 1);
        tell(x, 2, 3, 9, 9, 1, -9, 9, 1);
        tell(x, 2, 3, 10, 10, 1);
        due("23 two", x.pairs(0, 1), 2);
        due("23 the other way", x.pairs(1, 0), 2);
        due("23 all of one mark", x.pairs(0, 2), 3);
        due("23 they are one", x.pairs(0, 0), BAD);
        due("23 no such watcher", x.pairs(0, 3), NONE);
        due("23 none ahead of bad", x.pairs(3, 3), NONE);
        due("23 below", x.pairs(-1, 0), NONE);
        due("24 x", x.level(0, 1, 0), 4);
        due("24 y", x.level(0, 1, 1), -4);
        due("24 x the other way", x.level(1, 0, 0), -5);
        due("24 y the other way", x.level(1, 0, 1), 3);
        due("24 three", x.level(0, 2, 0), 3);
        due("24 three, y", x.level(0, 2, 1), 9);
        due("24 they are one", x.level(0, 0, 0), NO);
        due("24 no such watcher", x.level(0, 3, 0), NO);
        due("24 no such what", x.level(0, 1, 2), NO);
        due("24 no such what, below", x.level(0, 1, -1), NO);
        x.shift(1, 20, 20);
        due("24 as told", x.level(0, 1, 0), 4);
    }

    private static void right() {
        WhoIsWho x = watched(3);
        due("25 no such watcher", x.right(0, 3), NONE);
        due("25 none ahead of bad", x.right(3, 3), NONE);
        due("25 they are one", x.right(1, 1), BAD);
        due("25 no pairs", x.right(0, 1), STATE);
        tell(x, 0, 3, 0, 0, 1);
        tell(x, 1, 3, 4, -3, 1);
        tell(x, 2, 3, 100, 0, 1);
        due("25 cost as told", x.cost(0), 5900 + 25);
        due("25 both", x.right(0, 1), 2);
        due("25 cost put right", x.cost(0), 5900);
        due("25 neither", x.right(0, 1), 0);
        x.shift(1, -4, 0);
        due("25 the second", x.right(0, 1), 1);
        due("25 put right", x.track(0, 0, 0) + x.track(0, 0, 1), 0);
        x.shift(0, 10, 20);
        due("25 by w's shift", x.right(0, 1), 2);
        x.drop(0);
        due("25 x put right", x.track(0, 0, 0), 10);
        due("25 y put right", x.track(0, 0, 1), 20);
        due("25 kept within", x.right(1, 2), 2);
        x.drop(0);
        due("25 x kept within", x.track(0, 0, 0), 50);
        due("25 y", x.track(0, 0, 1), 20);
    }

    private static void count() {
        WhoIsWho x = watched(2);
        tell(x, 0, 0, 0, 0, 1, 300, 0, 0);
        tell(x, 1, 1, 0, 0, 1, 0, 0, 1);
        x.dot(0, 0, 0);
        due("26 ahead of any other question", x.count(5), 3);
        due("26 watchers", x.count(0), 2);
        due("26 scans", x.count(1), 2);
        due("26 wait", x.count(2), 1);
        due("26 dots", x.count(3), 4);
        due("26 false", x.count(4), 0);
        x.rule(3, 2000);
        x.rule(5, 1);
        due("26 all false", x.count(4), 4);
        due("26 sure", x.count(5), 0);
        x.rule(5, 2);
        due("26 two false", x.count(4), 2);
        due("26 not sure", x.count(5), 2);
        due("26 no such what", x.count(6), NONE);
        due("26 no such what, below", x.count(-1), NONE);
    }

    private static void gateAndMarks() {
        WhoIsWho x = watched(1);
        x.rule(0, 5);
        tell(x, 0, 0, 0, 0, 0);
        tell(x, 0, 1, 3, 4, 0);
        due("GATE: at it", x.account(0, 1, 0), 0);
        x.drop(1);
        tell(x, 0, 1, 3, 5, 0);
        due("GATE: beyond it", x.account(0, 1, 0), 1);

        x = watched(1);
        x.rule(5, 1);
        tell(x, 0, 0, 0, 0, 1);
        tell(x, 0, 1, 0, 0, 2);
        due("MARKS: unlike", x.account(0, 1, 0), 1);
        tell(x, 0, 2, 0, 0, 0);
        due("MARKS: none goes with any", x.cost(0), 2500 + 900 + 2500 + 900);

        x = watched(1);
        x.rule(0, 500);
        tell(x, 0, 0, -1000, -1000, 0);
        tell(x, 0, 1, -600, -700, 0);
        tell(x, 0, 999, 1000, 1000, 0);
        due("a place far off", x.account(0, 2, 0), 1);
    }

    private static void tiesAndOrderOfWorlds() {
        WhoIsWho x = watched(1);
        x.rule(5, 4);
        x.rule(2, 4000);
        tell(x, 0, 0, 0, 0, 0, 300, 0, 0);
        due("ties: all alike", x.gap(3), 0);
        due("ties: begun, begun", x.account(0, 0, 1), 1);
        due("ties: begun", x.account(1, 0, 0), 0);
        due("ties: begun, false", x.account(1, 0, 1), NONE);
        due("ties: false", x.account(2, 0, 0), NONE);
        due("ties: false, begun", x.account(2, 0, 1), 0);
        due("ties: false, false", x.account(3, 0, 1), NONE);
        due("ties: tracks", x.tracks(3), 0);
        x.rule(2, 0);
        x.rule(3, 0);
        x.rule(1, 0);
        tell(x, 0, 1, 0, 0, 0);
        due("ties: lesser track first", x.account(0, 1, 0), 0);
        due("ties: then begun", x.account(1, 1, 0), 2);
        due("ties: then false", x.account(2, 1, 0), NONE);
        due("ties: then the next world", x.account(3, 0, 1), NONE);
    }

    private static void refusalsChangeNothing() {
        WhoIsWho x = watched(1);
        tell(x, 0, 0, 0, 0, 1, 10, 0, 0);
        tell(x, 0, 1, 5, 0, 0);
        int cost = x.cost(0);
        x.shift(0, 0, 51);
        x.shift(1, 1, 1);
        x.scan(1, 5);
        x.scan(0, 1000);
        x.drop(2);
        x.kind(1, 3);
        x.rule(0, 501);
        x.rule(5, 0);
        x.rule(6, 1);
        x.right(0, 0);
        x.right(0, 1);
        due("4 cost", x.cost(0), cost);
        due("4 scans", x.count(1), 2);
        due("4 worlds", x.worlds(), 3);
        due("4 kind", x.kind(1, 0), 0);
    }
}
