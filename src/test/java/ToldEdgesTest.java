/** Part 1 of the document's terms, sentence by sentence: the bounds of all that is told. */
public final class ToldEdgesTest extends Checks {
    public static void main(String[] args) {
        used512Times();
        watchersThreeAtMost();
        shiftBounds();
        shiftAtFirst();
        putRightByAdding();
        scansTwelveAtMost();
        momentBounds();
        dotsFourAtMost();
        placeBounds();
        markBounds();
        orderOfScans();
        kindsAtFirst();
        kindBounds();
        ruleBounds();
        end();
    }

    private static void used512Times() {
        sentence("An object is used for at most 512 calls after it has been made");
        WhoIsWho x = new WhoIsWho();
        x.watcher();
        for (int i = 0; i < 127; i++) {
            x.dot(i, -i, i % 10);
            x.scan(0, i);
            x.cost(0);
            x.drop(0);
        }
        x.dot(3, 4, 0);
        due("the 511th, scan", x.scan(0, 999), 0);
        due("the 512th, cost", x.cost(0), 2500);
    }

    private static void watchersThreeAtMost() {
        sentence("WATCHERS are numbered from 0 on, 3 at most");
        WhoIsWho x = new WhoIsWho();
        due("scan of watcher 0, ahead of any", x.scan(0, 0), NONE);
        for (int w = 0; w < 3; w++) {
            due("watcher", x.watcher(), w);
            due("scan of the newest", x.scan(w, 0), w);
            due("scan of one beyond", x.scan(w + 1, 0), NONE);
            due("count(0)", x.count(0), w + 1);
        }
        due("a fourth", x.watcher(), FULL);
        due("a fourth again", x.watcher(), FULL);
        due("count(0)", x.count(0), 3);
        due("shift of a fourth", x.shift(3, 0, 0), NONE);
    }

    private static void shiftBounds() {
        sentence("each with a SHIFT (a, b), -50 .. 50 each");
        for (int w = 0; w < 3; w++) {
            WhoIsWho x = watched(3);
            tell(x, w, 0, 100, 200, 0);
            for (int v : new int[] {-50, -49, -1, 0, 1, 49, 50}) {
                due("shift a " + v, x.shift(w, v, 0), 0);
                due("x", x.track(0, 0, X), 100 + v);
                due("y", x.track(0, 0, Y), 200);
                due("shift b " + v, x.shift(w, 0, v), 0);
                due("x", x.track(0, 0, X), 100);
                due("y", x.track(0, 0, Y), 200 + v);
            }
            x.shift(w, 50, -50);
            for (int v : new int[] {-51, 51, LEAST_INT, MOST_INT}) {
                due("shift a " + v, x.shift(w, v, 0), BAD);
                due("shift b " + v, x.shift(w, 0, v), BAD);
                due("shift both " + v, x.shift(w, v, v), BAD);
                due("x as it was", x.track(0, 0, X), 150);
                due("y as it was", x.track(0, 0, Y), 150);
            }
        }
    }

    private static void shiftAtFirst() {
        sentence("(0, 0 at first)");
        for (int w = 0; w < 3; w++) {
            WhoIsWho x = watched(3);
            tell(x, w, 0, -7, 9, 0);
            due("x of watcher " + w, x.track(0, 0, X), -7);
            due("y of watcher " + w, x.track(0, 0, Y), 9);
        }
    }

    private static void putRightByAdding() {
        sentence("what it tells is put right by adding it");
        WhoIsWho x = watched(3);
        x.rule(MISS, 0);
        x.shift(1, 50, -50);
        tell(x, 0, 0, 0, 0, 0);
        tell(x, 1, 0, 1000, -1000, 0);
        tell(x, 2, 0, -1000, 1000, 0);
        x.shift(2, -50, 50);
        due("x without a SHIFT", x.track(0, 0, X), 0);
        due("y without a SHIFT", x.track(0, 0, Y), 0);
        due("x beyond 1000", x.track(0, 1, X), 1050);
        due("y beyond -1000", x.track(0, 1, Y), -1050);
        due("x beyond -1000, SHIFT told later", x.track(0, 2, X), -1050);
        due("y beyond 1000, SHIFT told later", x.track(0, 2, Y), 1050);
    }

    private static void scansTwelveAtMost() {
        sentence("SCANS are numbered from 0 on as they came, 12 at most");
        WhoIsWho x = watched(1);
        due("count(1), none", x.count(1), 0);
        for (int i = 0; i < 12; i++) {
            x.dot(i, 0, 0);
            due("scan, ever earlier", x.scan(0, 500 - i), i);
            due("count(1)", x.count(1), i + 1);
        }
        x.dot(77, 0, 0);
        due("a thirteenth", x.scan(0, 0), FULL);
        due("a thirteenth again", x.scan(0, 999), FULL);
        due("count(1)", x.count(1), 12);
        due("ordered(0)", x.ordered(0), 11);
        due("ordered(12)", x.ordered(12), NONE);
        due("its dot waits on", x.count(2), 1);
        due("drop", x.drop(11), 11);
        due("the twelfth again", x.scan(0, 999), 11);
        due("one more", x.scan(0, 999), FULL);
        x.rule(BIRTH, 0);
        due("the dot that waited", x.track(0, x.account(0, 11, 0), X), 77);
    }

    private static void momentBounds() {
        sentence("each of a WATCHER at a MOMENT (0 .. 999)");
        for (int moment : new int[] {0, 1, 998, 999}) {
            WhoIsWho x = watched(1);
            x.dot(5, 5, 0);
            due("scan at " + moment, x.scan(0, moment), 0);
            due("its moment", x.track(0, 0, LATEST), moment);
        }
        for (int moment : new int[] {-1, 1000, LEAST_INT, MOST_INT}) {
            WhoIsWho x = watched(1);
            x.dot(5, 5, 0);
            due("scan at " + moment, x.scan(0, moment), BAD);
            due("count(1)", x.count(1), 0);
            due("the dot waits on", x.count(2), 1);
        }
    }

    private static void dotsFourAtMost() {
        sentence("with DOTS, numbered from 0 on, 4 at most");
        for (int dots = 0; dots <= 4; dots++) {
            WhoIsWho x = watched(1);
            for (int i = 0; i < dots; i++) {
                due("dot", x.dot(200 * i, 0, 0), i + 1);
            }
            if (dots == 4) {
                due("a fifth", x.dot(900, 0, 0), FULL);
                due("a fifth again", x.dot(-900, 0, 0), FULL);
                due("count(2)", x.count(2), 4);
            }
            due("scan", x.scan(0, 0), 0);
            due("count(3)", x.count(3), dots);
            for (int i = 0; i < dots; i++) {
                due("account of dot " + i, x.account(0, 0, i), i);
                due("x of dot " + i, x.track(0, i, X), 200 * i);
            }
            due("account of one beyond", x.account(0, 0, dots), -2);
            due("account of one ahead", x.account(0, 0, -1), -2);
        }
    }

    private static void placeBounds() {
        sentence("a place (x, y), -1000 .. 1000 each, as told");
        for (int v : new int[] {-1000, -999, 999, 1000}) {
            WhoIsWho x = watched(1);
            due("dot x " + v, x.dot(v, 3, 0), 1);
            due("dot y " + v, x.dot(-3, v, 0), 2);
            x.scan(0, 0);
            due("x", x.track(0, 0, X), v);
            due("y", x.track(0, 0, Y), 3);
            due("x", x.track(0, 1, X), -3);
            due("y", x.track(0, 1, Y), v);
        }
        WhoIsWho x = watched(1);
        for (int v : new int[] {-1001, 1001, LEAST_INT, MOST_INT}) {
            due("dot x " + v, x.dot(v, 0, 0), BAD);
            due("dot y " + v, x.dot(0, v, 0), BAD);
            due("dot both " + v, x.dot(v, v, 0), BAD);
        }
        due("none waits", x.count(2), 0);
        x.shift(0, 50, 50);
        due("as told, whatever the SHIFT", x.dot(1000, 1000, 0), 1);
        due("beyond it, whatever the SHIFT", x.dot(-1001, -1001, 0), BAD);
    }

    private static void markBounds() {
        sentence("a MARK (0 .. 9; 0: none)");
        for (int mark = 0; mark <= 9; mark++) {
            WhoIsWho x = watched(1);
            due("dot of mark " + mark, x.dot(0, 0, mark), 1);
            x.scan(0, 0);
            x.rule(K, 1);
            due("MARK of the track", x.track(0, 0, MARK), mark);
            due("name", x.name(mark), mark == 0 ? NONE : 0);
        }
        WhoIsWho x = watched(1);
        for (int mark : new int[] {-1, 10, LEAST_INT, MOST_INT}) {
            due("dot of mark " + mark, x.dot(0, 0, mark), BAD);
        }
        due("none waits", x.count(2), 0);
    }

    private static void orderOfScans() {
        sentence("The ORDER of SCANS: by MOMENTS, of one MOMENT by numbers");
        WhoIsWho x = watched(2);
        due("none", x.ordered(0), NONE);
        int[] moments = {999, 0, 7, 7, 0, 999, 6, 8, 7, 0, 999, 1};
        int[] order = {1, 4, 9, 11, 6, 2, 3, 8, 7, 0, 5, 10};
        for (int i = 0; i < 12; i++) {
            x.scan(i % 2, moments[i]);
        }
        for (int i = 0; i < 12; i++) {
            due("ordered(" + i + ")", x.ordered(i), order[i]);
        }
        x.drop(2);
        int[] left = {1, 3, 8, 10, 5, 2, 7, 6, 0, 4, 9};
        for (int i = 0; i < 11; i++) {
            due("with one taken away, ordered(" + i + ")", x.ordered(i), left[i]);
        }
        due("no twelfth", x.ordered(11), NONE);

        x = watched(1);
        x.rule(K, 1);
        tell(x, 0, 5, 10, 0, 0);
        tell(x, 0, 5, 20, 0, 0);
        due("of one MOMENT the later number is the latest", x.track(0, 0, X), 20);
        tell(x, 0, 4, 0, 0, 0);
        due("one ahead of them leaves it so", x.track(0, 0, X), 20);
        due("and is the first", x.path(0, 0), 8);
    }

    private static void kindsAtFirst() {
        sentence("KINDS of MARKS: 0 EVEN (at first, and MARK 0)");
        for (int mark = 0; mark <= 9; mark++) {
            WhoIsWho x = watched(1);
            for (int other = 1; other <= 9; other++) {
                if (other != mark) {
                    x.kind(other, HELD);
                }
            }
            tell(x, 0, 0, 0, 0, mark);
            tell(x, 0, 1, 10, -20, mark);
            due("foretold x of MARK " + mark, x.foretell(0, 0, 2, 0), 20);
            due("foretold y of MARK " + mark, x.foretell(0, 0, 2, 1), -40);
            due("kind", x.kind(mark, EVEN), mark == 0 ? NONE : EVEN);
        }
    }

    private static void kindBounds() {
        sentence("KINDS of MARKS: 0 EVEN, 1 HELD, 2 BACK");
        WhoIsWho x = watched(1);
        for (int mark = 1; mark <= 9; mark++) {
            due("was EVEN", x.kind(mark, mark % 3), EVEN);
        }
        for (int mark = 1; mark <= 9; mark++) {
            due("-1", x.kind(mark, -1), BAD);
            due("3", x.kind(mark, 3), BAD);
            due("least", x.kind(mark, LEAST_INT), BAD);
            due("greatest", x.kind(mark, MOST_INT), BAD);
            due("was told", x.kind(mark, BACK), mark % 3);
            due("was BACK", x.kind(mark, HELD), BACK);
            due("was HELD", x.kind(mark, EVEN), HELD);
        }
    }

    private static void ruleBounds() {
        String[] words = {
            "GATE (0 .. 500, 60 at first)", "MISS (0 .. 100000; 900 at first)",
            "BIRTH (0 .. 100000; 2500 at first)", "FALSE (0 .. 100000; 4000 at first)",
            "BREAK (1 .. 9, 3 at first)", "K 1 .. 4, 3 at first"
        };
        int[] first = {60, 900, 2500, 4000, 3, 3};
        int[] least = {0, 0, 0, 0, 1, 1};
        int[] most = {500, 100000, 100000, 100000, 9, 4};
        for (int what = 0; what < 6; what++) {
            sentence(words[what]);
            WhoIsWho x = new WhoIsWho();
            due("below", x.rule(what, least[what] - 1), BAD);
            due("above", x.rule(what, most[what] + 1), BAD);
            due("far below", x.rule(what, LEAST_INT), BAD);
            due("far above", x.rule(what, MOST_INT), BAD);
            due("at first", x.rule(what, least[what]), first[what]);
            due("below", x.rule(what, least[what] - 1), BAD);
            due("the least", x.rule(what, most[what]), least[what]);
            due("above", x.rule(what, most[what] + 1), BAD);
            due("the most", x.rule(what, first[what]), most[what]);
            for (int other = 0; other < 6; other++) {
                due("rule " + other + " is as at first", x.rule(other, first[other]), first[other]);
            }
        }
    }
}
