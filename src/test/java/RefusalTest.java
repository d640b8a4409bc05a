import java.util.ArrayList;
import java.util.List;
import java.util.function.Consumer;
import java.util.function.ToIntFunction;

/**
 * Part 4 of the document's terms: of several refusals the first one told, and that they change
 * nothing. What is there is seen by all questions that can be asked; since an object is used for at
 * most 512 calls, they are spread over objects that were told the same.
 */
public final class RefusalTest extends Checks {
    private static final int QUESTIONS_AN_OBJECT = 350;

    private record Refused(String text, ToIntFunction<WhoIsWho> call, int want) { }

    private static final List<ToIntFunction<WhoIsWho>> QUESTIONS = new ArrayList<>();
    private static final List<Refused> REFUSED = new ArrayList<>();

    public static void main(String[] args) {
        gatherQuestions();
        gatherLastQuestions();
        emptyObject();
        someThere();
        allFull();
        end();
    }

    // ---- what is asked

    private static void ask(ToIntFunction<WhoIsWho> question) {
        QUESTIONS.add(question);
    }

    private static void gatherQuestions() {
        ask(WhoIsWho::worlds);
        for (int i = 0; i < 4; i++) {
            int world = i;
            ask(x -> x.cost(world));
            ask(x -> x.gap(world));
            ask(x -> x.tracks(world));
            ask(x -> x.alive(world));
            gatherOfWorld(world);
        }
        for (int i = 0; i < 12; i++) {
            int at = i;
            ask(x -> x.ordered(at));
            ask(x -> x.name(at));
            ask(x -> x.count(at));
            for (int j = 0; j < 12; j++) {
                int other = j;
                ask(x -> x.sure(at, other));
                ask(x -> x.path(at, other));
                ask(x -> x.apart(at, other, 999));
                ask(x -> x.near(at, other, 100));
                ask(x -> x.pairs(at, other));
                ask(x -> x.level(at, other, 0));
                ask(x -> x.level(at, other, 1));
            }
        }
    }

    private static void gatherOfWorld(int world) {
        for (int i = 0; i < 6; i++) {
            int k = i;
            for (int j = 0; j < 10; j++) {
                int what = j;
                ask(x -> x.track(world, k, what));
            }
            ask(x -> x.foretell(world, k, 999, 0));
            ask(x -> x.foretell(world, k, 999, 1));
        }
        for (int i = 0; i < 12; i++) {
            int scan = i;
            for (int j = 0; j < 4; j++) {
                int dot = j;
                ask(x -> x.account(world, scan, dot));
            }
        }
    }

    /** Those that tell what was by changing it; all others are asked ahead of them. */
    private static void gatherLastQuestions() {
        for (int i = 0; i < 6; i++) {
            int what = i;
            ask(x -> x.rule(what, 2));
        }
        for (int i = 1; i < 10; i++) {
            int mark = i;
            ask(x -> x.kind(mark, 1));
        }
        for (int i = 0; i < 3; i++) {
            int w = i;
            ask(x -> x.right(w, (w + 1) % 3));
            ask(x -> x.right((w + 1) % 3, w));
        }
        ask(WhoIsWho::watcher);
        ask(x -> x.dot(0, 0, 0));
    }

    private static List<Integer> answers(Consumer<WhoIsWho> told) {
        List<Integer> answers = new ArrayList<>();
        WhoIsWho x = null;
        for (int i = 0; i < QUESTIONS.size(); i++) {
            if (i % QUESTIONS_AN_OBJECT == 0) {
                x = new WhoIsWho();
                told.accept(x);
            }
            answers.add(QUESTIONS.get(i).applyAsInt(x));
        }
        return answers;
    }

    // ---- what is refused

    private static void refused(String text, ToIntFunction<WhoIsWho> call, int want) {
        REFUSED.add(new Refused(text, call, want));
    }

    /** Each refused call: its answer, the same again, and that no question is answered otherwise. */
    private static void checkRefused(Consumer<WhoIsWho> told) {
        // The dots that wait are seen when they are a scan.
        Consumer<WhoIsWho> scanned = x -> {
            x.drop(11);
            x.scan(0, 999);
        };
        List<Integer> due = answers(told);
        List<Integer> dueScanned = answers(told.andThen(scanned));
        for (Refused r : REFUSED) {
            sentence("REFUSALS, of several the first one told");
            WhoIsWho x = new WhoIsWho();
            told.accept(x);
            due(r.text, r.call.applyAsInt(x), r.want);
            due(r.text + ", again", r.call.applyAsInt(x), r.want);
            sentence("They change nothing");
            Consumer<WhoIsWho> toldAndRefused = told.andThen(r.call::applyAsInt);
            due(r.text + ": answers that changed", unlike(due, answers(toldAndRefused)), 0);
            due(r.text + ": answers behind the next SCAN that changed",
                    unlike(dueScanned, answers(toldAndRefused.andThen(scanned))), 0);
        }
        REFUSED.clear();
    }

    private static int unlike(List<Integer> one, List<Integer> other) {
        int found = 0;
        for (int i = 0; i < one.size(); i++) {
            found += one.get(i).equals(other.get(i)) ? 0 : 1;
        }
        return found;
    }

    private static void emptyObject() {
        refused("shift: no WATCHER", x -> x.shift(0, 1, 1), NONE);
        refused("shift: no WATCHER, BAD", x -> x.shift(0, 51, 1), NONE);
        refused("scan: no WATCHER", x -> x.scan(0, 0), NONE);
        refused("scan: no WATCHER, BAD", x -> x.scan(0, -1), NONE);
        refused("drop: no SCAN", x -> x.drop(0), NONE);
        refused("pairs: no WATCHERS", x -> x.pairs(0, 1), NONE);
        refused("pairs: no WATCHER, they are one", x -> x.pairs(0, 0), NONE);
        refused("right: no WATCHERS", x -> x.right(0, 1), NONE);
        refused("right: no WATCHER, they are one", x -> x.right(0, 0), NONE);
        refused("near: no TRACKS", x -> x.near(0, 1, 5), NONE);
        refused("near: no TRACK, they are one", x -> x.near(0, 0, 5), NONE);
        refused("near: no TRACKS, BAD d", x -> x.near(0, 1, 1001), NONE);
        refused("path: no TRACK", x -> x.path(0, 0), NONE);
        refused("apart: no TRACK", x -> x.apart(0, 0, 0), NONE);
        refused("dot: BAD x", x -> x.dot(1001, 0, 0), BAD);
        refused("kind: NONE", x -> x.kind(0, 1), NONE);
        refused("rule: NONE", x -> x.rule(6, 1), NONE);
        refusedQuestions(1);
        checkRefused(x -> { });
    }

    private static void someThere() {
        refused("shift: NONE", x -> x.shift(2, 9, 9), NONE);
        refused("shift: NONE below", x -> x.shift(-1, 9, 9), NONE);
        refused("shift: NONE ahead of BAD", x -> x.shift(2, 51, 0), NONE);
        refused("shift: BAD a, b well", x -> x.shift(0, 51, 9), BAD);
        refused("shift: BAD b, a well", x -> x.shift(0, 9, -51), BAD);
        refused("dot: BAD x", x -> x.dot(-1001, 0, 1), BAD);
        refused("dot: BAD y", x -> x.dot(0, 1001, 1), BAD);
        refused("dot: BAD mark", x -> x.dot(0, 0, 10), BAD);
        refused("scan: NONE", x -> x.scan(2, 5), NONE);
        refused("scan: NONE below", x -> x.scan(-1, 5), NONE);
        refused("scan: NONE ahead of BAD", x -> x.scan(2, 1000), NONE);
        refused("scan: BAD", x -> x.scan(0, 1000), BAD);
        refused("scan: BAD below", x -> x.scan(1, -1), BAD);
        refused("drop: NONE", x -> x.drop(4), NONE);
        refused("drop: NONE below", x -> x.drop(-1), NONE);
        refused("near: BAD d", x -> x.near(0, 1, 1001), BAD);
        refused("near: they are one", x -> x.near(1, 1, 5), BAD);
        refused("near: they are one, BAD d", x -> x.near(1, 1, -1), BAD);
        refused("near: NONE ahead of BAD d", x -> x.near(0, 6, 1001), NONE);
        refused("near: NONE ahead of BAD, they are one", x -> x.near(6, 6, 5), NONE);
        refused("pairs: NONE", x -> x.pairs(0, 2), NONE);
        refused("pairs: BAD", x -> x.pairs(1, 1), BAD);
        refused("right: NONE", x -> x.right(2, 0), NONE);
        refused("right: NONE ahead of BAD", x -> x.right(2, 2), NONE);
        refused("right: BAD ahead of STATE", x -> x.right(0, 0), BAD);
        refused("right: NONE ahead of STATE", x -> x.right(0, 2), NONE);
        refused("right: STATE", x -> x.right(0, 1), STATE);
        refused("right: STATE, the other way", x -> x.right(1, 0), STATE);
        refusedQuestions(3);
        checkRefused(RefusalTest::tellSome);
    }

    private static void tellSome(WhoIsWho x) {
        x.watcher();
        x.watcher();
        x.shift(0, 3, -4);
        x.shift(1, -5, 6);
        x.kind(2, HELD);
        tell(x, 0, 5, 0, 0, 1, 200, 0, 2);
        tell(x, 1, 7, 4, 3, 1, 190, 5, 0);
        tell(x, 0, 6, 6, 6, 0);
        tell(x, 1, 5);
        x.dot(9, 9, 9);
        x.dot(201, 1, 2);
    }

    private static void allFull() {
        refused("watcher: FULL", WhoIsWho::watcher, FULL);
        refused("shift: NONE", x -> x.shift(3, 9, 9), NONE);
        refused("shift: NONE ahead of BAD", x -> x.shift(3, 0, 51), NONE);
        refused("shift: BAD a", x -> x.shift(2, -51, 9), BAD);
        refused("shift: BAD b", x -> x.shift(2, 9, 51), BAD);
        refused("dot: FULL", x -> x.dot(1, 1, 1), FULL);
        refused("dot: BAD x ahead of FULL", x -> x.dot(1001, 1, 1), BAD);
        refused("dot: BAD y ahead of FULL", x -> x.dot(1, -1001, 1), BAD);
        refused("dot: BAD mark ahead of FULL", x -> x.dot(1, 1, -1), BAD);
        refused("scan: FULL", x -> x.scan(0, 0), FULL);
        refused("scan: FULL, the last MOMENT", x -> x.scan(2, 999), FULL);
        refused("scan: BAD ahead of FULL", x -> x.scan(0, 1000), BAD);
        refused("scan: NONE ahead of FULL", x -> x.scan(3, 0), NONE);
        refused("scan: NONE ahead of BAD and FULL", x -> x.scan(3, 1000), NONE);
        refused("drop: NONE", x -> x.drop(12), NONE);
        refused("drop: NONE below", x -> x.drop(-1), NONE);
        for (int what = 0; what < 6; what++) {
            int of = what;
            int most = new int[] {500, 100000, 100000, 100000, 9, 4}[what];
            refused("rule: BAD above, " + what, x -> x.rule(of, most + 1), BAD);
            refused("rule: BAD below, " + what, x -> x.rule(of, of < 4 ? -1 : 0), BAD);
        }
        refused("rule: NONE", x -> x.rule(6, 1), NONE);
        refused("rule: NONE below", x -> x.rule(-1, 1), NONE);
        refused("rule: NONE ahead of BAD", x -> x.rule(6, -1), NONE);
        refused("kind: NONE", x -> x.kind(0, 2), NONE);
        refused("kind: NONE above", x -> x.kind(10, 2), NONE);
        refused("kind: NONE ahead of BAD", x -> x.kind(10, 3), NONE);
        refused("kind: BAD", x -> x.kind(1, 3), BAD);
        refused("kind: BAD below", x -> x.kind(9, -1), BAD);
        refused("near: NONE ahead of BAD", x -> x.near(-1, -1, -1), NONE);
        refused("pairs: NONE ahead of BAD", x -> x.pairs(3, 3), NONE);
        refused("pairs: BAD", x -> x.pairs(2, 2), BAD);
        refused("right: NONE ahead of BAD", x -> x.right(3, 3), NONE);
        refused("right: NONE", x -> x.right(3, 0), NONE);
        refused("right: NONE below", x -> x.right(0, -1), NONE);
        refused("right: BAD", x -> x.right(1, 1), BAD);
        refused("right: STATE", x -> x.right(0, 2), STATE);
        refusedQuestions(4);
        checkRefused(RefusalTest::tellAll);
    }

    private static void tellAll(WhoIsWho x) {
        for (int w = 0; w < 3; w++) {
            x.watcher();
            x.shift(w, 7 * w - 5, 3 - 4 * w);
        }
        x.kind(1, HELD);
        x.kind(9, BACK);
        int[] rules = {80, 800, 2400, 3900, 4, 4};
        for (int what = 0; what < 6; what++) {
            x.rule(what, rules[what]);
        }
        for (int s = 0; s < 12; s++) {
            int w = s % 2 == 0 ? 0 : s % 3;
            tell(x, w, 40 - 3 * (s / 2), 3 * s, 0, w == 2 ? 5 : 1, 200 - s, s, w == 2 ? 0 : 9, 500, -40 * s, 0);
        }
        for (int i = 0; i < 4; i++) {
            x.dot(100 * i, i, i);
        }
    }

    private static void refusedQuestions(int worlds) {
        refused("cost", x -> x.cost(worlds), NO);
        refused("gap", x -> x.gap(worlds), NONE);
        refused("tracks", x -> x.tracks(worlds), NONE);
        refused("alive", x -> x.alive(worlds), NONE);
        refused("track", x -> x.track(worlds, 0, 0), NO);
        refused("account", x -> x.account(worlds, 0, 0), -2);
        refused("foretell", x -> x.foretell(worlds, 0, 999, 0), NO);
        refused("ordered", x -> x.ordered(12), NONE);
        refused("name", x -> x.name(10), NONE);
        refused("sure", x -> x.sure(12, 0), NONE);
        refused("path", x -> x.path(6, 0), NONE);
        refused("apart", x -> x.apart(0, 6, 5), NONE);
        refused("level", x -> x.level(0, 0, 0), NO);
        refused("count", x -> x.count(6), NONE);
    }
}
