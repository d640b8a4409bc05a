/** Part 3 of the document's terms, sentence by sentence: what is sure, gaps, apart, level. */
public final class NameEdgesTest extends Checks {
    public static void main(String[] args) {
        markIsSure();
        accountIsSure();
        gapOfAWorld();
        apartAtAMoment();
        apartIsNotThere();
        apartOfWorldZero();
        levelOfNoPairs();
        levelOfOneMoment();
        levelOfTheSameMark();
        levelOfAllPairs();
        levelCutDown();
        levelAsTold();
        end();
    }

    private static void markIsSure() {
        sentence("A MARK is SURE to be a TRACK if in each KEPT WORLD that TRACK has this MARK");
        WhoIsWho x = watched(1);
        tell(x, 0, 0, 0, 0, 3, 500, 0, 4);
        x.rule(K, 1);
        due("one world, 3", x.name(3), 0);
        due("one world, 4", x.name(4), 1);
        x.rule(K, 2);
        due("two worlds: begun in both", x.name(3), 0);
        due("two worlds: no such TRACK in the second", x.name(4), NONE);
        x.rule(K, 3);
        due("three worlds: TRACK 0 has another MARK in the third", x.name(3), NONE);
        due("three worlds: TRACK 1 is in the first alone", x.name(4), NONE);

        x = watched(1);
        x.rule(K, 2);
        tell(x, 0, 0, 0, 0, 0);
        tell(x, 0, 1, 0, 0, 5);
        due("TRACK 0 has MARK 5 in world 0", x.track(0, 0, MARK), 5);
        due("TRACK 0 has none in world 1", x.track(1, 0, MARK), 0);
        due("not SURE", x.name(5), NONE);

        x = watched(1);
        x.rule(K, 2);
        x.rule(MISS, 2000);
        tell(x, 0, 0, 0, 0, 3);
        tell(x, 0, 1, 500, 0, 4);
        due("the second world has TRACK 1", x.track(1, 1, MARK), 4);
        x.rule(MISS, 900);
        due("the second world has it no more", x.tracks(1), 1);
        due("the first has", x.track(0, 1, MARK), 4);
        due("not SURE any more", x.name(4), NONE);
    }

    private static void accountIsSure() {
        sentence("a DOT's ACCOUNT is SURE if it is one in each");
        WhoIsWho x = watched(1);
        tell(x, 0, 0, 0, 0, 0, 500, 0, 0);
        x.rule(K, 1);
        due("one world, first", x.sure(0, 0), 1);
        due("one world, second", x.sure(0, 1), 1);
        x.rule(K, 2);
        due("two worlds, first", x.sure(0, 0), 1);
        due("two worlds, second: FALSE in one", x.sure(0, 1), 0);
        x.rule(K, 3);
        due("three worlds, first: FALSE in the third", x.sure(0, 0), 0);
        due("three worlds, second", x.sure(0, 1), 0);
        x.rule(BIRTH, 100000);
        x.rule(FALSE, 0);
        x.rule(K, 2);
        due("FALSE in one", x.sure(0, 0), 0);
        due("FALSE in each is SURE, too", x.sure(0, 1), 1);

        x = watched(1);
        x.rule(K, 4);
        tell(x, 0, 0, 0, 0, 0, 500, 0, 0);
        tell(x, 0, 1, 500, 0, 0, 0, 0, 0);
        due("the last of four worlds is another one", x.account(3, 0, 1), NONE);
        due("all but it are alike", x.account(0, 0, 1) + x.account(1, 0, 1) + x.account(2, 0, 1), 3);
        due("so it is not SURE", x.sure(0, 1), 0);
        x.rule(K, 3);
        due("without it, it is", x.sure(0, 1), 1);
    }

    private static void gapOfAWorld() {
        sentence("GAP of a WORLD: how much more it COSTS than WORLD 0");
        WhoIsWho x = watched(1);
        due("the only one", x.gap(0), 0);
        tell(x, 0, 0, 0, 0, 0);
        due("world 0", x.gap(0), 0);
        due("world 1", x.gap(1), 1500);
        x.rule(FALSE, 2500);
        due("they cost alike", x.gap(1), 0);
        x.rule(FALSE, 2499);
        due("the other way", x.gap(1), 1);
        x.rule(BIRTH, 0);
        x.rule(FALSE, 100000);
        due("the most for one DOT", x.gap(1), 100000);
    }

    /** Two tracks, of marks 1 and 2; every scan tells both. One world. */
    private static WhoIsWho two() {
        WhoIsWho x = watched(1);
        x.rule(GATE, 500);
        x.rule(MISS, 100000);
        x.rule(BIRTH, 100000);
        x.rule(FALSE, 100000);
        x.rule(K, 1);
        return x;
    }

    private static void apartAtAMoment() {
        sentence("APART: the squares of the distances of their places together, a TRACK's place "
                + "being that of its latest DOT at or ahead of it");
        WhoIsWho x = two();
        tell(x, 0, 5, 0, 0, 1, 3, 4, 2);
        tell(x, 0, 9, 0, 0, 1, -1, 0, 2);
        tell(x, 0, 9, 0, 0, 1, 0, -2, 2);
        tell(x, 0, 11, 7, 7, 1, 7, 7, 2);
        int[] moments = {5, 6, 8, 9, 10, 11, 12, 999};
        int[] apart = {25, 25, 25, 4, 4, 0, 0, 0};
        for (int i = 0; i < moments.length; i++) {
            due("at " + moments[i], x.apart(0, 1, moments[i]), apart[i]);
            due("the other way, at " + moments[i], x.apart(1, 0, moments[i]), apart[i]);
        }
        tell(x, 0, 7, 0, 0, 1, 1, 1, 2);
        due("ahead of a late SCAN", x.apart(0, 1, 6), 25);
        due("at a late SCAN", x.apart(0, 1, 7), 2);
        due("behind a late SCAN", x.apart(0, 1, 8), 2);

        x = watched(2);
        x.shift(0, -50, -50);
        x.shift(1, 50, 50);
        tell(x, 0, 0, -1000, -1000, 1);
        tell(x, 1, 0, 1000, 1000, 2);
        due("as far as can be", x.apart(0, 1, 0), 2 * 2100 * 2100);
    }

    private static void apartIsNotThere() {
        sentence("(none: it is not there)");
        WhoIsWho x = watched(1);
        x.rule(MISS, 0);
        tell(x, 0, 5, 0, 0, 1);
        tell(x, 0, 8, 30, 40, 2);
        int[] moments = {LEAST_INT, -1, 0, 4, 5, 7, 8};
        for (int moment : moments) {
            due("the later one, at " + moment, x.apart(0, 1, moment), moment < 8 ? NONE : 2500);
            due("the other way, at " + moment, x.apart(1, 0, moment), moment < 8 ? NONE : 2500);
        }
        tell(x, 0, 0, 500, 0, 3);
        due("at MOMENT 0, one", x.apart(0, 1, 0), NONE);
        due("two at 5", x.apart(0, 1, 5), 250000);
    }

    private static void apartOfWorldZero() {
        sentence("APART of two TRACKS (of WORLD 0)");
        WhoIsWho x = watched(1);
        tell(x, 0, 0, 0, 0, 0);
        tell(x, 0, 1, 0, 0, 0);
        due("world 1 has two", x.tracks(1), 2);
        due("world 0 has one", x.tracks(0), 1);
        due("no such TRACK", x.apart(0, 1, 1), NONE);
    }

    private static void levelOfNoPairs() {
        sentence("LEVEL of WATCHERS w and u");
        WhoIsWho x = watched(2);
        due("no SCANS, pairs", x.pairs(0, 1), 0);
        due("no SCANS, level", x.level(0, 1, 0), NO);
        due("no SCANS, right", x.right(0, 1), STATE);
        tell(x, 0, 3);
        tell(x, 1, 3);
        due("no DOTS, pairs", x.pairs(0, 1), 0);
        due("no DOTS, level", x.level(0, 1, 1), NO);
        due("no DOTS, right", x.right(0, 1), STATE);
        tell(x, 0, 3, 0, 0, 4, 5, 5, 4);
        due("of one WATCHER alone, pairs", x.pairs(0, 1), 0);
        due("the other way", x.pairs(1, 0), 0);
        x.dot(1, 1, 4);
        due("a DOT that waits is no SCAN's", x.pairs(0, 1), 0);
        x.scan(1, 3);
        due("now it is", x.pairs(0, 1), 2);
        x.drop(3);
        x.scan(0, 500);
        x.dot(1, 1, 4);
        due("nor one that waits behind a SCAN taken away", x.pairs(0, 1), 0);
        due("the other way", x.pairs(1, 0), 0);
        due("level", x.level(0, 1, 0), NO);
        due("right", x.right(0, 1), STATE);
    }

    private static void levelOfOneMoment() {
        sentence("in SCANS of one MOMENT");
        for (int moment = 4; moment <= 6; moment++) {
            WhoIsWho x = watched(2);
            tell(x, 0, 5, 0, 0, 4);
            tell(x, 1, moment, 1, 2, 4);
            due("5 and " + moment, x.pairs(0, 1), moment == 5 ? 1 : 0);
            due("level x", x.level(0, 1, 0), moment == 5 ? 1 : NO);
            due("level y", x.level(0, 1, 1), moment == 5 ? 2 : NO);
        }
    }

    private static void levelOfTheSameMark() {
        sentence("that have the same MARK, not 0");
        for (int mark = 0; mark <= 9; mark++) {
            WhoIsWho x = watched(2);
            tell(x, 0, 5, 0, 0, mark);
            tell(x, 1, 5, 1, 2, mark);
            due("MARK " + mark, x.pairs(0, 1), mark == 0 ? 0 : 1);
            x = watched(2);
            tell(x, 0, 5, 0, 0, mark);
            tell(x, 1, 5, 1, 2, (mark + 1) % 10);
            due("unlike " + mark, x.pairs(0, 1), 0);
        }
    }

    private static void levelOfAllPairs() {
        sentence("of all DOTS of w and of u");
        WhoIsWho x = watched(3);
        for (int i = 0; i < 6; i++) {
            tell(x, 0, 999, -1000, 1000, 9, -1000, 1000, 9, -1000, 1000, 9, -1000, 1000, 9);
            tell(x, 2, 999, 1000, -1000, 9, 1000, -1000, 9, 1000, -1000, 9, 1000, -1000, 9);
        }
        due("as many as there may be", x.pairs(0, 2), 24 * 24);
        due("the other way", x.pairs(2, 0), 24 * 24);
        due("with one that saw nothing", x.pairs(0, 1), 0);
        due("x, as far as can be", x.level(0, 2, 0), 2000);
        due("y, as far as can be", x.level(0, 2, 1), -2000);
        due("x the other way", x.level(2, 0, 0), -2000);
        due("y the other way", x.level(2, 0, 1), 2000);

        x = watched(2);
        tell(x, 0, 1, 0, 0, 1, 10, 10, 1);
        tell(x, 1, 1, 1, 0, 1, 11, 20, 1);
        tell(x, 1, 1, 0, 0, 1);
        due("each of w with each of u", x.pairs(0, 1), 6);
        due("mean x of -10, -9, 0, 1, 1, 11", x.level(0, 1, 0), -1);
        due("mean y of -10, -10, 0, 0, 10, 20", x.level(0, 1, 1), 1);
    }

    private static void levelCutDown() {
        sentence("the mean difference of places, each cut to the greatest whole number not above");
        int[][] sums = {{0, 0}, {1, 0}, {2, 1}, {3, 1}, {-1, -1}, {-2, -1}, {-3, -2}, {-4, -2}, {1999, 999}};
        for (int[] row : sums) {
            WhoIsWho x = watched(2);
            int one = row[0] / 2;
            int other = row[0] - one;
            tell(x, 0, 1, 0, 0, 1, 0, 0, 2);
            tell(x, 1, 1, one, other, 1, other, one, 2);
            due("x of " + row[0] + " by 2", x.level(0, 1, 0), row[1]);
            due("y of " + row[0] + " by 2", x.level(0, 1, 1), row[1]);
        }
    }

    private static void levelAsTold() {
        sentence("(of u's less w's, as told)");
        WhoIsWho x = watched(2);
        tell(x, 0, 1, 10, 20, 1);
        tell(x, 1, 1, 13, 15, 1);
        for (int shift = -50; shift <= 50; shift += 50) {
            x.shift(0, shift, -shift);
            x.shift(1, -shift, 0);
            due("x", x.level(0, 1, 0), 3);
            due("y", x.level(0, 1, 1), -5);
            due("x the other way", x.level(1, 0, 0), -3);
            due("y the other way", x.level(1, 0, 1), 5);
        }
    }
}
