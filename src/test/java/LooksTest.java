/** Promises 1 and 7 to 15: a test for each sentence that names a boundary case of a look. */
public final class LooksTest {
    private static final int MIN = Scene.MIN;
    private static final int MAX = Scene.MAX;

    private static final Due due = new Due();

    public static void main(String[] args) {
        due.sentence("DocTrees(): No revisions.", LooksTest::newObject);
        due.sentence("DocTrees(): No revisions.", LooksTest::newObjectBesideAnother);
        due.sentence("winner: The winner; NO_REVISION.", LooksTest::winner);
        due.sentence("winner: of forty", LooksTest::winnerOfForty);
        due.sentence("conflicts: How many conflicts", LooksTest::conflicts);
        due.sentence("conflicts: of forty", LooksTest::conflictsOfForty);
        due.sentence("conflict: The conflict number i, from 0", LooksTest::conflictFrom0);
        due.sentence("conflict: the best one first", LooksTest::conflictBestFirst);
        due.sentence("conflict: NO_REVISION", LooksTest::conflictBeyond);
        due.sentence("conflict: NO_REVISION", LooksTest::conflictOfNone);
        due.sentence("conflict: revision 0 among others", LooksTest::revision0AsConflict);
        due.sentence("conflict: revision 0 among others", LooksTest::revision0AsWinner);
        due.sentence("conflict: of forty", LooksTest::conflictOfForty);
        due.sentence("leaves: How many leaves, open or not", LooksTest::leaves);
        due.sentence("leaves: of forty", LooksTest::leavesOfForty);
        due.sentence("readable: Whether the site has the revision", LooksTest::readableIfHad);
        due.sentence("readable: and can read its body", LooksTest::readableIfNotForgotten);
        due.sentence("readable: false for a bad site", LooksTest::readableBadSite);
        due.sentence("readable: false for a bad revision", LooksTest::readableBadRevision);
        due.sentence("body: The revision's body if the site can read it", LooksTest::body);
        due.sentence("body: else 0", LooksTest::bodyElse0);
        due.sentence("body: else 0", LooksTest::bodyBadSiteOrRevision);
        due.sentence("depth: The depth of a revision", LooksTest::depth);
        due.sentence("depth: NO_REVISION if there is none", LooksTest::depthOfNone);
        due.sentence("common: The nearest revision", LooksTest::commonNearest);
        due.sentence("common: a and b themselves counted in", LooksTest::commonThemselves);
        due.sentence("common: to their first revisions", LooksTest::commonOfLongWays);
        due.sentence("common: NO_REVISION if there is none", LooksTest::commonOfNone);
        due.sentence("common: or a or b doesn't exist", LooksTest::commonOfBad);
        due.sentence("changes: every revision that it came to have counts one",
                LooksTest::changes);
        due.sentence("changes: whether written or pulled", LooksTest::changesPulled);
        due.sentence("changes: counts one", LooksTest::changesOnce);
        due.sentence("changes: BAD_SITE", LooksTest::changesBadSite);
        due.end();
    }

    private static void newObject() {
        DocTrees x = new DocTrees();
        for (int site = 0; site < 2; site++) {
            for (int doc = 0; doc < 4; doc++) {
                due.is("winner", x.winner(site, doc), DocTrees.NO_REVISION);
                due.is("conflicts", x.conflicts(site, doc), 0);
                due.is("conflict", x.conflict(site, doc, 0), DocTrees.NO_REVISION);
                due.is("leaves", x.leaves(site, doc), 0);
            }
            due.is("readable", x.readable(site, 0), false);
            due.is("body", x.body(site, 0), 0);
            due.is("changes", x.changes(site), 0);
        }
        for (int revision = -1; revision <= 40; revision++) {
            due.is("depth", x.depth(revision), DocTrees.NO_REVISION);
            due.is("common", x.common(revision, revision), DocTrees.NO_REVISION);
        }
    }

    private static void newObjectBesideAnother() {
        DocTrees full = Scene.full();
        DocTrees x = new DocTrees();
        due.is("changes", x.changes(0), 0);
        due.is("depth", x.depth(0), DocTrees.NO_REVISION);
        due.is("the first number", x.put(0, 0, -1, 1), 0);
        due.is("the other is full still", full.put(0, 3, -1, 1), DocTrees.FULL);
        due.is("the other's winner", full.winner(0, 0), 2);
    }

    private static void winner() {
        DocTrees x = Scene.few();
        due.is("open", x.winner(0, 0), 2);
        due.is("at the other site", x.winner(1, 0), 3);
        due.is("a deletion", x.winner(0, 1), 5);
        due.is("none at the other site", x.winner(1, 1), DocTrees.NO_REVISION);
        due.is("no leaf there, a leaf here", x.winner(1, 2), 6);
        due.is("none at either", x.winner(0, 3), DocTrees.NO_REVISION);
    }

    private static void winnerOfForty() {
        due.is("the last of a chain", Scene.chain(40).winner(0, 0), 39);
        due.is("the last of a fan", Scene.fan(40).winner(0, 0), 39);
        DocTrees x = new DocTrees();
        x.put(0, 0, -1, 0);
        for (int number = 1; number < 40; number++) {
            x.branch(0, 0, 0, -number);
        }
        due.is("the first leaf of a fan", x.winner(0, 0), 1);
    }

    private static void conflicts() {
        DocTrees x = new DocTrees();
        due.is("of nothing", x.conflicts(0, 0), 0);
        x.put(0, 0, -1, 1);
        due.is("of one", x.conflicts(0, 0), 0);
        x.branch(0, 0, 0, 1);
        due.is("of a chain", x.conflicts(0, 0), 0);
        x.branch(0, 0, 0, 1);
        due.is("of two leaves", x.conflicts(0, 0), 1);
        x.branch(0, 0, 0, 1);
        due.is("of three leaves", x.conflicts(0, 0), 2);
        due.is("of another document", x.conflicts(0, 1), 0);
        due.is("at the other site", x.conflicts(1, 0), 0);
        x.delete(0, 0, 3);
        due.is("with a deletion", x.conflicts(0, 0), 1);
        x.delete(0, 0, 1);
        due.is("with two deletions", x.conflicts(0, 0), 0);
        x.delete(0, 0, 2);
        due.is("deletions alone", x.conflicts(0, 0), 0);
    }

    private static void conflictsOfForty() {
        DocTrees x = Scene.fan(40);
        due.is("all but the first and the winner", x.conflicts(0, 0), 38);
        x.pull(1, 0);
        due.is("at the other site", x.conflicts(1, 0), 38);
        due.is("of a chain", Scene.chain(40).conflicts(0, 0), 0);
    }

    private static void conflictFrom0() {
        DocTrees x = Scene.fan(3);
        due.is("below the first number", x.conflict(0, 0, -1), DocTrees.NO_REVISION);
        due.is("the first number", x.conflict(0, 0, 0), 1);
        due.is("the next number", x.conflict(0, 0, 1), DocTrees.NO_REVISION);
        x.branch(0, 0, 0, 0);
        due.is("the next number with one more", x.conflict(0, 0, 1), 3);
    }

    private static void conflictBestFirst() {
        DocTrees x = new DocTrees();
        x.put(0, 0, -1, 0);
        x.branch(0, 0, 0, 5);
        x.branch(0, 0, 0, MAX);
        x.branch(0, 0, 0, MIN);
        x.branch(0, 0, 0, 5);
        x.put(0, 0, 3, MIN);
        x.branch(0, 0, 3, MIN);
        x.branch(0, 0, 0, -1);
        x.branch(0, 0, 0, MAX);
        x.delete(0, 0, 8);
        int[] order = {6, 5, 2, 4, 1, 7};
        due.is("the winner", x.winner(0, 0), order[0]);
        for (int place = 1; place < order.length; place++) {
            due.is("conflict " + (place - 1), x.conflict(0, 0, place - 1), order[place]);
        }
        due.is("no deletion among them", x.conflict(0, 0, 5), DocTrees.NO_REVISION);
    }

    private static void conflictBeyond() {
        int[] beyond = {-1, -2, 2, 3, 38, 39, 40, MIN, MIN + 1, MAX - 1, MAX};
        for (int i : beyond) {
            DocTrees x = Scene.fan(4);
            due.is("number " + i, x.conflict(0, 0, i), DocTrees.NO_REVISION);
            due.is("the last there is", x.conflict(0, 0, 1), 1);
        }
    }

    private static void conflictOfNone() {
        int[] numbers = {-1, 0, 1, MIN, MAX};
        for (int i : numbers) {
            DocTrees x = Scene.few();
            due.is("of a winner alone", x.conflict(1, 0, i), DocTrees.NO_REVISION);
            due.is("of a deletion alone", x.conflict(0, 1, i), DocTrees.NO_REVISION);
            due.is("of nothing", x.conflict(0, 3, i), DocTrees.NO_REVISION);
            x.delete(0, 0, 1);
            x.delete(0, 0, 2);
            due.is("of two deletions", x.conflict(0, 0, i), DocTrees.NO_REVISION);
            x.branch(0, 0, 0, 1);
            due.is("of a winner beside deletions", x.conflict(0, 0, i), DocTrees.NO_REVISION);
        }
    }

    /** Document 0 with two first revisions and nothing below them, at both sites. */
    private static DocTrees twoFirstOnes(int body0, int body1) {
        DocTrees x = new DocTrees();
        x.put(0, 0, -1, body0);
        x.put(1, 0, -1, body1);
        x.pull(0, 0);
        x.pull(1, 0);
        return x;
    }

    private static void revision0AsConflict() {
        DocTrees x = twoFirstOnes(5, 6);
        for (int site = 0; site < 2; site++) {
            due.is("the winner", x.winner(site, 0), 1);
            due.is("one conflict", x.conflicts(site, 0), 1);
            due.is("it is revision 0", x.conflict(site, 0, 0), 0);
            due.is("there is no other", x.conflict(site, 0, 1), DocTrees.NO_REVISION);
        }
        x.delete(0, 0, 1);
        due.is("revision 0 wins over a deletion", x.winner(0, 0), 0);
        due.is("and is no conflict then", x.conflict(0, 0, 0), DocTrees.NO_REVISION);
    }

    private static void revision0AsWinner() {
        DocTrees x = twoFirstOnes(6, 5);
        for (int site = 0; site < 2; site++) {
            due.is("the winner", x.winner(site, 0), 0);
            due.is("one conflict", x.conflicts(site, 0), 1);
            due.is("it is revision 1", x.conflict(site, 0, 0), 1);
            due.is("there is no other", x.conflict(site, 0, 1), DocTrees.NO_REVISION);
        }
    }

    private static void conflictOfForty() {
        DocTrees x = Scene.fan(40);
        for (int i = 0; i < 38; i++) {
            due.is("number " + i, x.conflict(0, 0, i), 38 - i);
        }
        due.is("number 38", x.conflict(0, 0, 38), DocTrees.NO_REVISION);
    }

    private static void leaves() {
        DocTrees x = new DocTrees();
        due.is("of nothing", x.leaves(0, 0), 0);
        x.put(0, 0, -1, 1);
        due.is("of one", x.leaves(0, 0), 1);
        x.put(0, 0, 0, 1);
        due.is("of a chain", x.leaves(0, 0), 1);
        x.branch(0, 0, 0, 1);
        due.is("of two", x.leaves(0, 0), 2);
        x.delete(0, 0, 1);
        due.is("one is a deletion", x.leaves(0, 0), 2);
        x.delete(0, 0, 2);
        due.is("both are deletions", x.leaves(0, 0), 2);
        due.is("of another document", x.leaves(0, 1), 0);
        due.is("at the other site", x.leaves(1, 0), 0);
        x.put(1, 0, -1, 1);
        x.pull(0, 0);
        due.is("of two first ones", x.leaves(0, 0), 3);
        due.is("at the other site before its pull", x.leaves(1, 0), 1);
    }

    private static void leavesOfForty() {
        DocTrees x = Scene.fan(40);
        due.is("all but the first", x.leaves(0, 0), 39);
        x.pull(1, 0);
        due.is("at the other site", x.leaves(1, 0), 39);
        due.is("of a chain", Scene.chain(40).leaves(0, 0), 1);
    }

    private static void readableIfHad() {
        DocTrees x = Scene.few();
        due.is("had", x.readable(0, 1), true);
        due.is("had by the other site alone", x.readable(1, 1), false);
        due.is("had by site 1", x.readable(1, 3), true);
        due.is("had by site 1 alone", x.readable(0, 3), false);
        due.is("had by both", x.readable(0, 6) && x.readable(1, 6), true);
        x.pull(1, 0);
        due.is("had since the pull", x.readable(1, 1), true);
    }

    private static void readableIfNotForgotten() {
        DocTrees x = Scene.few();
        due.is("forgotten", x.readable(0, 0), false);
        due.is("no leaf, not forgotten", x.readable(0, 6), true);
        due.is("a deletion", x.readable(0, 5), true);
        x.put(0, 3, -1, 0);
        due.is("a body 0", x.readable(0, 8), true);
    }

    private static void readableBadSite() {
        for (int site : Scene.BAD_SITES) {
            DocTrees x = Scene.full();
            for (int revision = 0; revision < 40; revision++) {
                due.is("at " + site + " " + revision, x.readable(site, revision), false);
            }
            due.is("at " + site + " bad too", x.readable(site, 40), false);
        }
    }

    private static void readableBadRevision() {
        int[] revisions = {-1, -40, -39, MIN, Scene.FEW, 39, 40, 41, 46, 79, 80, MAX};
        for (int revision : revisions) {
            DocTrees x = Scene.few();
            due.is("at 0 " + revision, x.readable(0, revision), false);
            due.is("at 1 " + revision, x.readable(1, revision), false);
        }
        due.is("the last there is", Scene.few().readable(0, Scene.FEW - 1), true);
        due.is("the first at site 1", Scene.few().readable(1, 3), true);
        due.is("the last of forty", Scene.full().readable(0, 39), true);
        due.is("one beyond forty", Scene.full().readable(0, 40), false);
    }

    private static void body() {
        int[] bodies = {MIN, -5, -1, 0, 1, MAX};
        for (int body : bodies) {
            DocTrees x = new DocTrees();
            x.put(1, 2, -1, body);
            due.is("the body " + body, x.body(1, 0), body);
        }
        DocTrees y = Scene.few();
        due.is("of one that is no leaf", y.body(0, 6), 76);
        due.is("at the site that pulled it", y.body(1, 6), 76);
        due.is("of the last of forty", Scene.full().body(0, 39), 39);
    }

    private static void bodyElse0() {
        DocTrees x = Scene.few();
        due.is("forgotten", x.body(0, 0), 0);
        due.is("forgotten above a deletion", x.body(0, 4), 0);
        due.is("had by the other site alone", x.body(1, 1), 0);
        due.is("had by site 1 alone", x.body(0, 3), 0);
        x.pull(1, 0);
        due.is("pulled forgotten", x.body(1, 0), 0);
        due.is("pulled readable", x.body(1, 1), 71);
    }

    private static void bodyBadSiteOrRevision() {
        int[] revisions = {-1, -40, MIN, Scene.FEW, 39, 40, 41, 46, 79, 80, MAX};
        for (int revision : revisions) {
            DocTrees x = Scene.few();
            due.is("at 0 of " + revision, x.body(0, revision), 0);
            due.is("at 1 of " + revision, x.body(1, revision), 0);
        }
        for (int site : Scene.BAD_SITES) {
            due.is("at " + site, Scene.few().body(site, 6), 0);
            due.is("at " + site + " of none", Scene.few().body(site, 40), 0);
        }
    }

    private static void depth() {
        DocTrees x = Scene.few();
        due.is("of the first", x.depth(0), 1);
        due.is("of one below", x.depth(2), 2);
        due.is("of one at site 1", x.depth(3), 1);
        due.is("of a deletion", x.depth(5), 2);
        due.is("of one forgotten", x.depth(4), 1);
        due.is("of the last", x.depth(7), 2);
        due.is("the greatest", Scene.chain(40).depth(39), 40);
        due.is("the last of a fan", Scene.fan(40).depth(39), 2);
    }

    private static void depthOfNone() {
        int[] revisions = {-1, -5, MIN, Scene.FEW, Scene.FEW + 1, 39, 40, 41, MAX};
        for (int revision : revisions) {
            due.is("of " + revision, Scene.few().depth(revision), DocTrees.NO_REVISION);
        }
        due.is("one beyond forty", Scene.full().depth(40), DocTrees.NO_REVISION);
        due.is("of 0 in a new object", new DocTrees().depth(0), DocTrees.NO_REVISION);
    }

    private static void commonNearest() {
        DocTrees x = Scene.chain(4);
        x.branch(0, 0, 2, 1);
        x.branch(0, 0, 1, 1);
        x.put(0, 0, 5, 1);
        x.branch(0, 0, 0, 1);
        both(x, 3, 4, 2);
        both(x, 4, 6, 1);
        both(x, 3, 5, 1);
        both(x, 6, 7, 0);
        both(x, 3, 7, 0);
        x.delete(0, 0, 6);
        both(x, 8, 4, 1);
    }

    private static void both(DocTrees x, int a, int b, int want) {
        due.is("of " + a + " and " + b, x.common(a, b), want);
        due.is("of " + b + " and " + a, x.common(b, a), want);
    }

    private static void commonThemselves() {
        DocTrees x = Scene.chain(4);
        for (int revision = 0; revision < 4; revision++) {
            both(x, revision, revision, revision);
            both(x, revision, 3, revision);
            both(x, 0, revision, 0);
        }
    }

    private static void commonOfLongWays() {
        DocTrees x = Scene.chain(40);
        both(x, 39, 0, 0);
        both(x, 39, 38, 38);
        both(x, 39, 39, 39);
        DocTrees y = new DocTrees();
        y.put(0, 0, -1, 1);
        y.branch(0, 0, 0, 1);
        y.branch(0, 0, 0, 1);
        for (int number = 3; number < 40; number++) {
            y.put(0, 0, number - 2, 1);
        }
        both(y, 39, 38, 0);
        both(y, 39, 3, 3);
        both(y, 38, 3, 0);
        DocTrees z = Scene.fan(40);
        both(z, 1, 39, 0);
    }

    private static void commonOfNone() {
        DocTrees x = Scene.few();
        both(x, 0, 3, DocTrees.NO_REVISION);
        both(x, 2, 3, DocTrees.NO_REVISION);
        both(x, 2, 7, DocTrees.NO_REVISION);
        both(x, 0, 4, DocTrees.NO_REVISION);
        DocTrees y = new DocTrees();
        y.put(0, 0, -1, 1);
        y.put(1, 0, -1, 1);
        for (int number = 2; number < 40; number++) {
            y.put(number % 2, 0, number - 2, 1);
        }
        both(y, 38, 39, DocTrees.NO_REVISION);
        both(y, 38, 1, DocTrees.NO_REVISION);
        both(y, 38, 0, 0);
        y.pull(0, 0);
        y.pull(1, 0);
        both(y, 38, 39, DocTrees.NO_REVISION);
    }

    private static void commonOfBad() {
        int[] revisions = {-1, -5, MIN, Scene.FEW, 39, 40, 41, MAX};
        for (int revision : revisions) {
            DocTrees x = Scene.few();
            both(x, 0, revision, DocTrees.NO_REVISION);
            both(x, 7, revision, DocTrees.NO_REVISION);
            both(x, revision, revision, DocTrees.NO_REVISION);
            both(x, revision, -1, DocTrees.NO_REVISION);
        }
        both(Scene.full(), 39, 40, DocTrees.NO_REVISION);
        both(Scene.full(), 39, 0, 0);
    }

    private static void changes() {
        DocTrees x = new DocTrees();
        due.is("none", x.changes(0), 0);
        x.put(0, 0, -1, 1);
        due.is("a put", x.changes(0), 1);
        x.branch(0, 0, 0, 1);
        due.is("a branch", x.changes(0), 2);
        x.delete(0, 0, 1);
        due.is("a deletion", x.changes(0), 3);
        x.put(0, 3, -1, 1);
        due.is("of another document", x.changes(0), 4);
        due.is("none at the other site", x.changes(1), 0);
        due.is("forty", Scene.chain(40).changes(0), 40);
        DocTrees full = Scene.chain(40);
        full.put(0, 0, 39, 1);
        due.is("forty still", full.changes(0), 40);
    }

    private static void changesPulled() {
        DocTrees x = Scene.chain(40);
        x.pull(1, 0);
        due.is("forty pulled", x.changes(1), 40);
        due.is("none by being pulled from", x.changes(0), 40);
        DocTrees y = Scene.few();
        due.is("one written, one pulled", y.changes(1), 2);
        y.pull(1, 0);
        due.is("three more", y.changes(1), 5);
        y.pull(1, 1);
        due.is("two more, one forgotten, one a deletion", y.changes(1), 7);
    }

    private static void changesOnce() {
        DocTrees x = Scene.few();
        x.pull(1, 0);
        x.pull(1, 0);
        x.pull(0, 0);
        due.is("pulled twice", x.changes(1), 5);
        due.is("pulled back", x.changes(0), 8);
        x.compact(0);
        x.compact(1);
        x.put(0, 0, -1, 1);
        x.delete(0, 1, 5);
        x.branch(0, 3, -1, 1);
        due.is("refused calls and compacting", x.changes(0), 8);
        due.is("at the other site too", x.changes(1), 5);
    }

    private static void changesBadSite() {
        for (int site : Scene.BAD_SITES) {
            due.is("at " + site, Scene.few().changes(site), DocTrees.BAD_SITE);
            due.is("at " + site + " of a new object", new DocTrees().changes(site),
                    DocTrees.BAD_SITE);
        }
        due.is("at 0", Scene.few().changes(0), 7);
        due.is("at 1", Scene.few().changes(1), 2);
    }
}
