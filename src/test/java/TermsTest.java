import java.util.function.ToLongFunction;

/** The sections 'What it is' and 'Terms': a test for each sentence that names a boundary case. */
public final class TermsTest {
    private static final int MIN = Scene.MIN;
    private static final int MAX = Scene.MAX;
    private static final int CALLS = 512;

    private static final Due due = new Due();

    public static void main(String[] args) {
        due.sentence("at two SITES (0 and 1)", TermsTest::noSiteBelow0OrAbove1);
        due.sentence("at two SITES (0 and 1)", TermsTest::sites0And1);
        due.sentence("used for at most 512 calls", TermsTest::everyCallAsThe512th);
        due.sentence("used for at most 512 calls", TermsTest::the512thCallWritesTheFortieth);
        due.sentence("DOCUMENTS are 0 to 3", TermsTest::noDocumentBelow0OrAbove3);
        due.sentence("DOCUMENTS are 0 to 3", TermsTest::documents0To3);
        due.sentence("a PARENT revision of the same document", TermsTest::parentOfSameDocument);
        due.sentence("a PARENT revision of the same document or none", TermsTest::noParent);
        due.sentence("a DEPTH (1 without a parent,", TermsTest::depthWithoutParent);
        due.sentence("else the parent's depth and 1)", TermsTest::depthBelowParent);
        due.sentence("a BODY (an int)", TermsTest::everyIntIsABody);
        due.sentence("and is a DELETION or not", TermsTest::deletionOrNot);
        due.sentence("numbered from 0 over all documents", TermsTest::numberedOverAllDocuments);
        due.sentence("at most 40", TermsTest::atMostFortyOverAll);
        due.sentence("at most 40", TermsTest::copiesAreNoFurtherRevisions);
        due.sentence("it has the revision's parent", TermsTest::parentsComeAlong);
        due.sentence("is a LEAF if it has no revision whose parent that is", TermsTest::leaf);
        due.sentence("is a LEAF if it has no revision", TermsTest::leafHereThoughNotThere);
        due.sentence("a leaf is OPEN if it is not a deletion", TermsTest::open);
        due.sentence("an open one before any deletion", TermsTest::openBeforeDeletion);
        due.sentence("then the greater depth", TermsTest::greaterDepth);
        due.sentence("then the greater depth", TermsTest::greaterDepthOfDeletions);
        due.sentence("then the greater body", TermsTest::greaterBody);
        due.sentence("then the greater body", TermsTest::greaterBodyWithoutWrapAround);
        due.sentence("then the greater number", TermsTest::greaterNumber);
        due.sentence("then the greater number", TermsTest::greaterNumberOfDeletions);
        due.sentence("none if the site has no revision of the document", TermsTest::noWinner);
        due.sentence("open leaves of a document at a site other than the winner",
                TermsTest::conflictsAreOpenAndNotTheWinner);
        due.sentence("A document is LIVE at a site if its winner is open", TermsTest::live);
        due.sentence("body can't be read at that site any more", TermsTest::compactedBody);
        due.sentence("at that site", TermsTest::compactedAtThatSiteAlone);
        due.sentence("unless it is a leaf there", TermsTest::leavesStayReadable);
        due.sentence("Winners don't change by that.", TermsTest::compactingKeepsWinners);
        due.sentence("The calls below change nothing.", TermsTest::looksChangeNothing);
        due.sentence("The calls below change nothing.", TermsTest::refusedLooksChangeNothing);
        due.sentence("BAD_SITE first, then BAD_DOC.", TermsTest::badSiteFirst);
        due.sentence("BAD_SITE first, then BAD_DOC.", TermsTest::thenBadDoc);
        due.end();
    }

    private static void noSiteBelow0OrAbove1() {
        for (int site : Scene.BAD_SITES) {
            DocTrees x = Scene.few();
            String at = " at site " + site;
            due.is("put" + at, x.put(site, 3, -1, 1), DocTrees.BAD_SITE);
            due.is("delete" + at, x.delete(site, 0, 1), DocTrees.BAD_SITE);
            due.is("branch" + at, x.branch(site, 0, 1, 1), DocTrees.BAD_SITE);
            due.is("pull" + at, x.pull(site, 0), DocTrees.BAD_SITE);
            due.is("compact" + at, x.compact(site), DocTrees.BAD_SITE);
            due.is("winner" + at, x.winner(site, 0), DocTrees.BAD_SITE);
            due.is("conflicts" + at, x.conflicts(site, 0), DocTrees.BAD_SITE);
            due.is("conflict" + at, x.conflict(site, 0, 0), DocTrees.BAD_SITE);
            due.is("leaves" + at, x.leaves(site, 0), DocTrees.BAD_SITE);
            due.is("readable" + at, x.readable(site, 1), false);
            due.is("body" + at, x.body(site, 1), 0);
            due.is("changes" + at, x.changes(site), DocTrees.BAD_SITE);
        }
    }

    private static void sites0And1() {
        for (int site = 0; site < 2; site++) {
            DocTrees x = new DocTrees();
            String at = " at site " + site;
            due.is("put" + at, x.put(site, 0, -1, 5), 0);
            due.is("branch" + at, x.branch(site, 0, 0, 6), 1);
            due.is("branch again" + at, x.branch(site, 0, 0, 7), 2);
            due.is("delete" + at, x.delete(site, 0, 1), 3);
            due.is("branch last" + at, x.branch(site, 0, 0, 4), 4);
            due.is("pull" + at, x.pull(site, 0), 0);
            due.is("compact" + at, x.compact(site), 2);
            due.is("winner" + at, x.winner(site, 0), 2);
            due.is("conflicts" + at, x.conflicts(site, 0), 1);
            due.is("conflict" + at, x.conflict(site, 0, 0), 4);
            due.is("leaves" + at, x.leaves(site, 0), 3);
            due.is("readable" + at, x.readable(site, 2), true);
            due.is("body" + at, x.body(site, 2), 7);
            due.is("changes" + at, x.changes(site), 5);
            due.is("changes at the other site", x.changes(1 - site), 0);
            due.is("pull at the other site", x.pull(1 - site, 0), 5);
        }
    }

    private static void everyCallAsThe512th() {
        last("put", x -> x.put(1, 3, -1, 1), 8);
        last("put below a leaf", x -> x.put(0, 0, 1, 1), 8);
        last("put refused", x -> x.put(0, 0, -1, 1), DocTrees.CONFLICT);
        last("delete", x -> x.delete(0, 0, 1), 8);
        last("delete refused", x -> x.delete(0, 1, 5), DocTrees.CONFLICT);
        last("branch", x -> x.branch(0, 0, 0, 1), 8);
        last("branch refused", x -> x.branch(0, 0, 3, 1), DocTrees.NO_REVISION);
        last("pull", x -> x.pull(1, 0), 3);
        last("compact", x -> x.compact(0), 1);
        last("winner", x -> x.winner(0, 0), 2);
        last("conflicts", x -> x.conflicts(0, 0), 1);
        last("conflict", x -> x.conflict(0, 0, 0), 1);
        last("leaves", x -> x.leaves(0, 0), 2);
        last("readable", x -> x.readable(0, 6) ? 1 : 0, 1);
        last("body", x -> x.body(0, 6), 76);
        last("depth", x -> x.depth(7), 2);
        last("common", x -> x.common(1, 2), 0);
        last("changes", x -> x.changes(0), 7);
    }

    private static void last(String call, ToLongFunction<DocTrees> asked, long want) {
        DocTrees x = Scene.few();
        for (int made = Scene.FEW + 2; made < CALLS - 1; made++) {
            x.changes(0);
        }
        due.is(call + " as the last call", asked.applyAsLong(x), want);
    }

    private static void the512thCallWritesTheFortieth() {
        DocTrees x = new DocTrees();
        for (int call = 1; call <= CALLS - 40; call++) {
            due.is("call " + call, x.delete(0, 0, 0), DocTrees.CONFLICT);
        }
        for (int number = 0; number < 40; number++) {
            due.is("write " + number, x.put(0, 0, number - 1, 1), number);
        }
    }

    private static void noDocumentBelow0OrAbove3() {
        for (int doc : Scene.BAD_DOCS) {
            DocTrees x = Scene.few();
            String of = " of document " + doc;
            due.is("put" + of, x.put(0, doc, -1, 1), DocTrees.BAD_DOC);
            due.is("delete" + of, x.delete(0, doc, 1), DocTrees.BAD_DOC);
            due.is("branch" + of, x.branch(0, doc, 1, 1), DocTrees.BAD_DOC);
            due.is("pull" + of, x.pull(0, doc), DocTrees.BAD_DOC);
            due.is("winner" + of, x.winner(0, doc), DocTrees.BAD_DOC);
            due.is("conflicts" + of, x.conflicts(0, doc), DocTrees.BAD_DOC);
            due.is("conflict" + of, x.conflict(0, doc, 0), DocTrees.BAD_DOC);
            due.is("leaves" + of, x.leaves(0, doc), DocTrees.BAD_DOC);
        }
    }

    private static void documents0To3() {
        for (int doc = 0; doc < 4; doc++) {
            DocTrees x = new DocTrees();
            String of = " of document " + doc;
            due.is("put" + of, x.put(0, doc, -1, 5), 0);
            due.is("branch" + of, x.branch(0, doc, 0, 6), 1);
            due.is("branch again" + of, x.branch(0, doc, 0, 7), 2);
            due.is("delete" + of, x.delete(0, doc, 2), 3);
            due.is("branch last" + of, x.branch(0, doc, 0, 4), 4);
            due.is("winner" + of, x.winner(0, doc), 1);
            due.is("conflicts" + of, x.conflicts(0, doc), 1);
            due.is("conflict" + of, x.conflict(0, doc, 0), 4);
            due.is("leaves" + of, x.leaves(0, doc), 3);
            due.is("pull" + of, x.pull(1, doc), 5);
            for (int other = 0; other < 4; other++) {
                due.is("leaves of " + other, x.leaves(0, other), other == doc ? 3 : 0);
            }
        }
    }

    private static void parentOfSameDocument() {
        for (int doc = 0; doc < 4; doc++) {
            for (int other = 0; other < 4; other++) {
                DocTrees x = new DocTrees();
                x.put(0, other, -1, 1);
                boolean same = doc == other;
                String call = " of " + doc + " below a revision of " + other;
                due.is("branch" + call, x.branch(0, doc, 0, 1), same ? 1 : DocTrees.NO_REVISION);
                int leaf = same ? 1 : 0;
                due.is("put" + call, x.put(0, doc, leaf, 1), same ? 2 : DocTrees.CONFLICT);
                leaf = same ? 2 : 0;
                due.is("delete" + call, x.delete(0, doc, leaf), same ? 3 : DocTrees.CONFLICT);
            }
        }
    }

    private static void noParent() {
        DocTrees x = new DocTrees();
        due.is("the first one of a document", x.put(0, 0, -1, 1), 0);
        due.is("the first one at the other site", x.put(1, 0, -1, 1), 1);
        due.is("the first one of another document", x.put(0, 1, -1, 1), 2);
        due.is("no way between the sites' first ones", x.common(0, 1), DocTrees.NO_REVISION);
        due.is("no way between the documents", x.common(0, 2), DocTrees.NO_REVISION);
        due.is("both are leaves where both are", x.pull(0, 0), 1);
        due.is("leaves without parents", x.leaves(0, 0), 2);
    }

    private static void depthWithoutParent() {
        DocTrees x = new DocTrees();
        for (int doc = 0; doc < 4; doc++) {
            due.is("put at 0", x.put(0, doc, -1, 1), 2 * doc);
            due.is("put at 1", x.put(1, doc, -1, 1), 2 * doc + 1);
            due.is("depth, written at 0", x.depth(2 * doc), 1);
            due.is("depth, written at 1", x.depth(2 * doc + 1), 1);
        }
    }

    private static void depthBelowParent() {
        DocTrees x = Scene.chain(40);
        for (int revision = 0; revision < 40; revision++) {
            due.is("depth of " + revision, x.depth(revision), revision + 1);
        }
        DocTrees y = Scene.chain(2);
        due.is("delete below depth 2", y.delete(0, 0, 1), 2);
        due.is("depth of the deletion", y.depth(2), 3);
        due.is("put with -1 below the deletion", y.put(0, 0, -1, 1), 3);
        due.is("depth below the deletion", y.depth(3), 4);
        due.is("branch below the first", y.branch(0, 0, 0, 1), 4);
        due.is("depth below the first", y.depth(4), 2);
    }

    private static void everyIntIsABody() {
        int[] bodies = {MIN, MIN + 1, -5, -1, 0, 1, MAX - 1, MAX};
        for (int body : bodies) {
            DocTrees x = new DocTrees();
            due.is("put the body " + body, x.put(0, 0, -1, body), 0);
            due.is("put the body below " + body, x.put(0, 0, 0, body), 1);
            due.is("branch with the body " + body, x.branch(0, 0, 0, body), 2);
            x.pull(1, 0);
            for (int revision = 0; revision < 3; revision++) {
                due.is("the body " + body, x.body(0, revision), body);
                due.is("the body where pulled " + body, x.body(1, revision), body);
                due.is("readable with " + body, x.readable(0, revision), true);
            }
        }
    }

    private static void deletionOrNot() {
        DocTrees x = new DocTrees();
        due.is("put with the body 0", x.put(0, 0, -1, 0), 0);
        due.is("a body 0 makes no deletion", x.put(0, 0, -1, 1), DocTrees.CONFLICT);
        due.is("delete", x.delete(0, 0, 0), 1);
        due.is("a deletion is one", x.delete(0, 0, 1), DocTrees.CONFLICT);
        due.is("branch with the body 0", x.branch(0, 0, 1, 0), 2);
        due.is("a branch is none", x.delete(0, 0, 2), 3);
        x.pull(1, 0);
        due.is("a pulled deletion is one", x.delete(1, 0, 3), DocTrees.CONFLICT);
    }

    private static void numberedOverAllDocuments() {
        DocTrees x = new DocTrees();
        for (int number = 0; number < 8; number++) {
            int doc = number % 4;
            int site = number / 4;
            due.is("the next number", x.put(site, doc, -1, 1), number);
        }
        due.is("a deletion's number", x.delete(1, 3, 7), 8);
        due.is("a refused one takes none", x.delete(1, 3, 7), DocTrees.CONFLICT);
        due.is("a pull takes none", x.pull(1, 0), 1);
        due.is("a branch's number", x.branch(1, 0, 0, 1), 9);
    }

    private static void atMostFortyOverAll() {
        DocTrees x = new DocTrees();
        for (int doc = 0; doc < 4; doc++) {
            int first = 10 * doc;
            due.is("first of ten", x.put(0, doc, -1, 1), first);
            due.is("first of ten at 1", x.put(1, doc, -1, 1), first + 1);
            for (int number = first + 2; number < first + 10; number++) {
                due.is("number " + number, x.put(number % 2, doc, number - 2, 1), number);
            }
        }
        for (int doc = 0; doc < 4; doc++) {
            due.is("a forty-first of " + doc, x.put(0, doc, 10 * doc + 8, 1), DocTrees.FULL);
        }
        due.is("the last is there", x.depth(39), 5);
        due.is("none beyond the last", x.depth(40), DocTrees.NO_REVISION);
    }

    private static void copiesAreNoFurtherRevisions() {
        DocTrees x = Scene.chain(39);
        due.is("pull", x.pull(1, 0), 39);
        due.is("the fortieth after a pull", x.put(1, 0, 38, 1), 39);
        due.is("the forty-first after a pull", x.put(1, 0, 39, 1), DocTrees.FULL);
        due.is("pull when full", x.pull(0, 0), 1);
        due.is("both sites have forty", x.changes(0) + x.changes(1), 80);
    }

    private static void parentsComeAlong() {
        DocTrees x = Scene.chain(40);
        x.pull(1, 0);
        for (int revision = 0; revision < 40; revision++) {
            due.is("site 1 has " + revision, x.readable(1, revision), true);
        }
        DocTrees y = new DocTrees();
        y.put(0, 0, -1, 1);
        y.delete(0, 0, 0);
        y.compact(0);
        due.is("pull below what is forgotten", y.pull(1, 0), 2);
        due.is("the deletion's parent came along", y.branch(1, 0, 0, 5), 2);
    }

    private static void leaf() {
        DocTrees x = new DocTrees();
        x.put(0, 0, -1, 1);
        due.is("one alone is a leaf", x.leaves(0, 0), 1);
        x.put(0, 0, 0, 1);
        due.is("its parent is none", x.put(0, 0, 0, 1), DocTrees.CONFLICT);
        due.is("it is one itself", x.put(0, 0, 1, 1), 2);
        due.is("one leaf on one way", x.leaves(0, 0), 1);
        x.delete(0, 0, 2);
        due.is("a deletion's parent is none", x.put(0, 0, 2, 1), DocTrees.CONFLICT);
        due.is("a deletion is one", x.leaves(0, 0), 1);
    }

    private static void leafHereThoughNotThere() {
        DocTrees x = new DocTrees();
        x.put(0, 0, -1, 1);
        x.pull(1, 0);
        x.put(1, 0, 0, 2);
        due.is("the other site's child doesn't count", x.winner(0, 0), 0);
        due.is("nothing is forgotten of a leaf", x.compact(0), 0);
        due.is("at the other site it is no leaf", x.compact(1), 1);
        due.is("put below it here", x.put(0, 0, 0, 3), 2);
        due.is("it is no leaf here any more", x.put(0, 0, 0, 3), DocTrees.CONFLICT);
    }

    private static void open() {
        DocTrees x = Scene.fan(3);
        due.is("two open leaves", x.conflicts(0, 0), 1);
        due.is("delete below an open leaf", x.delete(0, 0, 1), 3);
        due.is("the deletion isn't open", x.delete(0, 0, 3), DocTrees.CONFLICT);
        due.is("one open leaf", x.conflicts(0, 0), 0);
        due.is("two leaves, open or not", x.leaves(0, 0), 2);
    }

    private static void openBeforeDeletion() {
        DocTrees x = new DocTrees();
        x.put(0, 0, -1, 0);
        x.branch(0, 0, 0, MIN);
        x.branch(0, 0, 0, MAX);
        x.put(0, 0, 2, MAX);
        x.delete(0, 0, 3);
        due.is("open before a deeper deletion", x.winner(0, 0), 1);
        due.is("the document is live", x.put(0, 0, -1, 1), DocTrees.CONFLICT);
        x.delete(0, 0, 1);
        due.is("a deletion if all are", x.winner(0, 0), 4);
        x.branch(0, 0, 0, MIN);
        due.is("open before two deletions", x.winner(0, 0), 6);
    }

    private static void greaterDepth() {
        DocTrees x = new DocTrees();
        x.put(0, 0, -1, 0);
        x.branch(0, 0, 0, 1);
        x.put(0, 0, 1, MIN);
        x.branch(0, 0, 0, MAX);
        due.is("one deeper before a greater body", x.winner(0, 0), 2);
        due.is("the other is the conflict", x.conflict(0, 0, 0), 3);
        x.put(0, 0, 3, MIN + 1);
        due.is("as deep, then the body", x.winner(0, 0), 4);
        x.put(0, 0, 2, MIN);
        due.is("one deeper again", x.winner(0, 0), 5);
    }

    private static void greaterDepthOfDeletions() {
        DocTrees x = Scene.fan(3);
        x.put(0, 0, 1, 5);
        x.delete(0, 0, 3);
        x.delete(0, 0, 2);
        due.is("the deeper deletion", x.winner(0, 0), 4);
        DocTrees y = Scene.fan(3);
        y.put(0, 0, 1, 5);
        y.delete(0, 0, 2);
        y.delete(0, 0, 3);
        due.is("the deeper deletion, written last", y.winner(0, 0), 5);
    }

    private static void greaterBody() {
        wins(5, 4, true);
        wins(4, 5, false);
        wins(1, 0, true);
        wins(0, 1, false);
        wins(0, -1, true);
        wins(-1, 0, false);
        wins(-4, -5, true);
        wins(-5, -4, false);
    }

    /** A difference of the bodies would wrap around here and tell the lesser one as the greater. */
    private static void greaterBodyWithoutWrapAround() {
        wins(MAX, MIN, true);
        wins(MIN, MAX, false);
        wins(MAX, -1, true);
        wins(-1, MAX, false);
        wins(1, MIN, true);
        wins(MIN, 1, false);
        wins(0, MIN, true);
        wins(MIN, 0, false);
        wins(MAX, MAX - 1, true);
        wins(MIN, MIN + 1, false);
    }

    private static void wins(int first, int second, boolean firstWins) {
        DocTrees x = new DocTrees();
        x.put(0, 0, -1, 0);
        x.branch(0, 0, 0, first);
        x.branch(0, 0, 0, second);
        String bodies = "of the bodies " + first + " and " + second;
        due.is("winner " + bodies, x.winner(0, 0), firstWins ? 1 : 2);
        due.is("conflict " + bodies, x.conflict(0, 0, 0), firstWins ? 2 : 1);
    }

    private static void greaterNumber() {
        int[] bodies = {0, 7, MIN, MAX};
        for (int body : bodies) {
            DocTrees x = new DocTrees();
            x.put(0, 0, -1, 0);
            x.branch(0, 0, 0, body);
            due.is("alone", x.winner(0, 0), 1);
            x.branch(0, 0, 0, body);
            due.is("the later of two", x.winner(0, 0), 2);
            x.branch(0, 0, 0, body);
            due.is("the latest of three", x.winner(0, 0), 3);
            due.is("the next", x.conflict(0, 0, 0), 2);
            due.is("the last", x.conflict(0, 0, 1), 1);
        }
        DocTrees y = new DocTrees();
        y.put(1, 0, -1, 4);
        y.put(0, 0, -1, 4);
        y.pull(0, 0);
        due.is("the number counts, not when the site got it", y.winner(0, 0), 1);
    }

    /** Deletions have the body 0, whatever the bodies above them are. */
    private static void greaterNumberOfDeletions() {
        DocTrees x = new DocTrees();
        x.put(0, 0, -1, 0);
        x.branch(0, 0, 0, MAX);
        x.branch(0, 0, 0, MIN);
        x.delete(0, 0, 1);
        x.delete(0, 0, 2);
        due.is("the later deletion", x.winner(0, 0), 4);
        DocTrees y = new DocTrees();
        y.put(0, 0, -1, 0);
        y.branch(0, 0, 0, MAX);
        y.branch(0, 0, 0, MIN);
        y.delete(0, 0, 2);
        y.delete(0, 0, 1);
        due.is("the later deletion, other order", y.winner(0, 0), 4);
    }

    private static void noWinner() {
        DocTrees x = new DocTrees();
        due.is("no revision at all", x.winner(0, 0), DocTrees.NO_REVISION);
        x.put(0, 0, -1, 1);
        due.is("one at the site", x.winner(0, 0), 0);
        due.is("none at the other site", x.winner(1, 0), DocTrees.NO_REVISION);
        due.is("none of the next document", x.winner(0, 1), DocTrees.NO_REVISION);
        due.is("none of the last document", x.winner(0, 3), DocTrees.NO_REVISION);
        x.delete(0, 0, 0);
        due.is("a deletion is one", x.winner(0, 0), 1);
        x.pull(1, 0);
        due.is("a pulled one is one", x.winner(1, 0), 1);
    }

    private static void conflictsAreOpenAndNotTheWinner() {
        DocTrees x = new DocTrees();
        due.is("without a winner", x.conflicts(0, 0), 0);
        x.put(0, 0, -1, 1);
        due.is("beside the winner", x.conflicts(0, 0), 0);
        x.branch(0, 0, 0, 1);
        x.branch(0, 0, 0, 1);
        due.is("one open leaf more", x.conflicts(0, 0), 1);
        x.delete(0, 0, 1);
        due.is("a deletion beside the winner", x.conflicts(0, 0), 0);
        x.delete(0, 0, 2);
        due.is("a deletion beside a deletion that wins", x.conflicts(0, 0), 0);
        x.branch(0, 0, 0, 1);
        due.is("an open winner beside deletions", x.conflicts(0, 0), 0);
        x.branch(0, 0, 0, 0);
        due.is("an open leaf beside an open winner", x.conflicts(0, 0), 1);
    }

    private static void live() {
        DocTrees x = new DocTrees();
        due.is("not live without a winner", x.put(0, 0, -1, 1), 0);
        due.is("live with an open winner", x.put(0, 0, -1, 1), DocTrees.CONFLICT);
        x.pull(1, 0);
        x.delete(0, 0, 0);
        due.is("live at the other site still", x.put(1, 0, -1, 1), DocTrees.CONFLICT);
        due.is("not live with a deletion that wins", x.put(0, 0, -1, 1), 2);
        due.is("live again", x.put(0, 0, -1, 1), DocTrees.CONFLICT);
    }

    private static void compactedBody() {
        DocTrees x = Scene.chain(3);
        due.is("before", x.body(0, 1), 101);
        due.is("readable before", x.readable(0, 1), true);
        x.compact(0);
        due.is("after", x.body(0, 1), 0);
        due.is("readable after", x.readable(0, 1), false);
        x.pull(1, 0);
        x.put(1, 0, 2, 5);
        x.pull(0, 0);
        due.is("after a pull", x.body(0, 1), 0);
        due.is("readable after a pull", x.readable(0, 1), false);
    }

    private static void compactedAtThatSiteAlone() {
        DocTrees x = Scene.chain(2);
        x.pull(1, 0);
        x.compact(0);
        due.is("not where it was compacted", x.readable(0, 0), false);
        due.is("but at the other site", x.readable(1, 0), true);
        due.is("with its body", x.body(1, 0), 100);
    }

    private static void leavesStayReadable() {
        DocTrees x = Scene.chain(2);
        x.branch(0, 0, 0, 7);
        x.delete(0, 0, 2);
        x.compact(0);
        due.is("a leaf", x.body(0, 1), 101);
        due.is("a leaf is readable", x.readable(0, 1), true);
        due.is("a deletion that is a leaf", x.readable(0, 3), true);
        due.is("what is above the deletion", x.readable(0, 2), false);
        x.put(0, 0, 1, 8);
        due.is("a leaf then, none now", x.readable(0, 1), true);
        x.compact(0);
        due.is("forgotten by the next compacting", x.readable(0, 1), false);
    }

    private static void compactingKeepsWinners() {
        DocTrees x = Scene.fan(5);
        x.put(0, 0, 1, 3);
        x.put(0, 0, 2, 4);
        x.compact(0);
        due.is("winner", x.winner(0, 0), 6);
        due.is("first conflict", x.conflict(0, 0, 0), 5);
        due.is("second conflict", x.conflict(0, 0, 1), 4);
        due.is("third conflict", x.conflict(0, 0, 2), 3);
        due.is("conflicts", x.conflicts(0, 0), 3);
        due.is("leaves", x.leaves(0, 0), 4);
    }

    private static void looksChangeNothing() {
        DocTrees x = Scene.few();
        DocTrees twin = Scene.few();
        String first = Scene.view(x, Scene.FEW);
        String second = Scene.view(x, Scene.FEW);
        due.holds("the same view twice", first.equals(second));
        due.is("the next number", x.put(1, 3, -1, 1), twin.put(1, 3, -1, 1));
        due.is("the next pull", x.pull(1, 0), twin.pull(1, 0));
        due.is("the next compacting", x.compact(1), twin.compact(1));
    }

    private static void refusedLooksChangeNothing() {
        DocTrees x = Scene.few();
        int[] odd = {MIN, -1, 2, 4, 8, 40, 80, MAX};
        for (int value : odd) {
            x.winner(value, 0);
            x.winner(0, value);
            x.conflicts(value, 0);
            x.conflicts(0, value);
            x.conflict(0, 0, value);
            x.conflict(value, value, value);
            x.leaves(value, 0);
            x.leaves(0, value);
            x.readable(value, 0);
            x.readable(0, value);
            x.body(value, 0);
            x.body(0, value);
            x.depth(value);
            x.common(value, 0);
            x.common(0, value);
            x.changes(value);
        }
        String untouched = Scene.view(Scene.few(), Scene.FEW);
        due.holds("the view is as it was", Scene.view(x, Scene.FEW).equals(untouched));
        due.is("the next number", x.put(1, 3, -1, 1), Scene.FEW);
    }

    private static void badSiteFirst() {
        for (int site : Scene.BAD_SITES) {
            for (int doc : Scene.BAD_DOCS) {
                DocTrees x = Scene.few();
                String at = " at " + site + " of " + doc;
                due.is("winner" + at, x.winner(site, doc), DocTrees.BAD_SITE);
                due.is("conflicts" + at, x.conflicts(site, doc), DocTrees.BAD_SITE);
                due.is("conflict" + at, x.conflict(site, doc, -1), DocTrees.BAD_SITE);
                due.is("leaves" + at, x.leaves(site, doc), DocTrees.BAD_SITE);
                due.is("pull" + at, x.pull(site, doc), DocTrees.BAD_SITE);
            }
        }
    }

    private static void thenBadDoc() {
        for (int doc : Scene.BAD_DOCS) {
            DocTrees x = Scene.few();
            for (int site = 0; site < 2; site++) {
                String at = " at " + site + " of " + doc;
                due.is("winner" + at, x.winner(site, doc), DocTrees.BAD_DOC);
                due.is("conflicts" + at, x.conflicts(site, doc), DocTrees.BAD_DOC);
                due.is("conflict" + at, x.conflict(site, doc, -1), DocTrees.BAD_DOC);
                due.is("leaves" + at, x.leaves(site, doc), DocTrees.BAD_DOC);
                due.is("pull" + at, x.pull(site, doc), DocTrees.BAD_DOC);
            }
        }
    }
}
