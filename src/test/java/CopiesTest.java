/** Promises 5 and 6: a test for each sentence that names a boundary case of pull or compact. */
public final class CopiesTest {
    private static final Due due = new Due();

    public static void main(String[] args) {
        due.sentence("pull: The site gets all revisions of a document", CopiesTest::pullAll);
        due.sentence("pull: of a document", CopiesTest::pullOneDocument);
        due.sentence("pull: that the other site has", CopiesTest::pullFromTheOtherSite);
        due.sentence("pull: that the other site has", CopiesTest::pullNothing);
        due.sentence("pull: those readable at the other site are readable here",
                CopiesTest::pullReadable);
        due.sentence("pull: the others not", CopiesTest::pullForgotten);
        due.sentence("pull: nothing changes for revisions that it has already",
                CopiesTest::pullKeepsForgotten);
        due.sentence("pull: nothing changes for revisions that it has already",
                CopiesTest::pullKeepsReadable);
        due.sentence("pull: BAD_SITE", CopiesTest::pullBadSite);
        due.sentence("pull: BAD_DOC", CopiesTest::pullBadDoc);
        due.sentence("pull: BAD_SITE; BAD_DOC", CopiesTest::refusedPullChangesNothing);
        due.sentence("pull: answers how many revisions it got", CopiesTest::pullCount);
        due.sentence("compact: of all documents", CopiesTest::compactAllDocuments);
        due.sentence("compact: that are no leaves there", CopiesTest::compactNoLeaves);
        due.sentence("compact: that are no leaves there", CopiesTest::compactPerSite);
        due.sentence("compact: all revisions", CopiesTest::compactDeletions);
        due.sentence("compact: BAD_SITE", CopiesTest::compactBadSite);
        due.sentence("compact: answers how many bodies were forgotten by this",
                CopiesTest::compactCount);
        due.sentence("compact: forgotten by this", CopiesTest::compactAgain);
        due.sentence("compact: forgotten by this", CopiesTest::compactPulled);
        due.end();
    }

    private static void pullAll() {
        DocTrees x = Scene.chain(40);
        due.is("forty at once", x.pull(1, 0), 40);
        due.is("the leaf", x.winner(1, 0), 39);
        due.is("one leaf", x.leaves(1, 0), 1);
        due.is("all forty", x.changes(1), 40);
        DocTrees y = Scene.fan(40);
        due.is("a fan of forty", y.pull(1, 0), 40);
        due.is("all leaves", y.leaves(1, 0), 39);
        DocTrees z = Scene.few();
        due.is("a deletion and what is above it", z.pull(1, 1), 2);
        due.is("the deletion wins there too", z.winner(1, 1), 5);
    }

    private static void pullOneDocument() {
        DocTrees x = new DocTrees();
        for (int doc = 0; doc < 4; doc++) {
            x.put(0, doc, -1, doc);
        }
        due.is("of document 3", x.pull(1, 3), 1);
        due.is("not of 0", x.winner(1, 0), DocTrees.NO_REVISION);
        due.is("not of 2", x.winner(1, 2), DocTrees.NO_REVISION);
        due.is("but of 3", x.winner(1, 3), 3);
        due.is("of document 0", x.pull(1, 0), 1);
        due.is("but of 0", x.winner(1, 0), 0);
        due.is("still not of 1", x.winner(1, 1), DocTrees.NO_REVISION);
    }

    private static void pullFromTheOtherSite() {
        DocTrees x = Scene.few();
        due.is("site 0 gets one", x.pull(0, 0), 1);
        due.is("it has 3 now", x.readable(0, 3), true);
        due.is("site 1 got none by that", x.changes(1), 2);
        due.is("site 1 gets three", x.pull(1, 0), 3);
        due.is("both have the same", x.leaves(0, 0), 3);
        due.is("the other too", x.leaves(1, 0), 3);
    }

    private static void pullNothing() {
        DocTrees x = new DocTrees();
        due.is("of a new object", x.pull(0, 0), 0);
        x.put(0, 0, -1, 1);
        due.is("the other site has none", x.pull(0, 0), 0);
        due.is("the other site has one", x.pull(1, 0), 1);
        due.is("both have all", x.pull(1, 0), 0);
        due.is("both have all, the other way", x.pull(0, 0), 0);
        due.is("changes stay", x.changes(1), 1);
    }

    private static void pullReadable() {
        DocTrees x = Scene.chain(3);
        x.pull(1, 0);
        for (int revision = 0; revision < 3; revision++) {
            due.is("readable " + revision, x.readable(1, revision), true);
            due.is("body of " + revision, x.body(1, revision), 100 + revision);
        }
        DocTrees y = Scene.chain(2);
        y.compact(0);
        y.put(0, 0, 1, 5);
        y.pull(1, 0);
        due.is("no leaf, but readable there", y.body(1, 1), 101);
    }

    private static void pullForgotten() {
        DocTrees x = Scene.chain(3);
        x.compact(0);
        due.is("pull", x.pull(1, 0), 3);
        due.is("forgotten there", x.readable(1, 0), false);
        due.is("forgotten there too", x.readable(1, 1), false);
        due.is("no body", x.body(1, 1), 0);
        due.is("the leaf", x.readable(1, 2), true);
        due.is("had though not readable", x.branch(1, 0, 0, 9), 3);
    }

    private static void pullKeepsForgotten() {
        DocTrees x = Scene.chain(2);
        x.pull(1, 0);
        x.compact(0);
        x.put(1, 0, 1, 9);
        due.is("pull of a child", x.pull(0, 0), 1);
        due.is("forgotten before", x.readable(0, 0), false);
        due.is("its body", x.body(0, 0), 0);
        due.is("readable before", x.body(0, 1), 101);
        due.is("the child", x.body(0, 2), 9);
    }

    private static void pullKeepsReadable() {
        DocTrees x = Scene.chain(2);
        x.pull(1, 0);
        x.put(1, 0, 1, 9);
        x.compact(1);
        due.is("pull of a child", x.pull(0, 0), 1);
        due.is("forgotten there, readable here", x.body(0, 0), 100);
        due.is("forgotten there, the later one", x.body(0, 1), 101);
        due.is("and not there", x.readable(1, 1), false);
    }

    private static void pullBadSite() {
        for (int site : Scene.BAD_SITES) {
            due.is("at " + site, Scene.few().pull(site, 0), DocTrees.BAD_SITE);
        }
        due.is("at 0", Scene.few().pull(0, 0), 1);
        due.is("at 1", Scene.few().pull(1, 0), 3);
    }

    private static void pullBadDoc() {
        for (int doc : Scene.BAD_DOCS) {
            due.is("of " + doc, Scene.few().pull(0, doc), DocTrees.BAD_DOC);
        }
        due.is("of 0", Scene.few().pull(0, 0), 1);
        due.is("of 3", Scene.few().pull(0, 3), 0);
        for (int doc : Scene.BAD_DOCS) {
            due.is("bad site first", Scene.few().pull(2, doc), DocTrees.BAD_SITE);
        }
    }

    private static void refusedPullChangesNothing() {
        DocTrees x = Scene.few();
        for (int odd : Scene.BAD_SITES) {
            x.pull(odd, 0);
        }
        for (int odd : Scene.BAD_DOCS) {
            x.pull(0, odd);
            x.pull(1, odd);
        }
        String untouched = Scene.view(Scene.few(), Scene.FEW);
        due.holds("as before", Scene.view(x, Scene.FEW).equals(untouched));
    }

    private static void pullCount() {
        DocTrees x = new DocTrees();
        x.put(0, 0, -1, 1);
        due.is("one", x.pull(1, 0), 1);
        x.branch(0, 0, 0, 1);
        x.delete(0, 0, 1);
        x.put(0, 0, -1, 1);
        due.is("the three more", x.pull(1, 0), 3);
        x.branch(1, 0, 0, 1);
        due.is("none, though the site itself has one more", x.pull(1, 0), 0);
        due.is("that one, at the other site", x.pull(0, 0), 1);
    }

    private static void compactAllDocuments() {
        DocTrees x = new DocTrees();
        for (int doc = 0; doc < 4; doc++) {
            x.put(0, doc, -1, 1 + doc);
            x.put(0, doc, 2 * doc, 11 + doc);
        }
        due.is("compact", x.compact(0), 4);
        for (int doc = 0; doc < 4; doc++) {
            due.is("the first of " + doc, x.readable(0, 2 * doc), false);
            due.is("the leaf of " + doc, x.body(0, 2 * doc + 1), 11 + doc);
        }
    }

    private static void compactNoLeaves() {
        DocTrees x = Scene.chain(40);
        due.is("all but the leaf", x.compact(0), 39);
        due.is("the one above the leaf", x.readable(0, 38), false);
        due.is("the leaf", x.body(0, 39), 139);
        DocTrees y = Scene.fan(40);
        due.is("the first alone", y.compact(0), 1);
        due.is("the first", y.readable(0, 0), false);
        due.is("a leaf that doesn't win", y.body(0, 1), 101);
        due.is("the leaf that wins", y.body(0, 39), 139);
        DocTrees z = Scene.chain(1);
        due.is("a leaf alone", z.compact(0), 0);
        due.is("its body stays", z.body(0, 0), 100);
    }

    private static void compactPerSite() {
        DocTrees x = Scene.few();
        due.is("6 is a leaf at site 1", x.compact(1), 0);
        due.is("its body stays there", x.body(1, 6), 76);
        due.is("6 is none at site 0", x.compact(0), 1);
        due.is("its body is gone there", x.body(0, 6), 0);
        due.is("and stays at site 1", x.body(1, 6), 76);
    }

    private static void compactDeletions() {
        DocTrees x = new DocTrees();
        x.put(0, 0, -1, 5);
        x.delete(0, 0, 0);
        due.is("a deletion that is a leaf stays", x.compact(0), 1);
        due.is("it is readable", x.readable(0, 1), true);
        x.put(0, 0, -1, 6);
        due.is("a deletion that is none is forgotten", x.compact(0), 1);
        due.is("it isn't readable", x.readable(0, 1), false);
    }

    private static void compactBadSite() {
        for (int site : Scene.BAD_SITES) {
            DocTrees x = Scene.few();
            due.is("at " + site, x.compact(site), DocTrees.BAD_SITE);
            due.is("nothing is forgotten", x.readable(0, 6), true);
            due.is("at 0 after that", x.compact(0), 1);
        }
        due.is("at 1", Scene.few().compact(1), 0);
    }

    private static void compactCount() {
        due.is("of a new object", new DocTrees().compact(0), 0);
        due.is("of a new object, site 1", new DocTrees().compact(1), 0);
        due.is("of one", Scene.chain(1).compact(0), 0);
        due.is("of two", Scene.chain(2).compact(0), 1);
        due.is("of two at the other site", Scene.chain(2).compact(1), 0);
        DocTrees x = new DocTrees();
        x.put(0, 0, -1, 0);
        x.put(0, 0, 0, 1);
        due.is("a body 0 counts", x.compact(0), 1);
    }

    private static void compactAgain() {
        DocTrees x = Scene.chain(3);
        due.is("two", x.compact(0), 2);
        due.is("none again", x.compact(0), 0);
        x.put(0, 0, 2, 5);
        due.is("the one that is no leaf any more", x.compact(0), 1);
        x.branch(0, 0, 0, 5);
        due.is("no other by a branch below a forgotten one", x.compact(0), 0);
    }

    private static void compactPulled() {
        DocTrees x = Scene.chain(2);
        x.compact(0);
        x.put(0, 0, 1, 5);
        x.pull(1, 0);
        due.is("what came readable, not what came forgotten", x.compact(1), 1);
        due.is("none again", x.compact(1), 0);
        due.is("at the other site still", x.compact(0), 1);
    }
}
