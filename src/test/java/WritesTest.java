import java.util.function.Supplier;
import java.util.function.ToIntFunction;

/** Promises 2, 3, 4 and 16: a test for each sentence that names a boundary case of a write. */
public final class WritesTest {
    private static final int MIN = Scene.MIN;
    private static final int MAX = Scene.MAX;
    /** No revision of the scene bears one of these numbers. */
    private static final int[] NUMBERS_OF_NONE = {-2, -5, Scene.FEW, 39, 40, 41, 48, MIN, MAX};

    private static final Due due = new Due();

    public static void main(String[] args) {
        put();
        delete();
        branch();
        orderAndLimits();
        due.end();
    }

    private static void put() {
        due.sentence("put: site not 0 or 1: BAD_SITE", WritesTest::putBadSite);
        due.sentence("put: doc not in 0 to 3: BAD_DOC", WritesTest::putBadDoc);
        due.sentence("put: there are forty revisions: FULL", WritesTest::putFull);
        due.sentence("put: If parent is -1: the document is live there: CONFLICT",
                WritesTest::putOnLive);
        due.sentence("put: live there", WritesTest::putOnLiveAtOneSite);
        due.sentence("put: the new revision's parent is the winner if there is one (a deletion)",
                WritesTest::putOnDeleted);
        due.sentence("put: the parent is the winner", WritesTest::putOnTheBestDeletion);
        due.sentence("put: otherwise none", WritesTest::putOnNothing);
        due.sentence("put: it has to be a leaf", WritesTest::putBelowLeafOrNot);
        due.sentence("put: of this document", WritesTest::putBelowAnotherDocument);
        due.sentence("put: that the site has", WritesTest::putBelowWhatTheSiteLacks);
        due.sentence("put: that the site has", WritesTest::putBelowNumbersOfNone);
        due.sentence("put: open or not", WritesTest::putBelowDeletion);
        due.sentence("put: A refused call changes nothing.", WritesTest::putRefused);
        due.sentence("put: Else the site has the new revision; answers its number.",
                WritesTest::putAtTheSiteAlone);
    }

    private static void delete() {
        due.sentence("delete: Writes a deletion, with the body 0", WritesTest::deleteBody);
        due.sentence("delete: below an open leaf", WritesTest::deleteBelowOpenLeafAlone);
        due.sentence("delete: BAD_SITE", WritesTest::deleteBadSite);
        due.sentence("delete: BAD_DOC", WritesTest::deleteBadDoc);
        due.sentence("delete: FULL", WritesTest::deleteFull);
        due.sentence("delete: of this document", WritesTest::deleteBelowAnotherDocument);
        due.sentence("delete: that the site has", WritesTest::deleteBelowWhatTheSiteLacks);
        due.sentence("delete: that the site has", WritesTest::deleteBelowNumbersOfNone);
        due.sentence("delete: nothing changes then", WritesTest::deleteRefused);
    }

    private static void branch() {
        due.sentence("branch: below any revision, leaf or not", WritesTest::branchBelowAny);
        due.sentence("branch: BAD_SITE", WritesTest::branchBadSite);
        due.sentence("branch: BAD_DOC", WritesTest::branchBadDoc);
        due.sentence("branch: FULL", WritesTest::branchFull);
        due.sentence("branch: the site doesn't have it", WritesTest::branchBelowWhatTheSiteLacks);
        due.sentence("branch: the site doesn't have it", WritesTest::branchBelowNumbersOfNone);
        due.sentence("branch: or it is of another document", WritesTest::branchBelowAnother);
        due.sentence("branch: nothing changes then", WritesTest::branchRefused);
    }

    private static void orderAndLimits() {
        due.sentence("tested in the order in which they are named: BAD_SITE before BAD_DOC",
                WritesTest::badSiteBeforeBadDoc);
        due.sentence("tested in the order: BAD_SITE before FULL", WritesTest::badSiteBeforeFull);
        due.sentence("tested in the order: BAD_DOC before FULL", WritesTest::badDocBeforeFull);
        due.sentence("tested in the order: BAD_SITE before the last",
                WritesTest::badSiteBeforeLast);
        due.sentence("tested in the order: BAD_DOC before the last", WritesTest::badDocBeforeLast);
        due.sentence("FULL before CONFLICT", WritesTest::fullBeforeConflict);
        due.sentence("FULL before NO_REVISION", WritesTest::fullBeforeNoRevision);
        due.sentence("with one revision less, CONFLICT and NO_REVISION",
                WritesTest::notFullAtThirtyNine);
    }

    /** The call answers so, and the store then is as one on which it was never called. */
    private static void refused(String call, Supplier<DocTrees> scene, int revisions,
            ToIntFunction<DocTrees> asked, int want) {
        DocTrees x = scene.get();
        DocTrees twin = scene.get();
        due.is(call, asked.applyAsInt(x), want);
        due.holds(call + " changes nothing",
                Scene.view(x, revisions).equals(Scene.view(twin, revisions)));
        due.is(call + ", the next number", x.put(1, 3, -1, 9), twin.put(1, 3, -1, 9));
    }

    private static void refused(String call, ToIntFunction<DocTrees> asked, int want) {
        refused(call, Scene::few, Scene.FEW, asked, want);
    }

    private static void refusedWhenFull(String call, ToIntFunction<DocTrees> asked, int want) {
        refused(call + " when full", Scene::full, Scene.MOST, asked, want);
    }

    private static void putBadSite() {
        for (int site : Scene.BAD_SITES) {
            DocTrees x = Scene.few();
            due.is("without parent at " + site, x.put(site, 3, -1, 1), DocTrees.BAD_SITE);
            due.is("below a leaf at " + site, x.put(site, 0, 1, 1), DocTrees.BAD_SITE);
        }
        due.is("at 0", Scene.few().put(0, 3, -1, 1), Scene.FEW);
        due.is("at 1", Scene.few().put(1, 3, -1, 1), Scene.FEW);
    }

    private static void putBadDoc() {
        for (int doc : Scene.BAD_DOCS) {
            DocTrees x = Scene.few();
            due.is("without parent of " + doc, x.put(1, doc, -1, 1), DocTrees.BAD_DOC);
            due.is("below a leaf of " + doc, x.put(0, doc, 1, 1), DocTrees.BAD_DOC);
        }
        due.is("of 0", new DocTrees().put(0, 0, -1, 1), 0);
        due.is("of 3", new DocTrees().put(0, 3, -1, 1), 0);
    }

    private static void putFull() {
        DocTrees x = Scene.filledUpTo(39);
        due.is("the fortieth, without parent", x.put(1, 3, -1, 1), 39);
        due.is("a forty-first, without parent", x.put(0, 3, -1, 1), DocTrees.FULL);
        due.is("a forty-first, below a leaf", x.put(1, 3, 39, 1), DocTrees.FULL);
        DocTrees y = Scene.filledUpTo(39);
        due.is("the fortieth, below a leaf", y.put(0, 0, 1, 1), 39);
        due.is("a forty-first, below it", y.put(0, 0, 39, 1), DocTrees.FULL);
        DocTrees z = Scene.filledUpTo(39);
        due.is("the fortieth, below the winning deletion", z.put(0, 1, -1, 1), 39);
        DocTrees full = Scene.full();
        due.is("a forty-first, below the winning deletion", full.put(0, 1, -1, 1), DocTrees.FULL);
    }

    private static void putOnLive() {
        DocTrees x = new DocTrees();
        due.is("on none", x.put(0, 0, -1, 1), 0);
        due.is("on one that is open", x.put(0, 0, -1, 1), DocTrees.CONFLICT);
        x.branch(0, 0, 0, 1);
        x.branch(0, 0, 0, 2);
        due.is("with two open leaves", x.put(0, 0, -1, 1), DocTrees.CONFLICT);
        x.delete(0, 0, 2);
        due.is("with one open leaf and a deeper deletion", x.put(0, 0, -1, 1), DocTrees.CONFLICT);
        x.delete(0, 0, 1);
        due.is("with deletions alone", x.put(0, 0, -1, 1), 5);
        due.is("live again", x.put(0, 0, -1, 1), DocTrees.CONFLICT);
    }

    private static void putOnLiveAtOneSite() {
        DocTrees x = new DocTrees();
        x.put(0, 0, -1, 1);
        due.is("live at the other site alone", x.put(1, 0, -1, 1), 1);
        due.is("live here", x.put(1, 0, -1, 1), DocTrees.CONFLICT);
        due.is("another document is not live", x.put(0, 1, -1, 1), 2);
        x.delete(0, 0, 0);
        due.is("deleted at the other site alone", x.put(1, 0, -1, 1), DocTrees.CONFLICT);
        x.pull(0, 0);
        due.is("live by a pull", x.put(0, 0, -1, 1), DocTrees.CONFLICT);
    }

    private static void putOnDeleted() {
        DocTrees x = new DocTrees();
        x.put(0, 0, -1, 1);
        x.delete(0, 0, 0);
        due.is("put", x.put(0, 0, -1, 7), 2);
        due.is("its depth", x.depth(2), 3);
        due.is("its parent", x.common(2, 1), 1);
        due.is("the deletion is no leaf any more", x.leaves(0, 0), 1);
        due.is("the winner", x.winner(0, 0), 2);
        x.delete(0, 0, 2);
        x.pull(1, 0);
        due.is("put on a pulled deletion", x.put(1, 0, -1, 7), 4);
        due.is("its depth at site 1", x.depth(4), 5);
    }

    private static void putOnTheBestDeletion() {
        DocTrees x = Scene.fan(4);
        x.put(0, 0, 2, 1);
        x.delete(0, 0, 4);
        x.delete(0, 0, 1);
        x.delete(0, 0, 3);
        due.is("put below the deepest", x.put(0, 0, -1, 1), 8);
        due.is("its parent is the deepest", x.common(8, 5), 5);
        due.is("its depth", x.depth(8), 5);
        DocTrees y = Scene.fan(3);
        y.delete(0, 0, 2);
        y.delete(0, 0, 1);
        due.is("put below the latest of the equally deep", y.put(0, 0, -1, 1), 5);
        due.is("its parent is the latest", y.common(5, 4), 4);
        due.is("the other deletion stays a leaf", y.leaves(0, 0), 2);
    }

    private static void putOnNothing() {
        DocTrees x = new DocTrees();
        x.put(0, 0, -1, 1);
        x.delete(0, 0, 0);
        due.is("none at this site though one at the other", x.put(1, 0, -1, 1), 2);
        due.is("its depth", x.depth(2), 1);
        due.is("no way up to the other site's", x.common(2, 1), DocTrees.NO_REVISION);
        due.is("none of this document", x.put(0, 1, -1, 1), 3);
        due.is("its depth too", x.depth(3), 1);
        due.is("no way up to the other document's", x.common(3, 1), DocTrees.NO_REVISION);
    }

    private static void putBelowLeafOrNot() {
        DocTrees x = Scene.few();
        due.is("below what is no leaf", x.put(0, 0, 0, 1), DocTrees.CONFLICT);
        due.is("below a leaf that doesn't win", x.put(0, 0, 1, 5), 8);
        due.is("its depth", x.depth(8), 3);
        due.is("its parent", x.common(8, 1), 1);
        due.is("no leaf any more", x.put(0, 0, 1, 5), DocTrees.CONFLICT);
        due.is("below another leaf", x.put(0, 0, 2, 5), 9);
        due.is("below the first though all is deleted", x.put(0, 1, 4, 5), DocTrees.CONFLICT);
        due.is("leaves stay as many", x.leaves(0, 0), 2);
    }

    private static void putBelowAnotherDocument() {
        DocTrees x = Scene.few();
        due.is("an open leaf of document 2", x.put(0, 0, 7, 1), DocTrees.CONFLICT);
        due.is("a deletion of document 1", x.put(0, 0, 5, 1), DocTrees.CONFLICT);
        due.is("an open leaf of document 0", x.put(0, 3, 2, 1), DocTrees.CONFLICT);
        due.is("its own document", x.put(0, 2, 7, 1), 8);
    }

    private static void putBelowWhatTheSiteLacks() {
        DocTrees x = Scene.few();
        due.is("a leaf of site 1 alone", x.put(0, 0, 3, 1), DocTrees.CONFLICT);
        due.is("a leaf of site 0 alone", x.put(1, 2, 7, 1), DocTrees.CONFLICT);
        due.is("a leaf at site 1, not at site 0", x.put(1, 2, 6, 1), 8);
        due.is("at site 0 it is none", x.put(0, 2, 6, 1), DocTrees.CONFLICT);
        x.pull(0, 0);
        due.is("a pulled leaf", x.put(0, 0, 3, 1), 9);
    }

    private static void putBelowNumbersOfNone() {
        for (int parent : NUMBERS_OF_NONE) {
            DocTrees x = Scene.few();
            due.is("below " + parent, x.put(0, 0, parent, 1), DocTrees.CONFLICT);
            due.is("at site 1 below " + parent, x.put(1, 0, parent, 1), DocTrees.CONFLICT);
            due.is("of a deleted one below " + parent, x.put(0, 1, parent, 1), DocTrees.CONFLICT);
            due.is("of nothing below " + parent, x.put(1, 3, parent, 1), DocTrees.CONFLICT);
        }
        due.is("below 0 in a new object", new DocTrees().put(0, 0, 0, 1), DocTrees.CONFLICT);
        due.is("below the last", Scene.few().put(0, 2, Scene.FEW - 1, 1), Scene.FEW);
    }

    private static void putBelowDeletion() {
        DocTrees x = Scene.few();
        due.is("below the winning deletion", x.put(0, 1, 5, 1), 8);
        due.is("its depth", x.depth(8), 3);
        DocTrees y = Scene.fan(3);
        y.delete(0, 0, 1);
        due.is("below a deletion of a live one", y.put(0, 0, 3, 1), 4);
        due.is("its parent", y.common(4, 3), 3);
        due.is("the deletion is no leaf any more", y.put(0, 0, 3, 1), DocTrees.CONFLICT);
    }

    private static void putRefused() {
        refused("put at site -1", x -> x.put(-1, 3, -1, 1), DocTrees.BAD_SITE);
        refused("put at site 2", x -> x.put(2, 3, -1, 1), DocTrees.BAD_SITE);
        refused("put of document -1", x -> x.put(0, -1, -1, 1), DocTrees.BAD_DOC);
        refused("put of document 4", x -> x.put(0, 4, -1, 1), DocTrees.BAD_DOC);
        refused("put on a live one", x -> x.put(0, 0, -1, 1), DocTrees.CONFLICT);
        refused("put below no leaf", x -> x.put(0, 0, 0, 1), DocTrees.CONFLICT);
        refused("put below another's", x -> x.put(0, 0, 7, 1), DocTrees.CONFLICT);
        refused("put below site 1's", x -> x.put(0, 0, 3, 1), DocTrees.CONFLICT);
        refused("put below 8", x -> x.put(0, 0, 8, 1), DocTrees.CONFLICT);
        refusedWhenFull("put", x -> x.put(0, 3, -1, 1), DocTrees.FULL);
        refusedWhenFull("put below a leaf", x -> x.put(0, 0, 1, 1), DocTrees.FULL);
        refusedWhenFull("put below a deletion", x -> x.put(0, 1, -1, 1), DocTrees.FULL);
    }

    private static void putAtTheSiteAlone() {
        for (int site = 0; site < 2; site++) {
            DocTrees x = Scene.few();
            due.is("put", x.put(site, 3, -1, 5), Scene.FEW);
            due.is("the site has it", x.winner(site, 3), Scene.FEW);
            due.is("and reads it", x.body(site, Scene.FEW), 5);
            due.is("the other has not", x.winner(1 - site, 3), DocTrees.NO_REVISION);
            due.is("and doesn't read it", x.readable(1 - site, Scene.FEW), false);
        }
    }

    private static void deleteBody() {
        int[] bodies = {MIN, -1, 1, MAX};
        for (int body : bodies) {
            DocTrees x = new DocTrees();
            x.put(0, 0, -1, body);
            due.is("delete", x.delete(0, 0, 0), 1);
            due.is("its body", x.body(0, 1), 0);
            due.is("it is readable", x.readable(0, 1), true);
            due.is("the body above it stays", x.body(0, 0), body);
            due.is("its depth", x.depth(1), 2);
            due.is("its parent", x.common(0, 1), 0);
            due.is("it is a deletion", x.conflicts(0, 0), 0);
            due.is("the document is not live", x.put(0, 0, -1, 1), 2);
        }
    }

    private static void deleteBelowOpenLeafAlone() {
        DocTrees x = Scene.few();
        due.is("below what is no leaf", x.delete(0, 0, 0), DocTrees.CONFLICT);
        due.is("below a leaf that doesn't win", x.delete(0, 0, 1), 8);
        due.is("below the winner", x.delete(0, 0, 2), 9);
        due.is("below a deletion", x.delete(0, 0, 9), DocTrees.CONFLICT);
        due.is("below what the deletion closed", x.delete(0, 0, 2), DocTrees.CONFLICT);
        due.is("below none, live", x.delete(0, 2, -1), DocTrees.CONFLICT);
        due.is("below none, deleted", x.delete(0, 1, -1), DocTrees.CONFLICT);
        due.is("below none, nothing there", x.delete(0, 3, -1), DocTrees.CONFLICT);
    }

    private static void deleteBadSite() {
        for (int site : Scene.BAD_SITES) {
            due.is("at " + site, Scene.few().delete(site, 0, 1), DocTrees.BAD_SITE);
        }
        due.is("at 0", Scene.few().delete(0, 0, 1), Scene.FEW);
        due.is("at 1", Scene.few().delete(1, 0, 3), Scene.FEW);
    }

    private static void deleteBadDoc() {
        for (int doc : Scene.BAD_DOCS) {
            due.is("of " + doc, Scene.few().delete(0, doc, 1), DocTrees.BAD_DOC);
        }
        due.is("of 0", Scene.few().delete(0, 0, 1), Scene.FEW);
        DocTrees x = new DocTrees();
        x.put(0, 3, -1, 1);
        due.is("of 3", x.delete(0, 3, 0), 1);
    }

    private static void deleteFull() {
        DocTrees x = Scene.filledUpTo(39);
        due.is("the fortieth", x.delete(0, 0, 1), 39);
        due.is("a forty-first", x.delete(0, 0, 2), DocTrees.FULL);
        due.is("the fortieth is a deletion", x.depth(39), 3);
        due.is("the forty-first is none", x.winner(0, 0), 2);
    }

    private static void deleteBelowAnotherDocument() {
        DocTrees x = Scene.few();
        due.is("an open leaf of document 2", x.delete(0, 0, 7), DocTrees.CONFLICT);
        due.is("an open leaf of document 0", x.delete(0, 2, 1), DocTrees.CONFLICT);
        due.is("its own document", x.delete(0, 2, 7), 8);
    }

    private static void deleteBelowWhatTheSiteLacks() {
        DocTrees x = Scene.few();
        due.is("a leaf of site 1 alone", x.delete(0, 0, 3), DocTrees.CONFLICT);
        due.is("a leaf of site 0 alone", x.delete(1, 2, 7), DocTrees.CONFLICT);
        due.is("a leaf at site 1, not at site 0", x.delete(1, 2, 6), 8);
        due.is("at site 0 it is none", x.delete(0, 2, 6), DocTrees.CONFLICT);
        x.pull(0, 0);
        due.is("a pulled leaf", x.delete(0, 0, 3), 9);
    }

    private static void deleteBelowNumbersOfNone() {
        for (int parent : NUMBERS_OF_NONE) {
            DocTrees x = Scene.few();
            due.is("below " + parent, x.delete(0, 0, parent), DocTrees.CONFLICT);
            due.is("at site 1 below " + parent, x.delete(1, 0, parent), DocTrees.CONFLICT);
            due.is("of nothing below " + parent, x.delete(1, 3, parent), DocTrees.CONFLICT);
        }
        due.is("below 0 in a new object", new DocTrees().delete(0, 0, 0), DocTrees.CONFLICT);
        due.is("below the last", Scene.few().delete(0, 2, Scene.FEW - 1), Scene.FEW);
    }

    private static void deleteRefused() {
        refused("delete at site -1", x -> x.delete(-1, 0, 1), DocTrees.BAD_SITE);
        refused("delete at site 2", x -> x.delete(2, 0, 1), DocTrees.BAD_SITE);
        refused("delete of document -1", x -> x.delete(0, -1, 1), DocTrees.BAD_DOC);
        refused("delete of document 4", x -> x.delete(0, 4, 1), DocTrees.BAD_DOC);
        refused("delete below none", x -> x.delete(0, 0, -1), DocTrees.CONFLICT);
        refused("delete below no leaf", x -> x.delete(0, 0, 0), DocTrees.CONFLICT);
        refused("delete below a deletion", x -> x.delete(0, 1, 5), DocTrees.CONFLICT);
        refused("delete below another's", x -> x.delete(0, 0, 7), DocTrees.CONFLICT);
        refused("delete below site 1's", x -> x.delete(0, 0, 3), DocTrees.CONFLICT);
        refused("delete below 8", x -> x.delete(0, 0, 8), DocTrees.CONFLICT);
        refusedWhenFull("delete", x -> x.delete(0, 0, 1), DocTrees.FULL);
    }

    private static void branchBelowAny() {
        DocTrees x = Scene.few();
        due.is("below what is no leaf, its body forgotten", x.branch(0, 0, 0, 5), 8);
        due.is("one leaf more", x.leaves(0, 0), 3);
        due.is("its depth", x.depth(8), 2);
        due.is("below a leaf", x.branch(0, 0, 1, 5), 9);
        due.is("as many leaves", x.leaves(0, 0), 3);
        due.is("below a deletion", x.branch(0, 1, 5, 5), 10);
        due.is("below a deletion that is no leaf", x.branch(0, 1, 5, 6), 11);
        due.is("two leaves", x.leaves(0, 1), 2);
        due.is("below what the deletion is below", x.branch(0, 1, 4, 7), 12);
        due.is("its depth, above the deletion's", x.depth(12), 2);
        due.is("below what was pulled", x.branch(1, 2, 6, 8), 13);
        due.is("its body", x.body(1, 13), 8);
        due.is("at its site alone", x.readable(0, 13), false);
    }

    private static void branchBadSite() {
        for (int site : Scene.BAD_SITES) {
            due.is("at " + site, Scene.few().branch(site, 0, 1, 1), DocTrees.BAD_SITE);
        }
        due.is("at 0", Scene.few().branch(0, 0, 1, 1), Scene.FEW);
        due.is("at 1", Scene.few().branch(1, 0, 3, 1), Scene.FEW);
    }

    private static void branchBadDoc() {
        for (int doc : Scene.BAD_DOCS) {
            due.is("of " + doc, Scene.few().branch(0, doc, 1, 1), DocTrees.BAD_DOC);
        }
        due.is("of 0", Scene.few().branch(0, 0, 1, 1), Scene.FEW);
        DocTrees x = new DocTrees();
        x.put(0, 3, -1, 1);
        due.is("of 3", x.branch(0, 3, 0, 1), 1);
    }

    private static void branchFull() {
        DocTrees x = Scene.filledUpTo(39);
        due.is("the fortieth", x.branch(0, 0, 0, 1), 39);
        due.is("a forty-first", x.branch(0, 0, 0, 1), DocTrees.FULL);
        due.is("a forty-first below the last", x.branch(0, 0, 39, 1), DocTrees.FULL);
    }

    private static void branchBelowWhatTheSiteLacks() {
        DocTrees x = Scene.few();
        due.is("of site 1 alone", x.branch(0, 0, 3, 1), DocTrees.NO_REVISION);
        due.is("of site 0 alone, a leaf", x.branch(1, 2, 7, 1), DocTrees.NO_REVISION);
        due.is("of site 0 alone, no leaf", x.branch(1, 0, 0, 1), DocTrees.NO_REVISION);
        due.is("of both", x.branch(1, 2, 6, 1), 8);
        x.pull(0, 0);
        due.is("of site 1 once pulled", x.branch(0, 0, 3, 1), 9);
    }

    private static void branchBelowNumbersOfNone() {
        for (int parent : NUMBERS_OF_NONE) {
            DocTrees x = Scene.few();
            due.is("below " + parent, x.branch(0, 0, parent, 1), DocTrees.NO_REVISION);
            due.is("at site 1 below " + parent, x.branch(1, 0, parent, 1), DocTrees.NO_REVISION);
        }
        DocTrees y = Scene.few();
        due.is("below -1, live", y.branch(0, 0, -1, 1), DocTrees.NO_REVISION);
        due.is("below -1, deleted", y.branch(0, 1, -1, 1), DocTrees.NO_REVISION);
        due.is("below -1, nothing there", y.branch(0, 3, -1, 1), DocTrees.NO_REVISION);
        due.is("below 0 in a new object", new DocTrees().branch(0, 0, 0, 1), DocTrees.NO_REVISION);
        due.is("below the last", Scene.few().branch(0, 2, Scene.FEW - 1, 1), Scene.FEW);
    }

    private static void branchBelowAnother() {
        DocTrees x = Scene.few();
        due.is("document 2's", x.branch(0, 0, 7, 1), DocTrees.NO_REVISION);
        due.is("document 1's", x.branch(0, 0, 5, 1), DocTrees.NO_REVISION);
        due.is("document 0's", x.branch(0, 3, 0, 1), DocTrees.NO_REVISION);
        due.is("its own", x.branch(0, 1, 4, 1), 8);
    }

    private static void branchRefused() {
        refused("branch at site -1", x -> x.branch(-1, 0, 1, 1), DocTrees.BAD_SITE);
        refused("branch at site 2", x -> x.branch(2, 0, 1, 1), DocTrees.BAD_SITE);
        refused("branch of document -1", x -> x.branch(0, -1, 1, 1), DocTrees.BAD_DOC);
        refused("branch of document 4", x -> x.branch(0, 4, 1, 1), DocTrees.BAD_DOC);
        refused("branch below none", x -> x.branch(0, 0, -1, 1), DocTrees.NO_REVISION);
        refused("branch below another's", x -> x.branch(0, 0, 7, 1), DocTrees.NO_REVISION);
        refused("branch below site 1's", x -> x.branch(0, 0, 3, 1), DocTrees.NO_REVISION);
        refused("branch below 8", x -> x.branch(0, 0, 8, 1), DocTrees.NO_REVISION);
        refusedWhenFull("branch", x -> x.branch(0, 0, 1, 1), DocTrees.FULL);
    }

    private static void badSiteBeforeBadDoc() {
        for (int site : Scene.BAD_SITES) {
            for (int doc : Scene.BAD_DOCS) {
                DocTrees x = Scene.few();
                String at = " at " + site + " of " + doc;
                due.is("put" + at, x.put(site, doc, -1, 1), DocTrees.BAD_SITE);
                due.is("delete" + at, x.delete(site, doc, 1), DocTrees.BAD_SITE);
                due.is("branch" + at, x.branch(site, doc, 1, 1), DocTrees.BAD_SITE);
            }
        }
    }

    private static void badSiteBeforeFull() {
        for (int site : Scene.BAD_SITES) {
            refusedWhenFull("put", x -> x.put(site, 3, -1, 1), DocTrees.BAD_SITE);
            refusedWhenFull("delete", x -> x.delete(site, 0, 1), DocTrees.BAD_SITE);
            refusedWhenFull("branch", x -> x.branch(site, 0, 1, 1), DocTrees.BAD_SITE);
        }
    }

    private static void badDocBeforeFull() {
        for (int doc : Scene.BAD_DOCS) {
            refusedWhenFull("put", x -> x.put(0, doc, -1, 1), DocTrees.BAD_DOC);
            refusedWhenFull("delete", x -> x.delete(0, doc, 1), DocTrees.BAD_DOC);
            refusedWhenFull("branch", x -> x.branch(0, doc, 1, 1), DocTrees.BAD_DOC);
        }
    }

    private static void badSiteBeforeLast() {
        for (int site : Scene.BAD_SITES) {
            refused("put on a live one", x -> x.put(site, 0, -1, 1), DocTrees.BAD_SITE);
            refused("put below no leaf", x -> x.put(site, 0, 0, 1), DocTrees.BAD_SITE);
            refused("delete below no leaf", x -> x.delete(site, 0, 0), DocTrees.BAD_SITE);
            refused("branch below none", x -> x.branch(site, 0, 99, 1), DocTrees.BAD_SITE);
        }
    }

    private static void badDocBeforeLast() {
        for (int doc : Scene.BAD_DOCS) {
            refused("put below no leaf", x -> x.put(0, doc, 0, 1), DocTrees.BAD_DOC);
            refused("put below none", x -> x.put(0, doc, 99, 1), DocTrees.BAD_DOC);
            refused("delete below no leaf", x -> x.delete(0, doc, 0), DocTrees.BAD_DOC);
            refused("branch below none", x -> x.branch(0, doc, 99, 1), DocTrees.BAD_DOC);
        }
    }

    private static void fullBeforeConflict() {
        refusedWhenFull("put on a live one", x -> x.put(0, 0, -1, 1), DocTrees.FULL);
        refusedWhenFull("put below no leaf", x -> x.put(0, 0, 0, 1), DocTrees.FULL);
        refusedWhenFull("put below another's", x -> x.put(0, 0, 7, 1), DocTrees.FULL);
        refusedWhenFull("put below site 1's", x -> x.put(0, 0, 3, 1), DocTrees.FULL);
        refusedWhenFull("put below 40", x -> x.put(0, 0, 40, 1), DocTrees.FULL);
        refusedWhenFull("put below MIN", x -> x.put(0, 0, MIN, 1), DocTrees.FULL);
        refusedWhenFull("delete below no leaf", x -> x.delete(0, 0, 0), DocTrees.FULL);
        refusedWhenFull("delete below a deletion", x -> x.delete(0, 1, 5), DocTrees.FULL);
        refusedWhenFull("delete below none", x -> x.delete(0, 0, -1), DocTrees.FULL);
        refusedWhenFull("delete below 40", x -> x.delete(0, 0, 40), DocTrees.FULL);
        refusedWhenFull("delete below MAX", x -> x.delete(0, 0, MAX), DocTrees.FULL);
    }

    private static void fullBeforeNoRevision() {
        refusedWhenFull("branch below site 1's", x -> x.branch(0, 0, 3, 1), DocTrees.FULL);
        refusedWhenFull("branch below another's", x -> x.branch(0, 0, 7, 1), DocTrees.FULL);
        refusedWhenFull("branch below none", x -> x.branch(0, 0, -1, 1), DocTrees.FULL);
        refusedWhenFull("branch below 40", x -> x.branch(0, 0, 40, 1), DocTrees.FULL);
        refusedWhenFull("branch below MAX", x -> x.branch(0, 0, MAX, 1), DocTrees.FULL);
        refusedWhenFull("branch below MIN", x -> x.branch(0, 0, MIN, 1), DocTrees.FULL);
    }

    private static void notFullAtThirtyNine() {
        Supplier<DocTrees> scene = () -> Scene.filledUpTo(39);
        refused("put on a live one", scene, 39, x -> x.put(0, 0, -1, 1), DocTrees.CONFLICT);
        refused("put below no leaf", scene, 39, x -> x.put(0, 0, 0, 1), DocTrees.CONFLICT);
        refused("put below 39", scene, 39, x -> x.put(0, 0, 39, 1), DocTrees.CONFLICT);
        refused("delete below no leaf", scene, 39, x -> x.delete(0, 0, 0), DocTrees.CONFLICT);
        refused("delete below 39", scene, 39, x -> x.delete(0, 0, 39), DocTrees.CONFLICT);
        refused("branch below 39", scene, 39, x -> x.branch(0, 0, 39, 1), DocTrees.NO_REVISION);
        refused("branch below none", scene, 39, x -> x.branch(0, 0, -1, 1), DocTrees.NO_REVISION);
    }
}
