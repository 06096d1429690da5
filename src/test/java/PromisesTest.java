/** Each promise by its number: ordinary inputs, the edges that the document names, wrong inputs. */
public final class PromisesTest {
    private static final int MIN = Integer.MIN_VALUE;
    private static final int MAX = Integer.MAX_VALUE;
    private static final int[] BAD_SITES = {-1, 2, 3, MIN, MAX};
    private static final int[] BAD_DOCS = {-1, 4, 5, MIN, MAX};

    private static final Due due = new Due();

    public static void main(String[] args) {
        promise01NewObject();
        promise01ObjectsAreApart();
        promise02PutWithoutParent();
        promise02PutBelowLeaf();
        promise02PutBelowDeletion();
        promise02PutRefused();
        promise03Delete();
        promise03DeleteRefused();
        promise04Branch();
        promise04BranchRefused();
        promise05Pull();
        promise05PullReadable();
        promise05PullKeepsForgotten();
        promise06Compact();
        promise06CompactSites();
        promise07WinnerOrder();
        promise07WinnerExtremeBodies();
        promise07WinnerPerSite();
        promise08Conflicts();
        promise09Conflict();
        promise10Leaves();
        promise11Readable();
        promise12Body();
        promise13Depth();
        promise14Common();
        promise14CommonTwoRoots();
        promise15Changes();
        promise16BadSiteBeforeBadDoc();
        promise16Full();
        promise16LooksChangeNothing();
        due.end();
    }

    private static void promise01NewObject() {
        DocTrees x = new DocTrees();
        for (int site = 0; site < 2; site++) {
            for (int doc = 0; doc < 4; doc++) {
                due.is("new winner", x.winner(site, doc), DocTrees.NO_REVISION);
                due.is("new conflicts", x.conflicts(site, doc), 0);
                due.is("new conflict", x.conflict(site, doc, 0), DocTrees.NO_REVISION);
                due.is("new leaves", x.leaves(site, doc), 0);
                due.is("new pull", x.pull(site, doc), 0);
            }
            due.is("new changes", x.changes(site), 0);
            due.is("new compact", x.compact(site), 0);
            due.is("new readable", x.readable(site, 0), false);
            due.is("new body", x.body(site, 0), 0);
        }
        due.is("new depth", x.depth(0), DocTrees.NO_REVISION);
        due.is("new common", x.common(0, 0), DocTrees.NO_REVISION);
        due.is("first number", x.put(1, 3, -1, 9), 0);
    }

    private static void promise01ObjectsAreApart() {
        DocTrees x = new DocTrees();
        x.put(0, 0, -1, 5);
        DocTrees y = new DocTrees();
        due.is("another object's winner", y.winner(0, 0), DocTrees.NO_REVISION);
        due.is("another object's first number", y.put(0, 0, -1, 6), 0);
        due.is("the first object's body", x.body(0, 0), 5);
    }

    private static void promise02PutWithoutParent() {
        DocTrees x = new DocTrees();
        due.is("put new", x.put(0, 0, -1, 7), 0);
        due.is("put new, its depth", x.depth(0), 1);
        due.is("put new, its body", x.body(0, 0), 7);
        due.is("put new, winner", x.winner(0, 0), 0);
        due.is("put new, not at the other site", x.winner(1, 0), DocTrees.NO_REVISION);
        due.is("put without parent on a live one", x.put(0, 0, -1, 8), DocTrees.CONFLICT);
        due.is("put at the other site", x.put(1, 0, -1, 8), 1);
        due.is("put at the other site, its depth", x.depth(1), 1);
        due.is("put of another document", x.put(0, 3, -1, 8), 2);
        due.is("delete", x.delete(0, 0, 0), 3);
        due.is("put on a deleted one", x.put(0, 0, -1, 1), 4);
        due.is("put on a deleted one, its depth", x.depth(4), 3);
        due.is("put on a deleted one, its parent", x.common(4, 3), 3);
        due.is("put on a deleted one, live again", x.winner(0, 0), 4);
    }

    private static void promise02PutBelowLeaf() {
        DocTrees x = new DocTrees();
        x.put(0, 1, -1, 7);
        due.is("put below a leaf", x.put(0, 1, 0, 3), 1);
        due.is("put below a leaf, depth", x.depth(1), 2);
        due.is("put below a leaf, parent", x.common(0, 1), 0);
        due.is("put below what is no leaf", x.put(0, 1, 0, 3), DocTrees.CONFLICT);
        x.branch(0, 1, 0, 2);
        due.is("put below a conflict", x.put(0, 1, 2, 0), 3);
        due.is("put below a conflict, depth", x.depth(3), 3);
        due.is("put below a leaf, other leaf stays", x.leaves(0, 1), 2);
    }

    private static void promise02PutBelowDeletion() {
        DocTrees x = new DocTrees();
        x.put(0, 2, -1, 7);
        x.branch(0, 2, 0, 5);
        x.branch(0, 2, 0, 6);
        x.delete(0, 2, 1);
        due.is("put below a deletion of a live one", x.put(0, 2, 3, 9), 4);
        due.is("put below a deletion, depth", x.depth(4), 4);
        x.delete(0, 2, 4);
        x.delete(0, 2, 2);
        due.is("two deletions, deeper wins", x.winner(0, 2), 5);
        due.is("put goes below the winning deletion", x.put(0, 2, -1, 1), 7);
        due.is("put's parent is the winning deletion", x.common(7, 5), 5);
        due.is("the other deletion stays a leaf", x.leaves(0, 2), 2);
        due.is("put below the other deletion", x.put(0, 2, 6, 1), 8);
    }

    private static void promise02PutRefused() {
        DocTrees x = new DocTrees();
        x.put(0, 0, -1, 7);
        x.put(1, 0, -1, 8);
        x.put(0, 1, -1, 9);
        due.is("put below another document's leaf", x.put(0, 0, 2, 1), DocTrees.CONFLICT);
        due.is("put below the other site's leaf", x.put(0, 0, 1, 1), DocTrees.CONFLICT);
        due.is("put below none that exists", x.put(0, 0, 3, 1), DocTrees.CONFLICT);
        int[] wrongParents = {-2, -5, 39, 40, 41, MIN, MAX};
        for (int parent : wrongParents) {
            due.is("put below " + parent, x.put(0, 0, parent, 1), DocTrees.CONFLICT);
            due.is("put new below " + parent, x.put(0, 3, parent, 1), DocTrees.CONFLICT);
        }
        for (int site : BAD_SITES) {
            due.is("put at site " + site, x.put(site, 0, 0, 1), DocTrees.BAD_SITE);
        }
        for (int doc : BAD_DOCS) {
            due.is("put of document " + doc, x.put(0, doc, -1, 1), DocTrees.BAD_DOC);
        }
        due.is("refused puts add no change", x.changes(0), 2);
        due.is("refused puts take no number", x.put(0, 0, 0, 1), 3);
        x.pull(1, 0);
        due.is("put below a pulled child's parent", x.put(1, 0, 0, 1), DocTrees.CONFLICT);
        due.is("put below a pulled leaf", x.put(1, 0, 3, 1), 4);
        due.is("a leaf here though not there", x.put(0, 0, 3, 1), 5);
    }

    private static void promise03Delete() {
        DocTrees x = new DocTrees();
        x.put(0, 0, -1, 7);
        due.is("delete", x.delete(0, 0, 0), 1);
        due.is("a deletion's depth", x.depth(1), 2);
        due.is("a deletion's body", x.body(0, 1), 0);
        due.is("a deletion is readable", x.readable(0, 1), true);
        due.is("a deletion can win", x.winner(0, 0), 1);
        due.is("a deletion is a leaf", x.leaves(0, 0), 1);
        due.is("a deletion is no conflict", x.conflicts(0, 0), 0);
        x.put(0, 1, -1, 1);
        x.branch(0, 1, 2, 5);
        x.branch(0, 1, 2, 6);
        due.is("delete below a conflict", x.delete(0, 1, 3), 5);
        due.is("the winner stays", x.winner(0, 1), 4);
        due.is("no conflict is left", x.conflicts(0, 1), 0);
    }

    private static void promise03DeleteRefused() {
        DocTrees x = new DocTrees();
        x.put(0, 0, -1, 7);
        x.put(0, 0, 0, 8);
        x.put(1, 0, -1, 8);
        x.put(0, 1, -1, 8);
        due.is("delete below no leaf", x.delete(0, 0, 0), DocTrees.CONFLICT);
        due.is("delete below the other site's", x.delete(0, 0, 2), DocTrees.CONFLICT);
        due.is("delete below another document's", x.delete(0, 0, 3), DocTrees.CONFLICT);
        int[] wrongParents = {-1, -2, 4, 39, 40, 41, MIN, MAX};
        for (int parent : wrongParents) {
            due.is("delete below " + parent, x.delete(0, 0, parent), DocTrees.CONFLICT);
        }
        for (int site : BAD_SITES) {
            due.is("delete at site " + site, x.delete(site, 0, 1), DocTrees.BAD_SITE);
        }
        for (int doc : BAD_DOCS) {
            due.is("delete of document " + doc, x.delete(0, doc, 1), DocTrees.BAD_DOC);
        }
        due.is("refused deletes add no change", x.changes(0), 3);
        due.is("refused deletes leave the winner", x.winner(0, 0), 1);
        due.is("refused deletes take no number", x.delete(0, 0, 1), 4);
        due.is("delete below a deletion", x.delete(0, 0, 4), DocTrees.CONFLICT);
        due.is("delete of a deleted one", x.delete(0, 0, -1), DocTrees.CONFLICT);
    }

    private static void promise04Branch() {
        DocTrees x = new DocTrees();
        x.put(0, 0, -1, 7);
        due.is("branch below a leaf", x.branch(0, 0, 0, 1), 1);
        due.is("branch below a leaf, leaves", x.leaves(0, 0), 1);
        due.is("branch below no leaf", x.branch(0, 0, 0, 2), 2);
        due.is("branch, leaves", x.leaves(0, 0), 2);
        due.is("branch, depth", x.depth(2), 2);
        due.is("branch, body", x.body(0, 2), 2);
        due.is("branch, open", x.conflicts(0, 0), 1);
        x.delete(0, 0, 1);
        due.is("branch below a deletion", x.branch(0, 0, 3, 4), 4);
        due.is("branch below a deletion again", x.branch(0, 0, 3, 5), 5);
        due.is("branch below a deletion, depth", x.depth(5), 4);
        x.compact(0);
        due.is("branch below a forgotten one", x.branch(0, 0, 0, 6), 6);
        due.is("branch makes nothing readable", x.readable(0, 0), false);
        due.is("branch is at its site alone", x.changes(1), 0);
    }

    private static void promise04BranchRefused() {
        DocTrees x = new DocTrees();
        x.put(0, 0, -1, 7);
        x.put(1, 0, -1, 8);
        x.put(0, 1, -1, 9);
        due.is("branch below the other site's", x.branch(0, 0, 1, 1), DocTrees.NO_REVISION);
        due.is("branch below another document's", x.branch(0, 0, 2, 1), DocTrees.NO_REVISION);
        int[] wrongParents = {-1, -2, 3, 39, 40, 41, MIN, MAX};
        for (int parent : wrongParents) {
            due.is("branch below " + parent, x.branch(0, 0, parent, 1), DocTrees.NO_REVISION);
            due.is("branch new " + parent, x.branch(0, 3, parent, 1), DocTrees.NO_REVISION);
        }
        for (int site : BAD_SITES) {
            due.is("branch at site " + site, x.branch(site, 0, 0, 1), DocTrees.BAD_SITE);
        }
        for (int doc : BAD_DOCS) {
            due.is("branch of document " + doc, x.branch(0, doc, 0, 1), DocTrees.BAD_DOC);
        }
        due.is("refused branches add no change", x.changes(0), 2);
        due.is("refused branches take no number", x.branch(0, 0, 0, 1), 3);
    }

    private static void promise05Pull() {
        DocTrees x = new DocTrees();
        x.put(0, 0, -1, 7);
        x.put(0, 0, 0, 8);
        x.branch(0, 0, 0, 9);
        x.put(0, 1, -1, 5);
        x.put(1, 0, -1, 6);
        due.is("pull", x.pull(1, 0), 3);
        due.is("pull, changes", x.changes(1), 4);
        due.is("pull, leaves", x.leaves(1, 0), 3);
        due.is("pull, winner", x.winner(1, 0), 2);
        due.is("pull takes one document alone", x.winner(1, 1), DocTrees.NO_REVISION);
        due.is("pull gives nothing back", x.changes(0), 4);
        due.is("pull again", x.pull(1, 0), 0);
        due.is("pull the other way", x.pull(0, 0), 1);
        due.is("pull the other way, leaves", x.leaves(0, 0), 3);
        due.is("pull what there is none of", x.pull(0, 2), 0);
        for (int site : BAD_SITES) {
            due.is("pull at site " + site, x.pull(site, 0), DocTrees.BAD_SITE);
        }
        for (int doc : BAD_DOCS) {
            due.is("pull of document " + doc, x.pull(0, doc), DocTrees.BAD_DOC);
        }
        due.is("the refused pulls got nothing", x.changes(1), 4);
        x.delete(0, 0, 2);
        due.is("pull a deletion", x.pull(1, 0), 1);
        due.is("a pulled deletion closes its branch", x.winner(1, 0), 1);
    }

    private static void promise05PullReadable() {
        DocTrees x = new DocTrees();
        x.put(0, 0, -1, 7);
        x.put(0, 0, 0, 8);
        x.compact(0);
        x.put(0, 0, 1, 9);
        due.is("pull some readable", x.pull(1, 0), 3);
        due.is("forgotten there, not readable here", x.readable(1, 0), false);
        due.is("forgotten there, no body here", x.body(1, 0), 0);
        due.is("no leaf but readable there", x.readable(1, 1), true);
        due.is("no leaf but readable there, body", x.body(1, 1), 8);
        due.is("the leaf, body", x.body(1, 2), 9);
        due.is("pulled forgotten ones aren't forgotten again", x.compact(1), 1);
    }

    private static void promise05PullKeepsForgotten() {
        DocTrees x = new DocTrees();
        x.put(0, 0, -1, 7);
        x.put(0, 0, 0, 8);
        x.pull(1, 0);
        x.compact(0);
        due.is("pull of what both have", x.pull(0, 0), 0);
        due.is("a pull brings no body back", x.readable(0, 0), false);
        x.put(1, 0, 1, 9);
        due.is("pull of one more", x.pull(0, 0), 1);
        due.is("a pull of more brings no body back", x.readable(0, 0), false);
        due.is("a pulled child forgets nothing", x.readable(0, 1), true);
        x.compact(0);
        due.is("pull by the site that reads", x.pull(1, 0), 0);
        due.is("a pull takes no body away", x.readable(1, 0), true);
        due.is("a pull takes no body away, later one", x.readable(1, 1), true);
    }

    private static void promise06Compact() {
        DocTrees x = new DocTrees();
        x.put(0, 0, -1, 7);
        x.put(0, 0, 0, 8);
        x.put(0, 0, 1, 9);
        x.put(0, 1, -1, 5);
        x.delete(0, 1, 3);
        x.put(0, 1, -1, 6);
        x.put(0, 3, -1, 4);
        due.is("compact all documents", x.compact(0), 4);
        due.is("compacted", x.readable(0, 0), false);
        due.is("compacted, its body", x.body(0, 1), 0);
        due.is("a deletion that is no leaf is compacted", x.readable(0, 4), false);
        due.is("a leaf keeps its body", x.body(0, 2), 9);
        due.is("a lone leaf keeps its body", x.body(0, 6), 4);
        due.is("compact again", x.compact(0), 0);
        due.is("winners don't change", x.winner(0, 0), 2);
        due.is("depths don't change", x.depth(2), 3);
        due.is("changes don't change", x.changes(0), 7);
        due.is("common doesn't change", x.common(0, 2), 0);
        x.put(0, 0, 2, 1);
        due.is("compact what is no leaf now", x.compact(0), 1);
        for (int site : BAD_SITES) {
            due.is("compact site " + site, x.compact(site), DocTrees.BAD_SITE);
        }
    }

    private static void promise06CompactSites() {
        DocTrees x = new DocTrees();
        x.put(0, 0, -1, 7);
        x.pull(1, 0);
        x.put(0, 0, 0, 8);
        due.is("compact where it is a leaf", x.compact(1), 0);
        due.is("a leaf there, no leaf here", x.compact(0), 1);
        due.is("the other site still reads", x.body(1, 0), 7);
        x.pull(1, 0);
        due.is("still readable below a pulled child", x.body(1, 0), 7);
        due.is("compact after the pull", x.compact(1), 1);
        due.is("forgotten after the pull", x.readable(1, 0), false);
    }

    private static void promise07WinnerOrder() {
        DocTrees x = new DocTrees();
        x.put(0, 0, -1, 0);
        x.branch(0, 0, 0, 5);
        x.branch(0, 0, 0, 9);
        due.is("the greater body wins", x.winner(0, 0), 2);
        x.branch(0, 0, 0, 9);
        due.is("then the greater number", x.winner(0, 0), 3);
        x.branch(0, 0, 0, 4);
        due.is("a greater number alone doesn't", x.winner(0, 0), 3);
        x.put(0, 0, 1, -9);
        due.is("the greater depth before the body", x.winner(0, 0), 5);
        x.delete(0, 0, 5);
        due.is("an open one before a deeper deletion", x.winner(0, 0), 3);
        x.delete(0, 0, 2);
        x.delete(0, 0, 3);
        x.delete(0, 0, 4);
        due.is("of deletions alone the deepest", x.winner(0, 0), 6);
        due.is("no leaf is open", x.conflicts(0, 0), 0);
        x.put(0, 0, 8, 0);
        x.delete(0, 0, 10);
        due.is("of deletions the deepest, a new one", x.winner(0, 0), 11);
        x.put(0, 0, 7, 0);
        x.delete(0, 0, 12);
        due.is("of equal deletions the greatest number", x.winner(0, 0), 13);
    }

    private static void promise07WinnerExtremeBodies() {
        DocTrees x = new DocTrees();
        x.put(0, 0, -1, 0);
        x.branch(0, 0, 0, MAX);
        x.branch(0, 0, 0, MIN);
        x.branch(0, 0, 0, -1);
        due.is("the greatest int wins", x.winner(0, 0), 1);
        due.is("then -1", x.conflict(0, 0, 0), 3);
        due.is("then the least int", x.conflict(0, 0, 1), 2);
        due.is("the least int is kept", x.body(0, 2), MIN);
    }

    private static void promise07WinnerPerSite() {
        DocTrees x = new DocTrees();
        x.put(0, 0, -1, 3);
        x.put(1, 0, -1, 4);
        x.put(1, 1, -1, 5);
        due.is("winner at 0", x.winner(0, 0), 0);
        due.is("winner at 1", x.winner(1, 0), 1);
        due.is("winner of another document at 0", x.winner(0, 1), DocTrees.NO_REVISION);
        x.put(1, 0, 1, 0);
        due.is("winner at 0 knows nothing of 1", x.winner(0, 0), 0);
        x.pull(0, 0);
        due.is("winner at 0 after the pull", x.winner(0, 0), 3);
        for (int site : BAD_SITES) {
            due.is("winner at site " + site, x.winner(site, 0), DocTrees.BAD_SITE);
        }
        for (int doc : BAD_DOCS) {
            due.is("winner of document " + doc, x.winner(0, doc), DocTrees.BAD_DOC);
        }
    }

    private static void promise08Conflicts() {
        DocTrees x = new DocTrees();
        x.put(0, 0, -1, 3);
        due.is("a winner alone", x.conflicts(0, 0), 0);
        x.branch(0, 0, 0, 3);
        x.branch(0, 0, 0, 4);
        x.branch(0, 0, 0, 5);
        due.is("three open leaves", x.conflicts(0, 0), 2);
        x.delete(0, 0, 1);
        due.is("a deletion is none", x.conflicts(0, 0), 1);
        due.is("none at the other site", x.conflicts(1, 0), 0);
        due.is("none of another document", x.conflicts(0, 1), 0);
        x.delete(0, 0, 2);
        x.delete(0, 0, 3);
        due.is("deletions alone", x.conflicts(0, 0), 0);
        for (int site : BAD_SITES) {
            due.is("conflicts at site " + site, x.conflicts(site, 0), DocTrees.BAD_SITE);
        }
        for (int doc : BAD_DOCS) {
            due.is("conflicts of document " + doc, x.conflicts(0, doc), DocTrees.BAD_DOC);
        }
    }

    private static void promise09Conflict() {
        DocTrees x = new DocTrees();
        x.put(0, 0, -1, 3);
        due.is("none beside a winner", x.conflict(0, 0, 0), DocTrees.NO_REVISION);
        x.branch(0, 0, 0, 3);
        x.branch(0, 0, 0, 8);
        x.branch(0, 0, 0, 3);
        x.branch(0, 0, 0, 9);
        x.branch(0, 0, 1, -7);
        x.delete(0, 0, 4);
        x.branch(0, 0, 0, 5);
        due.is("the winner", x.winner(0, 0), 5);
        due.is("the best conflict", x.conflict(0, 0, 0), 2);
        due.is("the next conflict", x.conflict(0, 0, 1), 7);
        due.is("the last conflict", x.conflict(0, 0, 2), 3);
        int[] wrongPlaces = {-1, -2, 3, 4, 39, 40, MIN, MAX};
        for (int i : wrongPlaces) {
            due.is("conflict " + i, x.conflict(0, 0, i), DocTrees.NO_REVISION);
        }
        due.is("none at the other site", x.conflict(1, 0, 0), DocTrees.NO_REVISION);
        x.branch(0, 0, 0, 5);
        due.is("of equals the greater number first", x.conflict(0, 0, 1), 8);
        due.is("of equals the lesser number next", x.conflict(0, 0, 2), 7);
        for (int site : BAD_SITES) {
            due.is("conflict at site " + site, x.conflict(site, 0, -1), DocTrees.BAD_SITE);
        }
        for (int doc : BAD_DOCS) {
            due.is("conflict of document " + doc, x.conflict(0, doc, -1), DocTrees.BAD_DOC);
        }
        DocTrees y = new DocTrees();
        y.put(0, 0, -1, 1);
        y.branch(0, 0, 0, 1);
        y.branch(0, 0, 0, 2);
        y.delete(0, 0, 1);
        y.delete(0, 0, 2);
        due.is("deletions are no conflicts", y.conflict(0, 0, 0), DocTrees.NO_REVISION);
    }

    private static void promise10Leaves() {
        DocTrees x = new DocTrees();
        x.put(0, 0, -1, 3);
        x.put(0, 1, -1, 3);
        due.is("one leaf", x.leaves(0, 0), 1);
        x.put(0, 0, 0, 4);
        due.is("a parent is none", x.leaves(0, 0), 1);
        x.branch(0, 0, 0, 4);
        due.is("a branch is one more", x.leaves(0, 0), 2);
        x.delete(0, 0, 2);
        due.is("a deletion is one in place of its parent", x.leaves(0, 0), 2);
        due.is("none at the other site", x.leaves(1, 0), 0);
        x.put(1, 0, -1, 4);
        x.pull(0, 0);
        due.is("a second first revision is one more", x.leaves(0, 0), 3);
        for (int site : BAD_SITES) {
            due.is("leaves at site " + site, x.leaves(site, 0), DocTrees.BAD_SITE);
        }
        for (int doc : BAD_DOCS) {
            due.is("leaves of document " + doc, x.leaves(0, doc), DocTrees.BAD_DOC);
        }
    }

    private static void promise11Readable() {
        DocTrees x = new DocTrees();
        x.put(0, 0, -1, 3);
        x.put(1, 2, -1, 4);
        due.is("readable", x.readable(0, 0), true);
        due.is("not at the other site", x.readable(1, 0), false);
        due.is("readable at 1", x.readable(1, 1), true);
        due.is("not at site 0", x.readable(0, 1), false);
        x.put(0, 0, 0, 4);
        due.is("no leaf, not forgotten", x.readable(0, 0), true);
        int[] wrongRevisions = {-1, -2, 3, 39, 40, 41, 79, 80, MIN, MAX};
        for (int revision : wrongRevisions) {
            due.is("readable " + revision, x.readable(0, revision), false);
            due.is("readable at 1 " + revision, x.readable(1, revision), false);
        }
        for (int site : BAD_SITES) {
            due.is("readable at site " + site, x.readable(site, 0), false);
        }
    }

    private static void promise12Body() {
        DocTrees x = new DocTrees();
        x.put(0, 0, -1, -3);
        x.put(0, 0, 0, MAX);
        due.is("body below 0", x.body(0, 0), -3);
        due.is("the greatest body", x.body(0, 1), MAX);
        due.is("not at the other site", x.body(1, 0), 0);
        x.compact(0);
        due.is("forgotten", x.body(0, 0), 0);
        due.is("not forgotten", x.body(0, 1), MAX);
        int[] wrongRevisions = {-1, -2, 2, 39, 40, 41, 79, 80, MIN, MAX};
        for (int revision : wrongRevisions) {
            due.is("body of " + revision, x.body(0, revision), 0);
            due.is("body at 1 of " + revision, x.body(1, revision), 0);
        }
        for (int site : BAD_SITES) {
            due.is("body at site " + site, x.body(site, 1), 0);
        }
    }

    private static void promise13Depth() {
        DocTrees x = new DocTrees();
        x.put(1, 0, -1, 3);
        x.put(1, 0, 0, 3);
        x.delete(1, 0, 1);
        x.branch(1, 0, 0, 3);
        x.put(0, 0, -1, 3);
        due.is("depth of the first", x.depth(0), 1);
        due.is("depth of the second", x.depth(1), 2);
        due.is("depth of a deletion", x.depth(2), 3);
        due.is("depth of a branch", x.depth(3), 2);
        due.is("depth of another first one", x.depth(4), 1);
        int[] wrongRevisions = {-1, -2, 5, 39, 40, 41, MIN, MAX};
        for (int revision : wrongRevisions) {
            due.is("depth of " + revision, x.depth(revision), DocTrees.NO_REVISION);
        }
        for (int revision = 5; revision < 40; revision++) {
            x.branch(1, 0, revision == 5 ? 2 : revision - 1, 0);
        }
        due.is("depth of a long way", x.depth(39), 38);
        due.is("common of a long way", x.common(39, 3), 0);
    }

    private static void promise14Common() {
        DocTrees x = new DocTrees();
        x.put(0, 0, -1, 3);
        x.put(0, 0, 0, 3);
        x.put(0, 0, 1, 3);
        x.branch(0, 0, 1, 3);
        x.put(0, 0, 3, 3);
        x.branch(0, 0, 0, 3);
        x.put(0, 1, -1, 3);
        due.is("common of one with itself", x.common(4, 4), 4);
        due.is("common of a first one with itself", x.common(0, 0), 0);
        due.is("common with the parent", x.common(4, 3), 3);
        due.is("common with what is above", x.common(1, 4), 1);
        due.is("common of two branches", x.common(2, 4), 1);
        due.is("common of two branches, turned", x.common(4, 2), 1);
        due.is("common of early branches", x.common(5, 4), 0);
        due.is("common of early branches, turned", x.common(2, 5), 0);
        due.is("common of two documents", x.common(0, 6), DocTrees.NO_REVISION);
        due.is("common of two documents, turned", x.common(6, 4), DocTrees.NO_REVISION);
        int[] wrongRevisions = {-1, -2, 7, 39, 40, 41, MIN, MAX};
        for (int revision : wrongRevisions) {
            due.is("common with " + revision, x.common(0, revision), DocTrees.NO_REVISION);
            due.is("common of " + revision, x.common(revision, 0), DocTrees.NO_REVISION);
            due.is("common twice " + revision, x.common(revision, revision), DocTrees.NO_REVISION);
        }
    }

    private static void promise14CommonTwoRoots() {
        DocTrees x = new DocTrees();
        x.put(0, 0, -1, 3);
        x.put(1, 0, -1, 3);
        x.put(0, 0, 0, 3);
        due.is("common of two first ones", x.common(0, 1), DocTrees.NO_REVISION);
        due.is("common below two first ones", x.common(2, 1), DocTrees.NO_REVISION);
        x.pull(1, 0);
        x.put(1, 0, 2, 3);
        due.is("common over sites", x.common(3, 0), 0);
        x.branch(0, 0, 0, 3);
        due.is("common of revisions no site has both of", x.common(3, 4), 0);
    }

    private static void promise15Changes() {
        DocTrees x = new DocTrees();
        x.put(0, 0, -1, 3);
        x.branch(0, 0, 0, 3);
        x.delete(0, 0, 1);
        x.put(0, 3, -1, 3);
        due.is("changes by writing", x.changes(0), 4);
        due.is("no changes at the other site", x.changes(1), 0);
        x.put(0, 3, -1, 3);
        x.pull(0, 3);
        x.compact(0);
        due.is("refusals and compacting are no changes", x.changes(0), 4);
        x.pull(1, 0);
        due.is("changes by pulling", x.changes(1), 3);
        x.pull(1, 0);
        due.is("a pull of nothing is no change", x.changes(1), 3);
        x.put(1, 3, -1, 3);
        due.is("changes by both", x.changes(1), 4);
        for (int site : BAD_SITES) {
            due.is("changes at site " + site, x.changes(site), DocTrees.BAD_SITE);
        }
    }

    private static void promise16BadSiteBeforeBadDoc() {
        DocTrees x = new DocTrees();
        for (int site : BAD_SITES) {
            for (int doc : BAD_DOCS) {
                String at = " at " + site + " of " + doc;
                due.is("put" + at, x.put(site, doc, 9, 1), DocTrees.BAD_SITE);
                due.is("delete" + at, x.delete(site, doc, 9), DocTrees.BAD_SITE);
                due.is("branch" + at, x.branch(site, doc, 9, 1), DocTrees.BAD_SITE);
                due.is("pull" + at, x.pull(site, doc), DocTrees.BAD_SITE);
                due.is("winner" + at, x.winner(site, doc), DocTrees.BAD_SITE);
                due.is("conflicts" + at, x.conflicts(site, doc), DocTrees.BAD_SITE);
                due.is("conflict" + at, x.conflict(site, doc, 0), DocTrees.BAD_SITE);
                due.is("leaves" + at, x.leaves(site, doc), DocTrees.BAD_SITE);
            }
        }
    }

    private static void promise16Full() {
        DocTrees x = new DocTrees();
        x.put(0, 0, -1, 0);
        for (int n = 1; n < 39; n++) {
            due.is("up to the limit, " + n, x.branch(0, 0, n % 3 == 0 ? 0 : n - 1, n), n);
        }
        due.is("the fortieth", x.put(1, 3, -1, 5), 39);
        due.is("put when full", x.put(0, 2, -1, 1), DocTrees.FULL);
        due.is("put below a leaf when full", x.put(1, 3, 39, 1), DocTrees.FULL);
        due.is("FULL before put's CONFLICT", x.put(1, 3, -1, 1), DocTrees.FULL);
        due.is("FULL before put's CONFLICT, no leaf", x.put(0, 0, 0, 1), DocTrees.FULL);
        due.is("delete when full", x.delete(1, 3, 39), DocTrees.FULL);
        due.is("FULL before delete's CONFLICT", x.delete(1, 3, 77), DocTrees.FULL);
        due.is("branch when full", x.branch(0, 0, 0, 1), DocTrees.FULL);
        due.is("FULL before NO_REVISION", x.branch(0, 0, 40, 1), DocTrees.FULL);
        due.is("BAD_SITE before FULL, put", x.put(2, 4, -1, 1), DocTrees.BAD_SITE);
        due.is("BAD_DOC before FULL, put", x.put(0, 4, -1, 1), DocTrees.BAD_DOC);
        due.is("BAD_SITE before FULL, delete", x.delete(-1, 0, 0), DocTrees.BAD_SITE);
        due.is("BAD_DOC before FULL, delete", x.delete(0, -1, 0), DocTrees.BAD_DOC);
        due.is("BAD_SITE before FULL, branch", x.branch(2, 0, 0, 1), DocTrees.BAD_SITE);
        due.is("BAD_DOC before FULL, branch", x.branch(1, 4, 0, 1), DocTrees.BAD_DOC);
        due.is("refusals when full change nothing", x.changes(0) + x.changes(1), 40);
        due.is("pull when full", x.pull(1, 0), 39);
        due.is("pull the last when full", x.pull(0, 3), 1);
        due.is("changes when full", x.changes(0), 40);
        due.is("the last is there when full", x.body(0, 39), 5);
        due.is("depth beyond the last", x.depth(40), DocTrees.NO_REVISION);
    }

    private static void promise16LooksChangeNothing() {
        DocTrees x = new DocTrees();
        x.put(0, 0, -1, 1);
        x.branch(0, 0, 0, 2);
        x.branch(0, 0, 0, 3);
        for (int round = 0; round < 2; round++) {
            due.is("winner twice", x.winner(0, 0), 2);
            due.is("conflicts twice", x.conflicts(0, 0), 1);
            due.is("conflict twice", x.conflict(0, 0, 0), 1);
            due.is("leaves twice", x.leaves(0, 0), 2);
            due.is("readable twice", x.readable(0, 0), true);
            due.is("body twice", x.body(0, 1), 2);
            due.is("depth twice", x.depth(2), 2);
            due.is("common twice", x.common(1, 2), 0);
            due.is("changes twice", x.changes(0), 3);
        }
        due.is("a number after the looks", x.put(0, 0, 2, 1), 3);
    }
}
