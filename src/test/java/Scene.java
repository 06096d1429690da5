/** Stores in the states that the tests of boundary cases begin from. */
final class Scene {
    static final int FEW = 8;
    static final int MOST = 40;

    static final int MIN = Integer.MIN_VALUE;
    static final int MAX = Integer.MAX_VALUE;
    static final int[] BAD_SITES = {-1, 2, MIN, MAX};
    static final int[] BAD_DOCS = {-1, 4, MIN, MAX};

    private Scene() {
    }

    /**
     * Eight revisions. Document 0 at site 0: 0 with the leaves 1 and 2 below it, and at site 1: 3
     * alone. Document 1 at site 0: 4 with the deletion 5 below it. Document 2 at site 0: 6 with 7
     * below it; site 1 has 6 alone. Document 3: nothing. Site 0 has forgotten 0 and 4.
     */
    static DocTrees few() {
        DocTrees x = new DocTrees();
        x.put(0, 0, -1, 70);
        x.put(0, 0, 0, 71);
        x.branch(0, 0, 0, 72);
        x.put(1, 0, -1, 73);
        x.put(0, 1, -1, 74);
        x.delete(0, 1, 4);
        x.compact(0);
        x.put(0, 2, -1, 76);
        x.pull(1, 2);
        x.put(0, 2, 6, 77);
        return x;
    }

    /** The few, and leaves of document 0 at site 0 up to that many revisions. */
    static DocTrees filledUpTo(int revisions) {
        DocTrees x = few();
        for (int number = FEW; number < revisions; number++) {
            x.branch(0, 0, 0, number);
        }
        return x;
    }

    static DocTrees full() {
        return filledUpTo(MOST);
    }

    /** One document at site 0, each revision below the one before it; the bodies are 100 and on. */
    static DocTrees chain(int revisions) {
        DocTrees x = new DocTrees();
        for (int number = 0; number < revisions; number++) {
            x.put(0, 0, number - 1, 100 + number);
        }
        return x;
    }

    /** One document at site 0: the first revision, and all others right below it as its leaves. */
    static DocTrees fan(int revisions) {
        DocTrees x = new DocTrees();
        x.put(0, 0, -1, 100);
        for (int number = 1; number < revisions; number++) {
            x.branch(0, 0, 0, 100 + number);
        }
        return x;
    }

    /**
     * All that the looking calls tell of a store, to compare two stores by. It stays below the 512
     * calls that an object has, for a full store too.
     */
    static String view(DocTrees x, int revisions) {
        StringBuilder text = new StringBuilder();
        for (int site = 0; site < 2; site++) {
            text.append("\nsite ").append(site).append(" changes ").append(x.changes(site));
            for (int doc = 0; doc < 4; doc++) {
                text.append("\n  ").append(x.winner(site, doc));
                text.append(' ').append(x.conflicts(site, doc));
                text.append(' ').append(x.conflict(site, doc, 0));
                text.append(' ').append(x.conflict(site, doc, 1));
                text.append(' ').append(x.leaves(site, doc));
            }
            for (int revision = 0; revision < revisions; revision++) {
                text.append("\n  ").append(x.readable(site, revision));
                text.append(' ').append(x.body(site, revision));
            }
        }
        for (int revision = 0; revision < revisions; revision++) {
            text.append("\n").append(x.depth(revision));
            text.append(' ').append(x.common(revision, revision / 2));
        }
        text.append("\nbeyond ").append(x.depth(revisions));
        return text.toString();
    }
}
