public final class DocTrees {
    public static final int BAD_SITE = -1;
    public static final int BAD_DOC = -2;
    public static final int FULL = -3;
    public static final int CONFLICT = -4;
    public static final int NO_REVISION = -5;

    private static final int SITES = 2;
    private static final int DOCUMENTS = 4;
    private static final int CAPACITY = 40;
    private static final int PLACES = SITES * CAPACITY;
    private static final int NONE = -1;
    private static final int FINE = 0;

    private final int[] documentOf = new int[CAPACITY];
    private final int[] parentOf = new int[CAPACITY];
    private final int[] depthOf = new int[CAPACITY];
    private final int[] bodyOf = new int[CAPACITY];
    private final boolean[] deletion = new boolean[CAPACITY];

    // Both sites share an array because arrays have one dimension: see place().
    private final boolean[] held = new boolean[PLACES];
    private final boolean[] forgotten = new boolean[PLACES];

    private int written = 0;

    public DocTrees() {
    }

    public int put(int site, int doc, int parent, int body) {
        int refusal = refusalToWrite(site, doc);
        if (refusal != FINE) {
            return refusal;
        }
        int above = parent;
        if (parent == NONE) {
            above = bestLeaf(site, doc);
            if (above != NONE && !deletion[above]) {
                return CONFLICT;
            }
        } else if (!isLeafOf(site, doc, parent)) {
            return CONFLICT;
        }
        return write(site, doc, above, body, false);
    }

    public int delete(int site, int doc, int parent) {
        int refusal = refusalToWrite(site, doc);
        if (refusal != FINE) {
            return refusal;
        }
        if (!isOpenLeafOf(site, doc, parent)) {
            return CONFLICT;
        }
        return write(site, doc, parent, 0, true);
    }

    public int branch(int site, int doc, int parent, int body) {
        int refusal = refusalToWrite(site, doc);
        if (refusal != FINE) {
            return refusal;
        }
        if (!hasOf(site, doc, parent)) {
            return NO_REVISION;
        }
        return write(site, doc, parent, body, false);
    }

    public int pull(int site, int doc) {
        int refusal = refusalToLook(site, doc);
        if (refusal != FINE) {
            return refusal;
        }
        int other = 1 - site;
        int got = 0;
        for (int revision = 0; revision < written; revision++) {
            if (hasOf(other, doc, revision) && !has(site, revision)) {
                copy(other, site, revision);
                got++;
            }
        }
        return got;
    }

    public int compact(int site) {
        if (!isSite(site)) {
            return BAD_SITE;
        }
        int count = 0;
        for (int revision = 0; revision < written; revision++) {
            if (canRead(site, revision) && hasChild(site, revision)) {
                forgotten[place(site, revision)] = true;
                count++;
            }
        }
        return count;
    }

    public int winner(int site, int doc) {
        int refusal = refusalToLook(site, doc);
        if (refusal != FINE) {
            return refusal;
        }
        int best = bestLeaf(site, doc);
        return best == NONE ? NO_REVISION : best;
    }

    public int conflicts(int site, int doc) {
        int refusal = refusalToLook(site, doc);
        if (refusal != FINE) {
            return refusal;
        }
        int open = 0;
        for (int revision = 0; revision < written; revision++) {
            if (isOpenLeafOf(site, doc, revision)) {
                open++;
            }
        }
        // An open leaf wins over every deletion, so the winner is one of those counted.
        return open == 0 ? 0 : open - 1;
    }

    public int conflict(int site, int doc, int i) {
        int refusal = refusalToLook(site, doc);
        if (refusal != FINE) {
            return refusal;
        }
        if (i < 0) {
            return NO_REVISION;
        }
        // Conflict 0 is beaten by the winner alone, each later conflict by one leaf more.
        for (int revision = 0; revision < written; revision++) {
            if (isOpenLeafOf(site, doc, revision) && countBetter(site, doc, revision) - 1 == i) {
                return revision;
            }
        }
        return NO_REVISION;
    }

    public int leaves(int site, int doc) {
        int refusal = refusalToLook(site, doc);
        if (refusal != FINE) {
            return refusal;
        }
        int count = 0;
        for (int revision = 0; revision < written; revision++) {
            if (isLeafOf(site, doc, revision)) {
                count++;
            }
        }
        return count;
    }

    public boolean readable(int site, int revision) {
        return isSite(site) && canRead(site, revision);
    }

    public int body(int site, int revision) {
        // Promise 12 says 0 wherever the body can't be read, and a bad site can't read.
        return isSite(site) && canRead(site, revision) ? bodyOf[revision] : 0;
    }

    public int depth(int revision) {
        return exists(revision) ? depthOf[revision] : NO_REVISION;
    }

    public int common(int a, int b) {
        if (!exists(a) || !exists(b)) {
            return NO_REVISION;
        }
        // A parent is written before its children, so of two revisions the one with the greater
        // number is never above the other: raising it can't pass the place where the ways meet.
        int left = a;
        int right = b;
        for (int step = 0; step < 2 * CAPACITY && left != right; step++) {
            if (left > right) {
                left = parentOf[left];
            } else {
                right = parentOf[right];
            }
        }
        return left == NONE ? NO_REVISION : left;
    }

    public int changes(int site) {
        if (!isSite(site)) {
            return BAD_SITE;
        }
        // A site never loses a revision, so what it has is what it came to have.
        int count = 0;
        for (int revision = 0; revision < written; revision++) {
            if (has(site, revision)) {
                count++;
            }
        }
        return count;
    }

    private static boolean isSite(int site) {
        return site >= 0 && site < SITES;
    }

    private static int place(int site, int revision) {
        return site * CAPACITY + revision;
    }

    private static int refusalToLook(int site, int doc) {
        if (!isSite(site)) {
            return BAD_SITE;
        }
        if (doc < 0 || doc >= DOCUMENTS) {
            return BAD_DOC;
        }
        return FINE;
    }

    private int refusalToWrite(int site, int doc) {
        int refusal = refusalToLook(site, doc);
        if (refusal == FINE && written >= CAPACITY) {
            return FULL;
        }
        return refusal;
    }

    private int write(int site, int doc, int parent, int body, boolean deleting) {
        int revision = written;
        documentOf[revision] = doc;
        parentOf[revision] = parent;
        depthOf[revision] = parent == NONE ? 1 : depthOf[parent] + 1;
        bodyOf[revision] = body;
        deletion[revision] = deleting;
        held[place(site, revision)] = true;
        written++;
        return revision;
    }

    private void copy(int from, int to, int revision) {
        held[place(to, revision)] = true;
        forgotten[place(to, revision)] = forgotten[place(from, revision)];
    }

    private boolean exists(int revision) {
        return revision >= 0 && revision < written;
    }

    private boolean has(int site, int revision) {
        return exists(revision) && held[place(site, revision)];
    }

    private boolean hasOf(int site, int doc, int revision) {
        return has(site, revision) && documentOf[revision] == doc;
    }

    // A forgotten revision is never a leaf: it had a child when it was forgotten, a site loses no
    // revision, and a pull brings the child along. So this need not ask whether it is one.
    private boolean canRead(int site, int revision) {
        return has(site, revision) && !forgotten[place(site, revision)];
    }

    private boolean hasChild(int site, int revision) {
        for (int child = 0; child < written; child++) {
            if (parentOf[child] == revision && has(site, child)) {
                return true;
            }
        }
        return false;
    }

    private boolean isLeafOf(int site, int doc, int revision) {
        return hasOf(site, doc, revision) && !hasChild(site, revision);
    }

    private boolean isOpenLeafOf(int site, int doc, int revision) {
        return isLeafOf(site, doc, revision) && !deletion[revision];
    }

    private int bestLeaf(int site, int doc) {
        int best = NONE;
        for (int revision = 0; revision < written; revision++) {
            if (isLeafOf(site, doc, revision) && (best == NONE || beats(revision, best))) {
                best = revision;
            }
        }
        return best;
    }

    private int countBetter(int site, int doc, int revision) {
        int count = 0;
        for (int rival = 0; rival < written; rival++) {
            if (isLeafOf(site, doc, rival) && beats(rival, revision)) {
                count++;
            }
        }
        return count;
    }

    private boolean beats(int a, int b) {
        if (deletion[a] != deletion[b]) {
            return deletion[b];
        }
        if (depthOf[a] != depthOf[b]) {
            return depthOf[a] > depthOf[b];
        }
        if (bodyOf[a] != bodyOf[b]) {
            return bodyOf[a] > bodyOf[b];
        }
        return a > b;
    }
}
