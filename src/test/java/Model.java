import java.util.ArrayList;
import java.util.Comparator;
import java.util.HashSet;
import java.util.List;
import java.util.Set;

/** The document worked out a second way, with sets and lists, to compare the class against. */
final class Model {
    private static final class Revision {
        final int number;
        final int doc;
        final Revision parent;
        final int body;
        final boolean deletion;

        Revision(int number, int doc, Revision parent, int body, boolean deletion) {
            this.number = number;
            this.doc = doc;
            this.parent = parent;
            this.body = body;
            this.deletion = deletion;
        }

        /** From this one up to its first revision. */
        List<Revision> way() {
            List<Revision> way = new ArrayList<>();
            for (Revision at = this; at != null; at = at.parent) {
                way.add(at);
            }
            return way;
        }
    }

    private static final Comparator<Revision> BEST_FIRST = Comparator
            .comparing((Revision r) -> !r.deletion)
            .thenComparing(r -> r.way().size())
            .thenComparing(r -> r.body)
            .thenComparing(r -> r.number)
            .reversed();

    private final List<Revision> all = new ArrayList<>();
    private final List<Set<Revision>> has = List.of(new HashSet<>(), new HashSet<>());
    private final List<Set<Revision>> reads = List.of(new HashSet<>(), new HashSet<>());
    private final int[] changes = new int[2];

    int put(int site, int doc, int parent, int body) {
        int refusal = refusal(site, doc, true);
        if (refusal != 0) {
            return refusal;
        }
        List<Revision> leaves = sortedLeaves(site, doc);
        if (parent == -1) {
            Revision winner = leaves.isEmpty() ? null : leaves.get(0);
            boolean live = winner != null && !winner.deletion;
            return live ? DocTrees.CONFLICT : add(site, doc, winner, body, false);
        }
        Revision above = find(parent);
        return leaves.contains(above) ? add(site, doc, above, body, false) : DocTrees.CONFLICT;
    }

    int delete(int site, int doc, int parent) {
        int refusal = refusal(site, doc, true);
        if (refusal != 0) {
            return refusal;
        }
        Revision above = find(parent);
        boolean fine = sortedLeaves(site, doc).contains(above) && !above.deletion;
        return fine ? add(site, doc, above, 0, true) : DocTrees.CONFLICT;
    }

    int branch(int site, int doc, int parent, int body) {
        int refusal = refusal(site, doc, true);
        if (refusal != 0) {
            return refusal;
        }
        Revision above = find(parent);
        boolean fine = has.get(site).contains(above) && above.doc == doc;
        return fine ? add(site, doc, above, body, false) : DocTrees.NO_REVISION;
    }

    int pull(int site, int doc) {
        int refusal = refusal(site, doc, false);
        if (refusal != 0) {
            return refusal;
        }
        Set<Revision> wanted = new HashSet<>(has.get(1 - site));
        wanted.removeIf(r -> r.doc != doc);
        wanted.removeAll(has.get(site));
        has.get(site).addAll(wanted);
        changes[site] += wanted.size();
        int got = wanted.size();
        wanted.retainAll(reads.get(1 - site));
        reads.get(site).addAll(wanted);
        return got;
    }

    int compact(int site) {
        if (badSite(site)) {
            return DocTrees.BAD_SITE;
        }
        Set<Revision> parents = parentsAt(site);
        int before = reads.get(site).size();
        reads.get(site).removeAll(parents);
        return before - reads.get(site).size();
    }

    int winner(int site, int doc) {
        int refusal = refusal(site, doc, false);
        if (refusal != 0) {
            return refusal;
        }
        List<Revision> leaves = sortedLeaves(site, doc);
        return leaves.isEmpty() ? DocTrees.NO_REVISION : leaves.get(0).number;
    }

    int conflicts(int site, int doc) {
        int refusal = refusal(site, doc, false);
        return refusal != 0 ? refusal : sortedConflicts(site, doc).size();
    }

    int conflict(int site, int doc, int i) {
        int refusal = refusal(site, doc, false);
        if (refusal != 0) {
            return refusal;
        }
        List<Revision> conflicts = sortedConflicts(site, doc);
        return i >= 0 && i < conflicts.size() ? conflicts.get(i).number : DocTrees.NO_REVISION;
    }

    int leaves(int site, int doc) {
        int refusal = refusal(site, doc, false);
        return refusal != 0 ? refusal : sortedLeaves(site, doc).size();
    }

    boolean readable(int site, int revision) {
        return !badSite(site) && reads.get(site).contains(find(revision));
    }

    int body(int site, int revision) {
        return readable(site, revision) ? find(revision).body : 0;
    }

    int depth(int revision) {
        return find(revision) == null ? DocTrees.NO_REVISION : find(revision).way().size();
    }

    int common(int a, int b) {
        if (find(a) == null || find(b) == null) {
            return DocTrees.NO_REVISION;
        }
        List<Revision> shared = find(a).way();
        shared.retainAll(find(b).way());
        return shared.isEmpty() ? DocTrees.NO_REVISION : shared.get(0).number;
    }

    int changes(int site) {
        return badSite(site) ? DocTrees.BAD_SITE : changes[site];
    }

    int size() {
        return all.size();
    }

    private int refusal(int site, int doc, boolean writing) {
        if (badSite(site)) {
            return DocTrees.BAD_SITE;
        }
        if (doc < 0 || doc > 3) {
            return DocTrees.BAD_DOC;
        }
        return writing && all.size() == 40 ? DocTrees.FULL : 0;
    }

    private static boolean badSite(int site) {
        return site != 0 && site != 1;
    }

    private Revision find(int number) {
        return number >= 0 && number < all.size() ? all.get(number) : null;
    }

    private int add(int site, int doc, Revision parent, int body, boolean deletion) {
        Revision made = new Revision(all.size(), doc, parent, body, deletion);
        all.add(made);
        has.get(site).add(made);
        reads.get(site).add(made);
        changes[site]++;
        return made.number;
    }

    private Set<Revision> parentsAt(int site) {
        Set<Revision> parents = new HashSet<>();
        for (Revision r : has.get(site)) {
            parents.add(r.parent);
        }
        return parents;
    }

    private List<Revision> sortedLeaves(int site, int doc) {
        List<Revision> leaves = new ArrayList<>(has.get(site));
        leaves.removeIf(r -> r.doc != doc);
        leaves.removeAll(parentsAt(site));
        leaves.sort(BEST_FIRST);
        return leaves;
    }

    private List<Revision> sortedConflicts(int site, int doc) {
        List<Revision> leaves = sortedLeaves(site, doc);
        if (!leaves.isEmpty()) {
            leaves.remove(0);
        }
        leaves.removeIf(r -> r.deletion);
        return leaves;
    }
}
