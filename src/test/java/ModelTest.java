/** Long runs of calls, the same at every start, each answer compared with the model's. */
public final class ModelTest {
    private static final int RUNS = 3000;
    private static final int CALLS = 512;
    private static final int[] ODD = {
        -1, -2, -5, 2, 3, 4, 5, 39, 40, 41, 79, 80, Integer.MIN_VALUE, Integer.MAX_VALUE};
    private static final int[] BODIES = {
        0, 1, 1, 2, 2, 3, -1, -2, Integer.MIN_VALUE, Integer.MAX_VALUE};

    private static final Due due = new Due();

    private final DocTrees store = new DocTrees();
    private final Model model = new Model();
    private final int run;
    private final int docs;
    private final int writing;
    private long seed;

    private ModelTest(int run) {
        this.run = run;
        this.docs = 1 + run % 4;
        this.writing = 10 + run / 4 % 5 * 15;
        this.seed = run * 7919L + 1;
    }

    public static void main(String[] args) {
        int full = 0;
        for (int run = 0; run < RUNS && due.allRight(); run++) {
            ModelTest test = new ModelTest(run);
            for (int call = 0; call < CALLS && due.allRight(); call++) {
                test.call();
            }
            full += test.model.size() == 40 ? 1 : 0;
        }
        due.holds("some runs fill the store and some don't", full > 100 && full < RUNS - 100);
        due.end();
    }

    /** A number from 0 to below the bound; the seed goes on by a fixed rule. */
    private int pick(int bound) {
        seed = seed * 6364136223846793005L + 1442695040888963407L;
        return (int) ((seed >>> 33) % bound);
    }

    private int site() {
        return pick(40) == 0 ? ODD[pick(ODD.length)] : pick(2);
    }

    private int doc() {
        return pick(40) == 0 ? ODD[pick(ODD.length)] : pick(docs);
    }

    private int revision() {
        return pick(20) == 0 ? ODD[pick(ODD.length)] : pick(model.size() + 1);
    }

    /** Below what wins or conflicts often enough that trees grow and close. */
    private int parent(int site, int doc) {
        switch (pick(4)) {
            case 0:
                return -1;
            case 1:
                return model.winner(site, doc);
            case 2:
                return model.conflict(site, doc, pick(3));
            default:
                return revision();
        }
    }

    private void call() {
        if (pick(100) < writing) {
            write();
        } else if (pick(6) == 0) {
            copyOrForget();
        } else {
            look();
        }
    }

    private void write() {
        int site = site();
        int doc = doc();
        int parent = parent(site, doc);
        int body = BODIES[pick(BODIES.length)];
        String text = "(" + site + ", " + doc + ", " + parent + ", " + body + ")";
        switch (pick(8)) {
            case 0:
            case 1:
            case 2:
                is("put" + text, store.put(site, doc, parent, body),
                        model.put(site, doc, parent, body));
                break;
            case 3:
            case 4:
                is("branch" + text, store.branch(site, doc, parent, body),
                        model.branch(site, doc, parent, body));
                break;
            default:
                is("delete" + text, store.delete(site, doc, parent),
                        model.delete(site, doc, parent));
                break;
        }
    }

    private void copyOrForget() {
        int site = site();
        int doc = doc();
        if (pick(3) == 0) {
            is("compact(" + site + ")", store.compact(site), model.compact(site));
        } else {
            is("pull(" + site + ", " + doc + ")", store.pull(site, doc), model.pull(site, doc));
        }
    }

    private void look() {
        int site = site();
        int doc = doc();
        String text = "(" + site + ", " + doc + ")";
        switch (pick(8)) {
            case 0:
                is("winner" + text, store.winner(site, doc), model.winner(site, doc));
                break;
            case 1:
                is("conflicts" + text, store.conflicts(site, doc), model.conflicts(site, doc));
                break;
            case 2:
                int i = pick(20) == 0 ? ODD[pick(ODD.length)] : pick(4);
                is("conflict" + text + " " + i, store.conflict(site, doc, i),
                        model.conflict(site, doc, i));
                break;
            case 3:
                is("leaves" + text, store.leaves(site, doc), model.leaves(site, doc));
                break;
            case 4:
                is("changes(" + site + ")", store.changes(site), model.changes(site));
                break;
            default:
                lookAtRevisions(site);
                break;
        }
    }

    private void lookAtRevisions(int site) {
        int a = revision();
        int b = revision();
        switch (pick(4)) {
            case 0:
                is("readable(" + site + ", " + a + ")",
                        store.readable(site, a) ? 1 : 0, model.readable(site, a) ? 1 : 0);
                break;
            case 1:
                is("body(" + site + ", " + a + ")", store.body(site, a), model.body(site, a));
                break;
            case 2:
                is("depth(" + a + ")", store.depth(a), model.depth(a));
                break;
            default:
                is("common(" + a + ", " + b + ")", store.common(a, b), model.common(a, b));
                break;
        }
    }

    private void is(String call, int got, int want) {
        due.is("run " + run + ": " + call, got, want);
    }
}
