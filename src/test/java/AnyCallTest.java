import java.util.function.Supplier;

/** Rule 7 of LANGUAGE.md: no call throws or fails to end, for any arguments in any state. */
public final class AnyCallTest {
    private static final int MIN = Scene.MIN;
    private static final int MAX = Scene.MAX;
    /** The edges of every array and of every range that a call could look into, and far beyond. */
    private static final int[] ANY = {
        MIN, MIN + 1, -81, -80, -41, -40, -5, -4, -3, -2, -1, 0, 1, 2, 3, 4, 5, 7, 8, 38, 39, 40,
        41, 78, 79, 80, 81, 159, 160, 511, 512, 1 << 30, MAX - 1, MAX};
    private static final int[] BODIES = {MIN, 0, MAX};

    private static final Due due = new Due();

    public static void main(String[] args) {
        inState("a new object", DocTrees::new);
        inState("few revisions", Scene::few);
        inState("one revision less than the most", () -> Scene.filledUpTo(39));
        inState("as many as there may be", Scene::full);
        inState("the longest chain", () -> Scene.chain(40));
        inState("the widest fan", () -> Scene.fan(40));
        inState("both sites have all", AnyCallTest::bothHaveAll);
        inState("after the 512th call", AnyCallTest::usedUp);
        due.end();
    }

    private static DocTrees bothHaveAll() {
        DocTrees x = Scene.full();
        x.compact(0);
        for (int doc = 0; doc < 4; doc++) {
            x.pull(0, doc);
            x.pull(1, doc);
        }
        return x;
    }

    private static DocTrees usedUp() {
        DocTrees x = Scene.few();
        for (int call = 0; call < 600; call++) {
            x.changes(call % 2);
        }
        return x;
    }

    private static void inState(String state, Supplier<DocTrees> scene) {
        due.sentence(state + ": looks", () -> looks(scene.get()));
        due.sentence(state + ": looks at two", () -> looksAtTwo(scene.get()));
        due.sentence(state + ": writes", () -> writes(scene));
        due.sentence(state + ": copies", () -> copies(scene));
    }

    private static void looks(DocTrees x) {
        for (int value : ANY) {
            x.depth(value);
            x.changes(value);
        }
        due.holds("every call ended", true);
    }

    private static void looksAtTwo(DocTrees x) {
        for (int a : ANY) {
            for (int b : ANY) {
                x.winner(a, b);
                x.conflicts(a, b);
                x.leaves(a, b);
                x.readable(a, b);
                x.body(a, b);
                x.common(a, b);
                for (int i : ANY) {
                    x.conflict(a, b, i);
                }
            }
        }
        due.holds("every call ended", true);
    }

    /** On one object, so that the calls also meet the states that they themselves make. */
    private static void writes(Supplier<DocTrees> scene) {
        DocTrees x = scene.get();
        for (int parent : ANY) {
            for (int doc : ANY) {
                for (int site : ANY) {
                    for (int body : BODIES) {
                        x.put(site, doc, parent, body);
                        x.branch(site, doc, parent, body);
                    }
                    x.delete(site, doc, parent);
                }
            }
        }
        due.holds("every call ended", true);
        looksAtTwo(x);
    }

    private static void copies(Supplier<DocTrees> scene) {
        DocTrees x = scene.get();
        for (int site : ANY) {
            x.compact(site);
            for (int doc : ANY) {
                x.pull(site, doc);
            }
        }
        due.holds("every call ended", true);
        looksAtTwo(x);
    }
}
