import java.util.ArrayList;
import java.util.List;

/**
 * Each number of each call at every edge, and each two numbers of a call at edges together, in states
 * from a new object to one that is full: the class answers as Naive does, and nothing is thrown.
 */
public final class ExtremesTest {
    private static final Due due = new Due();
    private static final int CALLS = 512;
    private static final int[] FEWER_EDGES = {
        Calls.LEAST, -1, 0, 1, 2, 3, 4, 7, 8, 10, 11, 12, 20, 35, 36, 40, 41, Calls.MOST - 1, Calls.MOST,
    };

    private final int scene;
    private OneSelf x;
    private Naive y;
    private int calls;

    private ExtremesTest(int scene) {
        this.scene = scene;
        anew();
    }

    public static void main(String[] args) {
        for (int scene = 0; scene < Scenes.NAMES.length; scene++) {
            ExtremesTest test = new ExtremesTest(scene);
            test.due("digest");
            for (Object[] call : Calls.ALL) {
                test.oneEdge(call);
                test.twoEdges(call);
                test.due("digest");
                test.anew();
            }
        }
        due.end();
    }

    private void anew() {
        x = new OneSelf();
        y = new Naive();
        Scenes.play(scene, x);
        Scenes.play(scene, y);
        calls = Scenes.calls(scene).size();
    }

    private void due(Object... call) {
        if (calls >= CALLS - 10) anew();
        calls += 2;
        String told = Scenes.NAMES[scene] + ", call " + calls + ": " + Calls.text(call);
        due.is(told, Calls.answer(x, call), Calls.answer(y, call));
        due.is(told + ", then count(8)", x.count(8), y.count(8));
    }

    private void oneEdge(Object[] call) {
        for (int place : Calls.numbers(call)) {
            for (int edge : Calls.EDGES) {
                Object[] changed = call.clone();
                changed[place] = edge;
                due(changed);
            }
        }
    }

    private void twoEdges(Object[] call) {
        List<Integer> places = new ArrayList<>(Calls.numbers(call));
        for (int p : places) {
            for (int q : places) {
                if (p >= q) continue;
                for (int edge : FEWER_EDGES) {
                    for (int other : FEWER_EDGES) {
                        Object[] changed = call.clone();
                        changed[p] = edge;
                        changed[q] = other;
                        due(changed);
                    }
                }
            }
        }
    }
}
