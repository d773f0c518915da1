import java.util.ArrayList;
import java.util.List;

/**
 * "They change nothing (FINDINGS but count() 8)": two objects are brought to the same state, the one
 * is then called in all the ways that are refused, and afterwards both answer all questions alike.
 */
public final class RefusalsTest {
    private static final Due due = new Due();

    public static void main(String[] args) {
        theLastSceneIsFull();
        int refused = 0;
        for (int scene = 0; scene < Scenes.NAMES.length; scene++) {
            for (Object[] call : Calls.ALL) {
                for (int place : Calls.numbers(call)) {
                    refused += refuse(scene, call, place);
                }
            }
        }
        due.isTrue("there were refusals: " + refused, refused > 10_000);
        due.end();
    }

    private static void theLastSceneIsFull() {
        OneSelf x = at(Scenes.NAMES.length - 1);
        int[] most = {399, 36, 36, 12, 12, 12, 40, 80};
        for (int what = 0; what < most.length; what++) {
            due.is("of all that is full, count(" + what + ")", x.count(what), most[what]);
        }
        due.is("of all that is full, rows in one bundle", x.bundles(2), 36);
    }

    private static OneSelf at(int scene) {
        OneSelf x = new OneSelf();
        Scenes.play(scene, x);
        return x;
    }

    private static int refuse(int scene, Object[] call, int place) {
        String name = (String) call[0];
        OneSelf x = at(scene);
        int refused = 0;
        int latest = x.count(8);
        for (int edge : Calls.EDGES) {
            Object[] changed = call.clone();
            changed[place] = edge;
            // tried on an object of its own, so that only what is refused comes to the one in question
            if (!Calls.isRefused(name, Calls.answer(at(scene), changed))) continue;
            long answer = Calls.answer(x, changed);
            String told = Scenes.NAMES[scene] + ": " + Calls.text(changed);
            due.isTrue(told + " is refused again", Calls.isRefused(name, answer));
            // a get() answers the same to all refusals, so it does not tell which of them was a FINDING
            if (name.equals("get")) latest = x.count(8);
            if (answer <= -11 && answer >= -15) latest = (int) (-10 - answer);
            due.is(told + ", then count(8)", x.count(8), latest);
            refused++;
        }
        compare(Scenes.NAMES[scene] + ", after refusals of " + Calls.text(call) + " at " + place, all(x), all(at(scene)));
        return refused;
    }

    private static void compare(String what, List<Long> got, List<Long> want) {
        due.is(what + ": so many answers", got.size(), want.size());
        for (int k = 0; k < want.size(); k++) {
            due.is(what + ": answer " + k, got.get(k), want.get(k));
        }
    }

    /** What can be asked; where asking is telling, what is told last stays, so this is the end of the object. */
    private static List<Long> all(OneSelf x) {
        List<Long> all = new ArrayList<>();
        all.add(x.digest());
        int rows = x.count(1);
        for (int row = 0; row < rows; row += 5) {
            for (int i = 0; i <= 2; i++) {
                all.add((long) x.letter(row, i));
                all.add((long) x.sound(row, i));
            }
            all.add(x.odds(row, (row + 1) % rows, 0));
            all.add((long) x.slips(0, row));
            all.add((long) x.score(0, row));
        }
        all.add((long) x.keys());
        all.add((long) x.bound(0));
        all.add((long) x.learnt(true, 0, 0));
        all.add((long) x.learnt(false, 1, 3));
        for (int s = 0; s <= 3; s++) {
            for (int type = 0; type <= 2; type++) {
                for (int i = 0; i <= 3; i++) {
                    all.add((long) x.get(s, type, i));
                }
            }
            all.add((long) x.lose(s));
        }
        all.add((long) x.asOf(-1));
        all.add((long) x.line(0));
        for (int k = 0; k < 16; k++) {
            all.add((long) x.points(k / 4, k % 4, 0));
            all.add((long) x.chance(true, k / 4, k % 4, 1));
            all.add((long) x.chance(false, k / 4, k % 4, 1));
        }
        for (int a = 0; a <= 7; a++) {
            for (int b = 0; b < a; b++) {
                all.add((long) x.way(a, b, 50));
            }
        }
        all.add(x.digest());
        all.add((long) x.wipe());
        return all;
    }
}
