import java.util.ArrayList;
import java.util.List;

/**
 * All that can be asked of an object, line by line, that of its image behind it. Some 300 calls, and
 * the object is of no use then; what no call tells (a full set of lands hides the tape) is not here.
 */
final class Whole {
    private final VillageRounds x;
    private final List<String> lines = new ArrayList<>();

    private Whole(VillageRounds x) {
        this.x = x;
    }

    static List<String> of(VillageRounds x) {
        Whole whole = new Whole(x);
        whole.askTrace();
        whole.askAll();
        whole.tell("undo()", x.undo());
        whole.askAll();
        return whole.lines;
    }

    private void tell(String call, long answer) {
        lines.add(call + " = " + answer);
    }

    private void askTrace() {
        for (int i = -1; i <= 20; i++) {
            tell("trace(" + i + ")", x.trace(i));
        }
    }

    private void askAll() {
        for (int what = 0; what <= 7; what++) {
            tell("count(" + what + ")", x.count(what));
        }
        for (int plot = 0; plot < x.count(0); plot++) {
            for (int what = 0; what < 5; what++) {
                tell("of(" + plot + ", " + what + ")", x.of(plot, what));
            }
            tell("gives(" + plot + ")", x.gives(plot));
        }
        for (int rule = 0; rule < x.count(1); rule++) {
            tell("burns(" + rule + ")", x.burns(rule));
            for (int kind = 1; kind <= 6; kind++) {
                tell("as(" + rule + ", " + kind + ")", x.as(rule, kind));
            }
            tell("as(" + rule + ", 0)", x.as(rule, 0));
        }
        tell("round(0)", x.round(0));
        askRow();
        askLand();
    }

    /** The first hungry year tells of a row; of several numbers of mouths, so that more of it shows. */
    private void askRow() {
        int mouths = x.set(1, 1);
        tell("mouths", mouths);
        for (int m : new int[] {1, 20, 30, 45}) {
            x.set(1, m);
            tell("judged() with " + m, x.judged());
        }
        x.set(1, mouths);
    }

    /** Years tell what moving costs and how mouths grow; so this comes last. */
    private void askLand() {
        tell("way(9)", x.way(9));
        tell("dry", x.safe(0, 1, 0));
        int village = x.set(0, 0);
        tell("village", village);
        x.set(1, 50);
        tell("move", x.year(0, 1));
        tell("grow", x.set(1, 1));
        tell("land()", x.land());
    }
}
