import java.util.LinkedHashMap;
import java.util.Map;

/**
 * All that can be seen of an object, by the names of the calls that tell it. To see what can be undone, the images
 * and what stands on the tape, it undoes, goes back and reads a row: the object is used up then.
 */
final class Seen {
    private final SeeSaws x;
    private final Map<String, Long> told = new LinkedHashMap<>();

    private Seen(SeeSaws x) {
        this.x = x;
    }

    static Map<String, Long> of(SeeSaws x) {
        Seen seen = new Seen(x);
        seen.now();
        seen.undone();
        seen.image(1);
        seen.image(0);
        seen.tape();
        return seen.told;
    }

    private void tell(String name, long value) {
        told.put(name, value);
    }

    private void now() {
        tell("status()", x.status());
        for (int what = 0; what < 17; what++) {
            tell("count(" + what + ")", x.count(what));
        }
        tell("fault()", x.fault());
        tell("stopped()", x.stopped());
        tell("sawdust()", x.sawdust());
        for (int claim = 0; claim < 7; claim++) {
            tell("drawn(" + claim + ", 0)", x.drawn(claim, 0));
            tell("drawn(" + claim + ", 1)", x.drawn(claim, 1));
        }
        stand("");
    }

    private void stand(String when) {
        claims(when, 7);
        for (int place = 0; place < 7; place += 3) {
            tell(when + "asks(0, " + place + ", 0)", x.asks(0, place, 0));
            tell(when + "asks(0, " + place + ", 1)", x.asks(0, place, 1));
        }
        for (int law = -1; law < 6; law++) {
            tell(when + "compare(" + law + ")", x.compare(law));
        }
        tell(when + "tilt(1)", x.tilt(1));
        tell(when + "canBe()", x.canBe());
        tell(when + "weigh(0)", x.weigh(0));
    }

    private void claims(String when, int many) {
        for (int claim = 0; claim < many; claim++) {
            for (int what = 0; what < 3; what++) {
                tell(when + "of(" + claim + ", " + what + ")", x.of(claim, what));
            }
        }
    }

    private void undone() {
        for (int n = 0; n < 17; n++) {
            tell("undo " + n, x.undo());
            tell("undo " + n + ": count(13)", x.count(13));
            claims("undo " + n + ": ", 2);
        }
    }

    private void image(int k) {
        tell("back(" + k + ")", x.back(k));
        for (int what : new int[] {0, 3, 4, 12, 13, 14, 15, 16}) {
            tell("image " + k + ": count(" + what + ")", x.count(what));
        }
        stand("image " + k + ": ");
    }

    /** By twos its bytes come as claims or are sawdust; image 0 should have room for them. */
    private void tape() {
        tell("row()", x.row());
        tell("row: sawdust()", x.sawdust());
        claims("row: ", 7);
    }
}
