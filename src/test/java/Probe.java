import java.util.ArrayList;
import java.util.List;

/** All that the face shows of an object. Reading it uses up what may be undone, the tape and who is there. */
final class Probe {
    private static final int MOST_KNOWN = 8;
    private final CryptBays x;
    private final List<Long> answers = new ArrayList<>();

    private Probe(CryptBays x) {
        this.x = x;
    }

    static List<Long> of(CryptBays x) {
        Probe probe = new Probe(x);
        probe.state();
        probe.past();
        if (probe.tell(x.restore()) == 1) {
            probe.state();
            probe.past();
        }
        probe.tape();
        probe.sheets();
        return probe.answers;
    }

    private int tell(int answer) {
        answers.add((long) answer);
        return answer;
    }

    private void state() {
        for (int what = 0; what <= 6; what++) {
            tell(x.count(what));
        }
        int holders = x.count(0);
        for (int h = 0; h < holders; h++) {
            for (int what = 0; what <= 4; what++) {
                tell(x.of(h, what));
            }
        }
        for (int b = 0; b < 6; b++) {
            for (int what = 0; what <= 2; what++) {
                tell(x.at(b, what));
            }
        }
        // The draw is read by telling another one; what is undone or restored next brings its own.
        tell(x.seed(0));
    }

    private void past() {
        int holders = x.count(0);
        for (int known = 0; known <= MOST_KNOWN && tell(x.undo()) >= 0; known++) {
            tell(x.count(1));
            tell(x.count(2));
            for (int h = 0; h < holders; h++) {
                tell(x.of(h, 1));
                tell(x.of(h, 2));
            }
            for (int b = 0; b < 6; b++) {
                tell(x.at(b, 2));
            }
            tell(x.seed(0));
        }
    }

    /** The letters of the tape as far as a crypt shows them: five of them and one more are lamps. */
    private void tape() {
        tell(x.type('6'));
        tell(x.crypt());
        for (int b = 0; b < 6; b++) {
            tell(x.at(b, 0));
        }
    }

    /** Items by the looks of a plain one who gets used by 1 a day. */
    private void sheets() {
        for (char letter : "999999;p0@0".toCharArray()) {
            x.type(letter);
        }
        tell(x.crypt());
        for (int s = 0; s < 4; s++) {
            for (int lane = 0; lane < 4; lane++) {
                int i = 0;
                int is = tell(x.looks(0, s, lane, i, 1, 2));
                while (is >= -4 && i < 24) {
                    i++;
                    is = tell(x.looks(0, s, lane, i, 1, 2));
                }
            }
            tell(x.drop(s));
        }
    }
}
