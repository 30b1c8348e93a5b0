import java.util.ArrayList;
import java.util.List;

/** All that can be asked of an object, and what comes of going on from it: what is alike in this is alike in all. */
final class Traces {
    private static final int NONE = -1, MOST_UNDONE = 60;
    private final SkyTurns x;
    private final List<Integer> answers = new ArrayList<>();

    private Traces(SkyTurns x) {
        this.x = x;
    }

    /** The object is used up by it: hours are undone, images gone back to, its text is read. */
    static List<Integer> of(SkyTurns x) {
        Traces t = new Traces(x);
        t.ask();
        t.tryAll();
        t.askSeed();
        t.undoAll();
        t.goBack(0);
        t.goBack(1);
        t.readText();
        return t.answers;
    }

    private void add(int answer) {
        answers.add(answer);
    }

    private void ask() {
        for (int k = 0; k <= 13; k++) add(x.told(k));
        for (int p = 0; p < x.told(1); p++) {
            for (int k = 0; k <= 9; k++) add(x.person(p, k));
        }
        for (int w = 0; w <= 2; w++) add(x.word(w));
    }

    private void tryAll() {
        for (int p = 0; p < x.told(1); p++) add(x.chain(p, NONE));
        for (int k = NONE; k <= 1; k++) {
            add(x.shifts(2, 40, k));
            add(x.who(k));
        }
        add(x.sure());
        add(x.judge());
        add(x.payments());
    }

    private void askSeed() {
        int seed = x.seed(0);
        add(seed);
        x.seed(seed);
    }

    private void undoAll() {
        for (int k = 0; k < MOST_UNDONE && x.told(13) > 0; k++) {
            add(x.undo(1));
            askChanging();
        }
        askSeed();
    }

    private void goBack(int image) {
        add(x.goBack(image));
        askChanging();
        askSeed();
    }

    /** What hours and offers change. */
    private void askChanging() {
        for (int k = 3; k <= 8; k++) add(x.told(k));
        for (int p = 0; p < x.told(1); p++) {
            for (int k = 5; k <= 9; k++) add(x.person(p, k));
        }
    }

    private void readText() {
        add(x.feed(' '));
        add(x.feed('4'));
        add(x.feed(';'));
        add(x.edge());
        add(x.fault());
        ask();
    }
}
