import java.util.List;

/** A refused call: its answer, and that it changed nothing. */
final class Refusal {
    interface Making {
        SkyTurns make();
    }

    interface Call {
        int on(SkyTurns x);
    }

    private Refusal() { }

    /** Of two objects made alike one is called; behind it both must be alike still. */
    static void due(Check check, String name, Making making, Call call, int want) {
        SkyTurns called = making.make();
        SkyTurns left = making.make();
        check.due(name, call.on(called), want);
        check.due(name + ", the fault behind it", called.fault(), left.fault());
        List<Integer> got = Traces.of(called);
        check.holds(name + " changed nothing", got.equals(Traces.of(left)));
    }

    /** The states from which calls are refused. */
    static SkyTurns nothing() {
        return new SkyTurns();
    }

    static SkyTurns nobody() {
        return Check.with("w5,6;");
    }

    /** Two hold, hours can be undone, an image is kept, what was seen and written is so, a text is half told. */
    static SkyTurns full() {
        SkyTurns x = Check.with("w9,20,14;p0 8 5 2 9;p1 6 4 4 0;p2 10 4 9 9;p3 9 5 6 1;p4 7 2 1 1;f4;");
        x.seed(77);
        x.hour(1);
        x.take(1);
        x.hour(1);
        x.keep(0);
        x.offer(4, 1);
        x.hour(2);
        x.offer(0, 2);
        x.join(3);
        x.hour(1);
        x.seed(78);
        x.see(33);
        x.see(33);
        x.write(4, 0, true);
        x.write(1, 1, true);
        Check.feedAll(x, "w7,8;p0 5 6 7");
        return x;
    }

    static SkyTurns fullText() {
        SkyTurns x = new SkyTurns();
        Check.feedAll(x, "w7,8;p0 5 6 7" + " ".repeat(237));
        return x;
    }

    static SkyTurns fullSeen() {
        SkyTurns x = full();
        for (int k = 0; k < 3; k++) x.see(1);
        return x;
    }

    static SkyTurns fullBook() {
        SkyTurns x = full();
        for (int k = 0; k < 18; k++) x.write(2, 0, false);
        return x;
    }
}
