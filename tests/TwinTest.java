import java.util.Random;

/** Runs of calls, ordinary and wild, whose answers are compared with the twin's; no call may ever throw. */
public final class TwinTest {
    private static final int RUNS = 1200, CALLS = 200;
    private static final int[] WILD = {Integer.MIN_VALUE, Integer.MAX_VALUE, -2, -1, 100, 250, 1000, 65536, -1000000001};
    private static final String NAMES = "feed edge fault told person word hour offer take join fruit drift undo shifts sinks"
        + " chain pair owes payments sons words pillar see who sure write judge tear seed keep goBack";
    private static final Check CHECK = new Check();

    private final Random random;
    private final SkyTurns x = new SkyTurns();
    private final Twin y = new Twin();

    private TwinTest(int run) {
        random = new Random(run);
    }

    public static void main(String[] args) {
        for (int run = 0; run < RUNS; run++) new TwinTest(run).run(run);
        CHECK.end();
    }

    private void run(int run) {
        String[] names = NAMES.split(" ");
        feedText(goodText());
        due(run, "edge", x.edge(), y.edge());
        for (int k = 0; k < CALLS; k++) {
            String name = names[random.nextInt(names.length)];
            if (name.equals("edge") && random.nextInt(4) != 0) continue;
            call(run, name);
            if (k % 10 == 0) compareAll(run, name);
        }
    }

    private void due(int run, String call, int got, int want) {
        CHECK.due("run " + run + ": " + call, got, want);
    }

    private int upTo(int most) {
        if (random.nextInt(40) == 0) return WILD[random.nextInt(WILD.length)];
        return random.nextInt(most + 2) - (random.nextInt(8) == 0 ? 1 : 0);
    }

    private int from1To(int most) {
        return Math.max(random.nextInt(10) == 0 ? -1 : 1, upTo(most));
    }

    private void call(int run, String name) {
        int p = upTo(6), w = upTo(2);
        String told = name + " " + p + " " + w;
        switch (name) {
            case "feed": due(run, told, x.feed(upToSame(255)), y.feed(lastDrawn)); break;
            case "edge": newEdge(run); break;
            case "fault": due(run, told, x.fault(), y.fault()); break;
            case "told": due(run, told, x.told(upToSame(13)), y.told(lastDrawn)); break;
            case "person": due(run, told, x.person(p, upToSame(9)), y.person(p, lastDrawn)); break;
            case "word": due(run, told, x.word(w), y.word(w)); break;
            case "hour": due(run, told, x.hour(hoursSame()), y.hour(lastDrawn)); break;
            case "offer": due(run, told, x.offer(p, w), y.offer(p, w)); break;
            case "take": due(run, told, x.take(p), y.take(p)); break;
            case "join": due(run, told, x.join(p), y.join(p)); break;
            case "fruit": due(run, told, x.fruit(upToSame(random.nextBoolean() ? 5 : 99)), y.fruit(lastDrawn)); break;
            case "drift": due(run, told, x.drift(hoursSame()), y.drift(lastDrawn)); break;
            case "undo": due(run, told, x.undo(upToSame(random.nextBoolean() ? 4 : 60)), y.undo(lastDrawn)); break;
            case "payments": due(run, told, x.payments(), y.payments()); break;
            case "sure": due(run, told, x.sure(), y.sure()); break;
            case "judge": due(run, told, x.judge(), y.judge()); break;
            case "tear": due(run, told, x.tear(), y.tear()); break;
            case "seed": due(run, told, x.seed(upToSame(Integer.MAX_VALUE - 2)), y.seed(lastDrawn)); break;
            case "keep": due(run, told, x.keep(upToSame(1)), y.keep(lastDrawn)); break;
            case "goBack": due(run, told, x.goBack(upToSame(1)), y.goBack(lastDrawn)); break;
            default: tryCall(run, name, p, w, told);
        }
    }

    private int lastDrawn;

    private int upToSame(int most) {
        lastDrawn = upTo(most);
        return lastDrawn;
    }

    private int hoursSame() {
        lastDrawn = random.nextInt(4) == 0 ? upTo(99) : from1To(3);
        return lastDrawn;
    }

    private void tryCall(int run, String name, int p, int w, String told) {
        int i = upTo(5) - 1;
        switch (name) {
            case "shifts": {
                int n = from1To(random.nextInt(5) == 0 ? 5 : 3), m = upTo(random.nextBoolean() ? 99 : 12);
                for (int k = -2; k <= n && k < 7; k++) due(run, told + " " + n + " " + m, x.shifts(n, m, k), y.shifts(n, m, k));
                break;
            }
            case "sinks": {
                int n = from1To(random.nextInt(5) == 0 ? 5 : 3), m = upTo(random.nextBoolean() ? 99 : 12);
                due(run, told + " " + n + " " + m, x.sinks(n, m), y.sinks(n, m));
                break;
            }
            case "chain":
                for (int k = -2; k <= 6; k++) due(run, told, x.chain(p, k), y.chain(p, k));
                break;
            case "pair":
                for (int k = -1; k <= 3; k++) due(run, told, x.pair(k), y.pair(k));
                break;
            case "owes": due(run, told, x.owes(p), y.owes(p)); break;
            case "sons": due(run, told, x.sons(p), y.sons(p)); break;
            case "words": {
                int a = upTo(9), b = upTo(9), c = upTo(9), d = upTo(9);
                for (int k = -1; k <= 4; k++) due(run, "words " + a + b + c + d, x.words(a, b, c, d, k), y.words(a, b, c, d, k));
                break;
            }
            case "pillar": {
                int less = from1To(30), n = from1To(40);
                due(run, told, x.pillar(less, n), y.pillar(less, n));
                break;
            }
            case "see": seeWhatMayBe(run); break;
            case "who":
                for (int k = -2; k <= 6; k++) due(run, told, x.who(k), y.who(k));
                break;
            case "write": {
                boolean takes = random.nextBoolean();
                due(run, told, x.write(p, w, takes), y.write(p, w, takes));
                due(run, "judge", x.judge(), y.judge());
                break;
            }
            default: throw new IllegalStateException(name);
        }
    }

    /** Mostly a LOW that somebody's hour leaves, so that there are rows by which it is so. */
    private void seeWhatMayBe(int run) {
        int low = upTo(99);
        if (random.nextInt(6) != 0 && x.told(0) > 0) low = Math.max(0, Math.min(99, x.told(4) + random.nextInt(5) - 1));
        due(run, "see " + low, x.see(low), y.see(low));
    }

    private void compareAll(int run, String behind) {
        for (int k = -1; k <= 14; k++) due(run, behind + ", told " + k, x.told(k), y.told(k));
        for (int p = -1; p <= 6; p++) {
            for (int k = -1; k <= 10; k++) due(run, behind + ", person " + p + " " + k, x.person(p, k), y.person(p, k));
        }
    }

    private void newEdge(int run) {
        String text = goodText();
        if (random.nextBoolean()) text = spoilt(text);
        if (random.nextInt(8) == 0) text = "";
        feedText(text);
        due(run, "edge of " + text, x.edge(), y.edge());
        due(run, "fault of " + text, x.fault(), y.fault());
        for (int w = 0; w < 3; w++) due(run, "word of " + text, x.word(w), y.word(w));
    }

    private void feedText(String text) {
        for (int k = 0; k < text.length(); k++) CHECK.due("feed", x.feed(text.charAt(k)), y.feed(text.charAt(k)));
    }

    private String spoilt(String text) {
        StringBuilder b = new StringBuilder(text);
        String signs = "wptf;, 0123456789xW\u00e9\t";
        for (int k = random.nextInt(3); k >= 0; k--) {
            int at = random.nextInt(b.length());
            char sign = signs.charAt(random.nextInt(signs.length()));
            switch (random.nextInt(4)) {
                case 0: b.setCharAt(at, sign); break;
                case 1: b.insert(at, sign); break;
                case 2: if (b.length() > 1) b.deleteCharAt(at); break;
                default: b.setLength(at + 1);
            }
        }
        return b.toString();
    }

    private String goodText() {
        StringBuilder b = new StringBuilder("w");
        int weights = 1 + random.nextInt(random.nextInt(3) == 0 ? 12 : 4), heavy = 8 + random.nextInt(23);
        for (int k = 0; k < weights; k++) b.append(k > 0 ? "," : "").append(random.nextInt(heavy + 1));
        b.append(";");
        int people = random.nextInt(7);
        if (random.nextBoolean()) b.append(extras());
        int kinds = random.nextInt(6);
        for (int p = 0; p < people; p++) {
            b.append("p").append(kinds == 5 ? random.nextInt(5) : random.nextInt(kinds + 1)).append(" ");
            b.append(1 + random.nextInt(20)).append(" ").append(1 + random.nextInt(random.nextBoolean() ? 9 : 3)).append(" ");
            b.append(random.nextInt(10)).append(" ");
            b.append(p == 0 || random.nextInt(3) == 0 ? 9 : random.nextInt(p)).append(";");
        }
        return b.toString();
    }

    private String extras() {
        String words = "t" + random.nextInt(10) + " " + random.nextInt(10) + " " + random.nextInt(10) + ";";
        String fruit = "f" + random.nextInt(12) + ";";
        return random.nextInt(3) == 0 ? words : random.nextBoolean() ? fruit : fruit + words;
    }
}
