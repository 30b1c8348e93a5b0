/** Counts the answers that are not the ones that are due, and prints them. */
final class Check {
    private int right = 0;
    private int wrong = 0;

    void due(String call, long got, long want) {
        if (got == want) {
            right++;
            return;
        }
        wrong++;
        System.out.println(call + " answered " + got + ", due is " + want);
    }

    void holds(String claim, boolean so) {
        due(claim, so ? 1 : 0, 1);
    }

    void end() {
        System.out.println(right + " answers as due, " + wrong + " not");
        if (wrong != 0) System.exit(1);
    }

    static int feedAll(SkyTurns x, String text) {
        int length = x.told(2);
        for (int k = 0; k < text.length(); k++) length = x.feed(text.charAt(k));
        return length;
    }

    static SkyTurns with(String text) {
        SkyTurns x = new SkyTurns();
        feedAll(x, text);
        x.edge();
        return x;
    }
}
