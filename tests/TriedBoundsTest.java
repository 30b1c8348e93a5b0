/** Section 3, what is tried, promises 15 to 23: each sentence that names a bound, at both of its sides. */
public final class TriedBoundsTest {
    private static final int NONE = -1, UNKNOWN = -1000000001;
    private static final int MIN = Integer.MIN_VALUE, MAX = Integer.MAX_VALUE;
    private static final Check CHECK = new Check();

    public static void main(String[] args) {
        shiftsHours();
        shiftsFirstOfLikeOnes();
        shiftsLowAllowed();
        shiftsLowThroughout();
        shiftsPlaces();
        shiftsHoldAlone();
        sinksFirstHour();
        sinksFromNowOn();
        nothingChangesByTrying();
        chainLengths();
        chainPlaces();
        chainOneWayAlone();
        chainBackToTheFirst();
        chainByOneWord();
        chainWithTwo();
        pairThereIsNone();
        pairHeights();
        pairFirstOfLikeOnes();
        pairForcesNow();
        owesBothSides();
        paymentsFewest();
        paymentsOfNobody();
        sonsAndTheirs();
        wordsBounds();
        wordsLowestTerms();
        wordsLeastOdds();
        pillarBounds();
        pillarWeightAtLeast();
        pillarWhoHoldNow();
        CHECK.end();
    }

    private static void due(String call, long got, long want) {
        CHECK.due(call, got, want);
    }

    private static SkyTurns with(String text) {
        return Check.with(text);
    }

    /** The row's numbers side by side, its length ahead of them. */
    private static int row(SkyTurns x, int n, int m) {
        int row = n;
        for (int k = 0; k < n; k++) row = row * 10 + x.shifts(n, m, k);
        return row;
    }

    private static void shiftsHours() {
        for (int people = 1; people <= 6; people++) {
            SkyTurns x = with("w0;" + "p0 9 5 0 9;".repeat(people));
            for (int n = 1; n <= 5; n++) due(people + " people, " + n + " hours", x.shifts(n, 0, NONE), (n + people - 1) / people);
        }
        SkyTurns sixth = with("w5;" + "p0 1 5 0 9;".repeat(5) + "p0 5 5 0 9;");
        due("the sixth alone is strong", row(sixth, 1, 0), 15);
        due("two hours by the sixth", row(sixth, 2, 0), 255);
    }

    private static void shiftsFirstOfLikeOnes() {
        SkyTurns two = with("w0;p0 9 5 0 9;p0 9 5 0 9;");
        int[] rows = {10, 201, 3001, 40011, 500011};
        for (int n = 1; n <= 5; n++) due("the first row of " + n + " hours by two", row(two, n, 0), rows[n - 1]);
        SkyTurns three = with("w0;" + "p0 9 5 0 9;".repeat(3));
        due("the first row of four hours by three", row(three, 4, 0), 40011);
        due("the first row of five hours by three", row(three, 5, 0), 500112);
        SkyTurns six = with("w0;" + "p0 9 5 0 9;".repeat(6));
        due("the first row by six", row(six, 5, 99), 501234);
        // 0 may not hold in the second hour, 1 in the first
        SkyTurns kinds = with("w8,9,5;p0 8 5 0 9;p0 7 5 0 9;p0 9 5 0 9;");
        due("the lesser one that may", row(kinds, 3, 0), 3021);
    }

    private static void shiftsLowAllowed() {
        SkyTurns x = with("w9;p0 5 5 0 9;");
        due("as low as allowed", x.shifts(1, 4, NONE), 1);
        due("lower by 1", x.shifts(1, 3, NONE), NONE);
        due("lower by 1, no row", x.shifts(1, 3, 0), NONE);
        SkyTurns heavy = with("w30;p0 1 1 0 9;");
        // 29, 58, 88, 99, 99
        due("88", heavy.shifts(3, 88, NONE), 3);
        due("not 87", heavy.shifts(3, 87, NONE), NONE);
        due("99", heavy.shifts(5, 99, NONE), 5);
        due("not 98", heavy.shifts(4, 98, NONE), NONE);
        SkyTurns light = with("w0;p0 1 1 0 9;");
        due("0", light.shifts(5, 0, NONE), 5);
        SkyTurns dwarf = with("w0;p1 9 1 0 9;");
        due("a dwarf: 2", dwarf.shifts(1, 2, NONE), 1);
        due("a dwarf: not 1", dwarf.shifts(1, 1, NONE), NONE);
    }

    private static void shiftsLowThroughout() {
        SkyTurns first = with("w9,0,0;p0 5 5 0 9;");
        due("low in the first hour: 4", first.shifts(3, 4, NONE), 3);
        due("low in the first hour: not 3", first.shifts(3, 3, NONE), NONE);
        SkyTurns last = with("w0,0,9;p0 5 5 0 9;");
        due("low in the last hour: 5", last.shifts(3, 5, NONE), 3);
        due("low in the last hour: not 4", last.shifts(3, 4, NONE), NONE);
        due("ahead of it", last.shifts(2, 0, NONE), 2);
        SkyTurns middle = with("w0,9,0;p0 5 5 0 9;");
        due("low between: 4", middle.shifts(3, 4, NONE), 3);
        due("low between: not 3", middle.shifts(3, 3, NONE), NONE);
        SkyTurns fifth = with("w0,0,0,0,9;p0 5 5 0 9;p0 9 5 0 9;");
        due("the other one for the fifth alone", row(fifth, 5, 0), 500011);
        due("nobody below its force", with("w0,0,0,0,9;p0 5 5 0 9;p0 8 5 0 9;").shifts(5, 0, NONE), NONE);
    }

    private static void shiftsPlaces() {
        SkyTurns x = with("w0;p0 5 5 0 9;p0 5 5 0 9;");
        for (int i : new int[] {MIN, -2, 5, 6, MAX}) due("place " + i, x.shifts(5, 0, i), NONE);
        due("the last place", x.shifts(5, 0, 4), 1);
        due("the first place", x.shifts(5, 0, 0), 0);
        due("the last place of one", x.shifts(1, 0, 0), 0);
        due("behind the last of one", x.shifts(1, 0, 1), NONE);
        due("behind the last of four, five tried before", x.shifts(4, 0, 4), NONE);
        SkyTurns none = with("w9;p0 5 5 0 9;");
        for (int i : new int[] {MIN, -2, NONE, 0, 1, 2, MAX}) due("no row: place " + i, none.shifts(2, 0, i), NONE);
    }

    private static void shiftsHoldAlone() {
        SkyTurns x = with("w9;p0 5 5 0 9;p0 5 5 0 9;");
        x.join(1);
        due("two would do", x.pillar(1, 1), 0);
        due("one alone does not", x.shifts(1, 3, NONE), NONE);
        SkyTurns statue = with("w9;p2 9 5 0 9;p2 9 5 0 9;");
        due("by turns", row(statue, 5, 0), 501010);
        statue.hour(1);
        due("whoever held last", row(statue, 4, 0), 41010);
        SkyTurns paid = with("w5;p4 9 5 0 9;f2;");
        due("fruit for two hours", paid.shifts(2, 0, NONE), 2);
        due("no fruit for the third", paid.shifts(3, 4, NONE), NONE);
    }

    private static void sinksFirstHour() {
        SkyTurns x = with("w0,0,0,0,9;p0 5 5 0 9;");
        due("it need not in four hours", x.sinks(4, 0), NONE);
        due("in the last of five", x.sinks(5, 0), 4);
        // 5 less 2 of force in the fifth hour
        due("just too deep", x.sinks(5, 5), 4);
        due("just deep enough", x.sinks(5, 6), NONE);
        due("at once", with("w9;p0 5 5 0 9;").sinks(1, 3), 0);
        due("at once, of five", with("w9;p0 5 5 0 9;").sinks(5, 3), 0);
        due("not at once", with("w9;p0 5 5 0 9;").sinks(1, 4), NONE);
        due("the second", with("w9;p0 5 5 0 9;").sinks(5, 4), 1);
        due("99 is never too deep", with("w30;p0 1 1 0 9;").sinks(5, 99), NONE);
        due("98 is", with("w30;p0 1 1 0 9;").sinks(5, 98), 3);
        due("a dwarf", with("w0;p1 9 1 0 9;").sinks(5, 1), 0);
        due("whoever holds: by a row that ends later", with("w5,5,5;p0 5 5 0 9;p0 4 5 0 9;").sinks(5, 0), 2);
    }

    private static void sinksFromNowOn() {
        SkyTurns x = with("w0,0,0,9;p0 5 5 0 9;");
        for (int hour = 0; hour <= 3; hour++) {
            due("from hour " + hour + " on", x.sinks(5, 0), 3 - hour);
            x.hour(1);
        }
    }

    private static void nothingChangesByTrying() {
        SkyTurns tried = Refusal.full();
        for (int k = NONE; k <= 5; k++) {
            tried.shifts(5, 99, k);
            tried.shifts(3, 4, k);
            tried.chain(4, k);
            tried.who(k);
        }
        tried.sinks(5, 3);
        for (int k = 0; k <= 2; k++) tried.pair(k);
        for (int p = 0; p < 5; p++) {
            tried.owes(p);
            tried.sons(p);
        }
        tried.payments();
        for (int k = 0; k <= 3; k++) tried.words(9, 0, 1, 8, k);
        tried.pillar(30, 40);
        tried.sure();
        tried.judge();
        CHECK.holds("nothing changes by trying", Traces.of(tried).equals(Traces.of(Refusal.full())));
    }

    /** Each one a son of the one ahead; no word does it. */
    private static SkyTurns line() {
        StringBuilder b = new StringBuilder("w0;p0 5 5 9 9;");
        for (int p = 1; p < 6; p++) b.append("p0 5 5 9 ").append(p - 1).append(";");
        return with(b.toString());
    }

    private static void chainLengths() {
        SkyTurns x = line();
        for (int p = 0; p < 6; p++) due("chain to " + p, x.chain(p, NONE), p);
        x.take(1);
        due("chain to a father", x.chain(0, NONE), NONE);
        due("chain to who holds", x.chain(1, NONE), 0);
        due("chain to the last", x.chain(5, NONE), 4);
        SkyTurns easy = with("w0;p0 5 5 0 9;p0 5 5 0 9;p0 5 5 0 9;");
        due("who holds, though it could take over again", easy.chain(0, NONE), 0);
        due("who holds, no place", easy.chain(0, 0), NONE);
        easy.join(2);
        due("who holds beside, though it could take over again", easy.chain(2, NONE), 0);
        due("who holds beside, no place", easy.chain(2, 0), NONE);
        SkyTurns alone = with("w0;p0 5 5 0 9;");
        due("one alone", alone.chain(0, NONE), 0);
        due("nobody else", alone.chain(1, NONE), UNKNOWN);
    }

    private static void chainPlaces() {
        SkyTurns x = line();
        for (int k = 0; k < 5; k++) due("the longest: place " + k, x.chain(5, k), k + 1);
        for (int i : new int[] {MIN, -2, 5, 6, MAX}) due("the longest: place " + i, x.chain(5, i), NONE);
        for (int i : new int[] {MIN, -2, 0, 1, MAX}) due("who holds: place " + i, x.chain(0, i), NONE);
        x.take(1);
        for (int i : new int[] {MIN, -2, NONE, 0, 1, MAX}) due("no chain: place " + i, x.chain(0, i), NONE);
        due("the last place of four", x.chain(5, 3), 5);
        due("behind the last of four", x.chain(5, 4), NONE);
    }

    /** One whom no word tricks is reached through its father alone: there are never two shortest ways. */
    private static void chainOneWayAlone() {
        // 1, 2 and 3 fall to a word; 5 is a son of 3, 4 one of 2
        SkyTurns x = with("w0;p0 5 5 9 9;p0 5 5 0 9;p0 5 5 0 9;p0 5 5 0 9;p0 5 5 9 2;p0 5 5 9 3;");
        due("by 2", x.chain(4, NONE), 2);
        due("by 2", x.chain(4, 0) * 10 + x.chain(4, 1), 24);
        due("by 3", x.chain(5, 0) * 10 + x.chain(5, 1), 35);
        due("at once", x.chain(3, 0), 3);
        // 3 and 4 are sons of 1 and 2; 5 is a son of 4 alone
        SkyTurns two = with("w0;p0 5 5 9 9;p0 5 5 9 0;p0 5 5 9 0;p0 5 5 9 1;p0 5 5 9 2;p0 5 5 9 4;");
        due("the longer way", two.chain(5, NONE), 3);
        due("the longer way", two.chain(5, 0) * 100 + two.chain(5, 1) * 10 + two.chain(5, 2), 245);
        due("the lesser way", two.chain(3, 0) * 10 + two.chain(3, 1), 13);
    }

    private static void chainBackToTheFirst() {
        SkyTurns x = with("w0;p0 5 5 6 9;p0 5 5 6 9;p0 5 5 9 0;");
        x.offer(1, 2);
        due("to 0 again", x.chain(0, NONE), 1);
        due("to 0 again", x.chain(0, 0), 0);
        due("by 0 to its son", x.chain(2, NONE), 2);
        due("by 0 to its son", x.chain(2, 0) * 10 + x.chain(2, 1), 2);
        x.offer(0, 2);
        due("a son of 0", x.chain(2, NONE), 1);
        x.take(2);
        due("0 has fallen to it", x.chain(0, NONE), NONE);
    }

    /** Each takes over by some word that is better than its wits and that it has not fallen to. */
    private static void chainByOneWord() {
        for (int w = 0; w < 3; w++) {
            String words = w == 0 ? "t5 4 4;" : w == 1 ? "t4 5 4;" : "t4 4 5;";
            SkyTurns x = with("w0;p0 5 5 0 9;p0 5 5 4 9;p0 5 5 5 9;" + words);
            due("better by 1", x.chain(1, NONE), 1);
            due("as good as its wits", x.chain(2, NONE), NONE);
            x.offer(1, w);
            x.offer(0, w);
            due("fallen to it", x.chain(1, NONE), NONE);
            due("who holds", x.chain(0, NONE), 0);
        }
        SkyTurns some = with("w0;p0 5 5 0 9;p0 5 5 4 9;");
        some.offer(1, 1);
        some.offer(0, 1);
        due("another word is left", some.chain(1, NONE), 1);
        some.offer(1, 2);
        some.offer(0, 2);
        due("no word is left", some.chain(1, NONE), NONE);
    }

    private static void chainWithTwo() {
        SkyTurns x = line();
        x.join(1);
        due("the holder", x.chain(0, NONE), 0);
        due("who holds beside", x.chain(1, NONE), 0);
        due("who holds beside, no place", x.chain(1, 0), NONE);
        due("a son of who holds beside", x.chain(2, NONE), 1);
        due("a son of who holds beside", x.chain(2, 0), 2);
        due("its son", x.chain(3, 0) * 10 + x.chain(3, 1), 23);
        SkyTurns tricked = with("w0;p0 5 5 0 9;p0 5 5 0 9;p0 5 5 0 9;p0 5 5 9 2;p0 5 5 9 9;");
        tricked.join(1);
        due("not over who holds beside", tricked.chain(3, 0) * 10 + tricked.chain(3, 1), 23);
        due("a word to the third", tricked.chain(2, 0), 2);
        due("nobody leads there", tricked.chain(4, NONE), NONE);
    }

    private static void pairThereIsNone() {
        SkyTurns[] none = {new SkyTurns(), with("w5;"), with("w5;p0 5 5 0 9;"), with("w5;p0 5 1 0 9;p0 5 3 0 9;p0 5 5 0 9;p0 5 7 0 9;p0 5 9 0 9;")};
        for (SkyTurns x : none) {
            for (int what = 0; what <= 2; what++) due("no pair: " + what, x.pair(what), NONE);
        }
    }

    private static void pairHeights() {
        for (int height = 1; height <= 9; height++) {
            SkyTurns x = with("w5;p0 3 5 0 9;p0 4 " + height + " 0 9;");
            boolean level = height >= 4 && height <= 6;
            due("height " + height, x.pair(0), level ? 0 : NONE);
            due("height " + height, x.pair(1), level ? 1 : NONE);
            due("height " + height, x.pair(2), level ? 7 : NONE);
        }
    }

    private static void pairFirstOfLikeOnes() {
        SkyTurns like = with("w5;" + "p0 5 5 0 9;".repeat(6));
        due("of like ones the first", like.pair(0) * 10 + like.pair(1), 1);
        // 0 with 3, 1 with 2: both 10
        SkyTurns lesser = with("w5;p0 4 5 0 9;p0 5 8 0 9;p0 5 8 0 9;p0 6 5 0 9;");
        due("the lesser first one", lesser.pair(0) * 10 + lesser.pair(1), 3);
        SkyTurns other = with("w5;p0 5 5 0 9;p0 4 5 0 9;p0 6 5 0 9;p0 6 5 0 9;p0 5 5 0 9;");
        due("the most of all", other.pair(0) * 10 + other.pair(1), 23);
        SkyTurns then = with("w5;p0 6 5 0 9;p0 4 5 0 9;p0 5 5 0 9;p0 5 5 0 9;");
        due("then the lesser other", then.pair(0) * 10 + then.pair(1), 2);
        SkyTurns last = with("w5;" + "p0 1 5 0 9;".repeat(4) + "p0 9 1 0 9;p0 9 2 0 9;");
        due("the last two", last.pair(0) * 10 + last.pair(1), 45);
        due("the last two", last.pair(2), 18);
    }

    private static void pairForcesNow() {
        SkyTurns x = with("w5;p0 6 5 0 9;p0 6 5 0 9;p0 5 5 0 9;");
        due("at first", x.pair(0) * 10 + x.pair(1), 1);
        x.hour(2);
        due("tired by 2", x.pair(2), 11);
        x.hour(2);
        due("tired by 4", x.pair(0) * 10 + x.pair(1), 12);
        SkyTurns none = with("w5;p4 6 5 0 9;p4 6 5 0 9;f0;");
        due("of no force", none.pair(0) * 10 + none.pair(1), 1);
        due("of no force", none.pair(2), 0);
    }

    /** Each one holds so many hours, one behind the other. */
    private static SkyTurns held(int... hours) {
        StringBuilder b = new StringBuilder("w0;t9 9 9;");
        for (int k = 0; k < hours.length; k++) b.append("p0 9 5 0 9;");
        SkyTurns x = with(b.toString());
        for (int p = 0; p < hours.length; p++) {
            if (p > 0) x.offer(p, 0);
            if (hours[p] > 0) x.hour(hours[p]);
        }
        return x;
    }

    private static void owesBothSides() {
        SkyTurns x = held(3, 0, 1, 0, 0, 2);
        int[] owes = {12, -6, 0, -6, -6, 6};
        for (int p = 0; p < 6; p++) due("owes(" + p + ")", x.owes(p), owes[p]);
        due("owes(6)", x.owes(6), UNKNOWN);
        due("one alone is even", held(99).owes(0), 0);
        due("none held", held(0, 0).owes(1), 0);
        due("two", held(2, 1).owes(0), 1);
        due("two", held(2, 1).owes(1), -1);
    }

    private static void paymentsFewest() {
        due("one alone", held(9).payments(), 0);
        due("none held", held(0, 0, 0, 0, 0, 0).payments(), 0);
        due("all held as many", held(2, 2, 2, 2, 2, 2).payments(), 0);
        due("two", held(1, 0).payments(), 1);
        due("two of three", held(3, 1, 2).payments(), 1);
        due("one for two", held(1, 0, 0).payments(), 2);
        due("two for two", held(2, 2, 0, 0).payments(), 2);
        due("three for one", held(2, 2, 2, 0).payments(), 3);
        due("one for one of four", held(1, 1, 2, 0).payments(), 1);
        due("one for five", held(6, 0, 0, 0, 0, 0).payments(), 5);
        due("five for one", held(1, 1, 1, 1, 1, 0).payments(), 5);
        due("three pairs", held(3, 7, 2, 8, 4, 6).payments(), 3);
        due("twice three", held(12, 5, 4, 14, 6, 1).payments(), 4);
        due("a pair and four", held(7, 13, 15, 14, 3, 8).payments(), 4);
        due("a pair, three, one even", held(11, 9, 10, 15, 8, 7).payments(), 3);
    }

    private static void paymentsOfNobody() {
        due("no weights", new SkyTurns().payments(), 0);
        due("no people", with("w5;").payments(), 0);
    }

    private static void sonsAndTheirs() {
        SkyTurns x = line();
        x.hour(3);
        x.take(1);
        x.take(2);
        x.hour(1);
        // 14 for the first, -4 less for the others, but for the third: 2
        int[] owes = {14, -4, 2, -4, -4, -4};
        int sum = 0;
        for (int p = 5; p >= 0; p--) {
            sum += owes[p];
            due("owes(" + p + ")", x.owes(p), owes[p]);
            due("sons(" + p + ")", x.sons(p), sum);
        }
        due("all together", x.sons(0), 0);
        due("sons(6)", x.sons(6), UNKNOWN);
        SkyTurns none = held(4, 1);
        due("without sons", none.sons(0), none.owes(0));
        due("without sons", none.sons(1), -3);
    }

    private static void game(int a, int b, int c, int d, int... want) {
        SkyTurns x = new SkyTurns();
        for (int what = 0; what <= 3; what++) {
            due("words(" + a + ", " + b + ", " + c + ", " + d + ", " + what + ")", x.words(a, b, c, d, what), want[what]);
        }
    }

    private static void wordsBounds() {
        game(0, 0, 0, 0, 0, 1, 0, 1);
        game(9, 9, 9, 9, 9, 1, 0, 1);
        game(9, 9, 0, 0, 9, 1, 1, 1);
        game(0, 0, 9, 9, 9, 1, 0, 1);
        game(9, 0, 0, 9, 9, 2, 1, 2);
        game(0, 9, 9, 0, 9, 2, 1, 2);
        game(1, 0, 0, 9, 9, 10, 9, 10);
        game(9, 0, 0, 1, 9, 10, 1, 10);
        game(9, 0, 0, 8, 72, 17, 8, 17);
        game(0, 0, 0, 9, 0, 1, 0, 1);
        game(9, 0, 0, 0, 0, 1, 0, 1);
        game(0, 9, 0, 0, 0, 1, 0, 1);
        game(0, 0, 9, 0, 0, 1, 0, 1);
    }

    private static void wordsLowestTerms() {
        game(2, 0, 0, 2, 1, 1, 1, 2);
        game(6, 0, 0, 3, 2, 1, 1, 3);
        game(8, 2, 2, 8, 5, 1, 1, 2);
        game(8, 4, 2, 6, 5, 1, 1, 2);
        game(6, 2, 0, 8, 4, 1, 2, 3);
        game(0, 4, 6, 0, 12, 5, 3, 5);
    }

    private static void wordsLeastOdds() {
        game(5, 5, 5, 5, 5, 1, 0, 1);
        game(4, 9, 4, 0, 4, 1, 4, 9);
        game(9, 4, 0, 4, 4, 1, 4, 9);
        game(4, 0, 4, 9, 4, 1, 0, 1);
        game(3, 3, 3, 7, 3, 1, 0, 1);
        game(3, 7, 3, 3, 3, 1, 0, 1);
        game(3, 4, 3, 2, 3, 1, 1, 2);
        game(3, 4, 2, 4, 3, 1, 1, 1);
        game(2, 4, 3, 4, 3, 1, 0, 1);
    }

    private static void pillarBounds() {
        SkyTurns x = with("w30;p0 1 1 0 9;");
        // 29, 58, 88, 99, .. as it is
        due("pillar(1, 1)", x.pillar(1, 1), 1);
        due("pillar(28, 1)", x.pillar(28, 1), 28);
        due("pillar(29, 1)", x.pillar(29, 1), 29);
        due("pillar(30, 1)", x.pillar(30, 1), 29);
        due("pillar(30, 2)", x.pillar(30, 2), 29 + 58);
        due("pillar(30, 40)", x.pillar(30, 40), 29 + 58 + 88 + 37 * 99);
        // 28, 56, 85, 99, ..
        due("pillar(1, 40)", x.pillar(1, 40), 1 + 2 + 3);
        x.hour(4);
        due("at its lowest", x.pillar(1, 40), 0);
        due("no force against no weight leaves it there", x.pillar(30, 40), 0);
        SkyTurns strong = with("w30;p0 20 1 0 9;p0 1 1 0 9;");
        due("pillar(10, 1)", strong.pillar(10, 1), 10);
        due("pillar(9, 1)", strong.pillar(9, 1), 9);
        due("pillar(11, 1)", strong.pillar(11, 1), 10);
    }

    private static void pillarWeightAtLeast() {
        SkyTurns x = with("w3;p0 1 1 0 9;");
        // 2, 4, 7 as it is
        due("weight 1", x.pillar(2, 1), 2);
        due("weight 0", x.pillar(3, 1), 2);
        due("weight 0 at least", x.pillar(4, 1), 2);
        due("weight 0 at least, 30", x.pillar(30, 3), 2 + 4 + 7);
        // in the third hour there is no force
        due("weight 1, three hours", x.pillar(2, 3), 2 + 4 + 6);
        x.hour(3);
        due("from 7 on, no force: 10 against 7", x.pillar(30, 1), 3);
        SkyTurns none = with("w0;p0 1 1 0 9;");
        due("no weight can be less", none.pillar(30, 40), 0);
    }

    private static void pillarWhoHoldNow() {
        SkyTurns two = with("w9;p0 5 5 0 9;p0 3 5 0 9;");
        due("one", two.pillar(4, 1), 4);
        two.join(1);
        due("two", two.pillar(4, 1), 1);
        SkyTurns dwarf = with("w5;p1 5 5 0 9;");
        due("a dwarf", dwarf.pillar(5, 1), 0);
        SkyTurns later = with("w9,3;p0 5 5 0 9;");
        later.hour(1);
        due("from this hour's weight on", later.pillar(1, 1), 0);
        due("the next one's, too", later.pillar(1, 2), 1);
    }
}
