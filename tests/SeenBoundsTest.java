/** What was SEEN, THE BOOK, THE SEED, IMAGES, promises 24 to 32: each sentence that names a bound, at both of its sides. */
public final class SeenBoundsTest {
    private static final int NONE = -1, OUTSIDE = -1000000002, NOT = -1000000003, FULL = -1000000004;
    private static final int MIN = Integer.MIN_VALUE, MAX = Integer.MAX_VALUE;
    private static final Check CHECK = new Check();

    public static void main(String[] args) {
        seenAtMost();
        seenLows();
        whoNothingSeen();
        whoHowMany();
        whoPlaces();
        whoNotSo();
        whoFromNowOn();
        sureSets();
        sureWithoutAny();
        bookAtMost();
        bookRight();
        bookWrong();
        bookOfWhoHolds();
        bookFromNowOn();
        tornBoth();
        seedBounds();
        imagesEach();
        imagesAll();
        imagesKeepNoHours();
        CHECK.end();
    }

    private static void due(String call, long got, long want) {
        CHECK.due(call, got, want);
    }

    private static SkyTurns with(String text) {
        return Check.with(text);
    }

    private static SkyTurns seen(String text, int... lows) {
        SkyTurns x = with(text);
        for (int low : lows) x.see(low);
        return x;
    }

    private static void seenAtMost() {
        SkyTurns x = with("w5;p0 5 5 0 9;");
        due("nothing seen", x.told(11), 0);
        for (int k = 1; k <= 5; k++) {
            due("see", x.see(0), k);
            due("seen", x.told(11), k);
        }
        due("the sixth", x.see(0), FULL);
        due("five at most", x.told(11), 5);
        x.tear();
        due("see, torn", x.see(0), 1);
    }

    private static void seenLows() {
        SkyTurns x = with("w5;p0 5 5 0 9;");
        due("see(-1)", x.see(-1), OUTSIDE);
        due("see(100)", x.see(100), OUTSIDE);
        due("see(0)", x.see(0), 1);
        due("see(99)", x.see(99), 2);
        due("low 0 is told apart", seen("w5;p0 5 5 0 9;", 0).who(NONE), 1);
        due("low 1 is told apart", seen("w5;p0 5 5 0 9;", 1).who(NONE), 0);
        due("low 99 is told apart", seen("w30;p0 1 5 0 9;", 29, 58, 88, 99, 99).who(NONE), 1);
        due("low 98 is told apart", seen("w30;p0 1 5 0 9;", 29, 58, 88, 98).who(NONE), 0);
    }

    private static void whoNothingSeen() {
        for (int people = 1; people <= 6; people++) {
            SkyTurns x = with("w5;" + "p0 5 5 0 9;".repeat(people));
            due("nothing seen: one row", x.who(NONE), 1);
            for (int i : new int[] {MIN, -2, 0, 1, MAX}) due("of no hours: place " + i, x.who(i), NONE);
            due("nobody holds in it", x.sure(), 0);
        }
    }

    private static void whoHowMany() {
        for (int people = 1; people <= 6; people++) {
            SkyTurns x = with("w0;" + "p0 9 5 0 9;".repeat(people));
            int rows = 1;
            for (int hours = 1; hours <= 5; hours++) {
                x.see(0);
                rows *= people;
                due(people + " people, " + hours + " hours", x.who(NONE), rows);
            }
            due("the first row", x.who(4), 0);
        }
    }

    private static void whoPlaces() {
        SkyTurns x = seen("w5;" + "p0 4 5 0 9;".repeat(5) + "p0 5 5 0 9;", 0, 1, 1, 2, 2);
        // low as before is told by the strong one, lower by 1 by the others
        due("the others' first", x.who(0) * 10 + x.who(1), 50);
        due("the last place", x.who(4), 5);
        for (int i : new int[] {MIN, -2, 5, 6, MAX}) due("place " + i, x.who(i), NONE);
        x.tear();
        x.see(0);
        due("of one hour", x.who(0), 5);
        due("of one hour, its end", x.who(1), NONE);
    }

    private static void whoNotSo() {
        SkyTurns x = seen("w5;p0 5 5 0 9;p0 4 5 0 9;", 2);
        for (int i : new int[] {MIN, -2, 0, 1, 4, MAX}) due("no row: place " + i, x.who(i), NONE);
        due("no row", x.who(NONE), 0);
        SkyTurns last = seen("w5;p0 5 5 0 9;p0 4 5 0 9;", 0, 0, 0, 1, 9);
        due("not so in the last hour", last.who(NONE), 0);
        due("not so in the last hour", last.who(0), NONE);
    }

    private static void whoFromNowOn() {
        SkyTurns x = seen("w5,9;p0 5 5 0 9;p0 4 5 0 9;", 0, 5);
        due("0, then 1", x.who(NONE), 1);
        due("0, then 1", x.who(0) * 10 + x.who(1), 1);
        x.hour(1);
        due("from the second hour on", x.who(NONE), 0);
        x.undo(1);
        due("undone", x.who(NONE), 1);
        SkyTurns two = seen("w9;p0 5 5 0 9;p0 4 5 0 9;", 0);
        two.join(1);
        due("they held alone", two.who(NONE), 0);
        two.tear();
        two.see(4);
        due("they held alone", two.who(NONE) * 10 + two.who(0), 10);
    }

    private static void sureSets() {
        due("the first", seen("w5;p0 5 5 0 9;" + "p0 4 5 0 9;".repeat(5), 0).sure(), 1);
        due("the sixth", seen("w5;" + "p0 4 5 0 9;".repeat(5) + "p0 5 5 0 9;", 0).sure(), 32);
        due("one alone", seen("w5;p0 5 5 0 9;", 0, 0, 1, 2, 4).sure(), 1);
        due("any of six", seen("w0;" + "p0 9 5 0 9;".repeat(6), 0, 0).sure(), 0);
        String six = "p0 5 5 0 9;p0 6 5 0 9;p0 7 5 0 9;p0 8 5 0 9;p0 19 5 0 9;p0 1 5 0 9;";
        SkyTurns five = seen("w20,5,6,7,8;" + six, 1, 1, 1, 1, 1);
        due("five of them, each in one hour", five.sure(), 31);
        due("the only row", five.who(NONE), 1);
        due("its first two", five.who(0) * 10 + five.who(1), 40);
        due("4 in the first hour, then 4 or 3", seen("w9,8;" + six.replace("19", "9"), 0, 0).sure(), 16);
        due("in either row, not at the same hour", seen("w5;p0 4 5 0 9;p0 5 5 0 9;", 1, 1).sure(), 3);
    }

    private static void sureWithoutAny() {
        due("no row", seen("w5;p0 5 5 0 9;", 9).sure(), 0);
        due("nothing seen", with("w5;p0 5 5 0 9;").sure(), 0);
        SkyTurns x = seen("w5;p0 5 5 0 9;", 0);
        due("one row", x.sure(), 1);
        x.see(99);
        due("none any more", x.sure(), 0);
    }

    private static void bookAtMost() {
        SkyTurns x = with("w5;p0 5 5 0 9;p0 5 5 9 9;");
        due("no book", x.told(12), 0);
        due("no book", x.judge(), NONE);
        for (int k = 1; k <= 20; k++) {
            due("write", x.write(1, k % 3, false), k);
            due("lines", x.told(12), k);
        }
        due("the 21st", x.write(1, 0, false), FULL);
        due("20 at most", x.told(12), 20);
        due("all right", x.judge(), NONE);
        x.tear();
        due("write, torn", x.write(1, 0, false), 1);
    }

    private static void bookRight() {
        SkyTurns x = with("w5;p0 5 5 0 9;p0 5 5 4 9;p0 5 5 0 9;");
        x.write(1, 0, false);
        x.write(1, 1, true);
        x.write(2, 0, true);
        x.write(1, 1, false);
        x.write(1, 2, true);
        x.write(0, 2, true);
        due("right", x.judge(), NONE);
        due("nothing is done by it", x.told(7), 0);
        due("nobody has fallen by it", x.person(1, 7) + x.person(2, 7) + x.person(0, 7), 0);
        due("right again", x.judge(), NONE);
    }

    private static void bookWrong() {
        SkyTurns first = with("w5;p0 5 5 0 9;p0 5 5 9 9;");
        first.write(1, 2, true);
        first.write(1, 2, true);
        due("the first of two wrong ones", first.judge(), 0);
        SkyTurns last = with("w5;p0 5 5 0 9;p0 5 5 9 9;p0 5 5 0 9;");
        for (int k = 0; k < 19; k++) last.write(1, 2, false);
        due("19 right ones", last.judge(), NONE);
        last.write(2, 2, false);
        due("the 20th", last.judge(), 19);
        SkyTurns equal = with("w5;p0 5 5 0 9;p0 5 5 3 9;");
        equal.write(1, 0, true);
        due("as good as its wits: told to take over", equal.judge(), 0);
    }

    private static void bookOfWhoHolds() {
        for (boolean takes : new boolean[] {false, true}) {
            SkyTurns x = with("w5;p0 5 5 0 9;p0 5 5 0 9;p0 5 5 0 9;");
            x.write(0, 2, takes);
            due("one who holds", x.judge(), 0);
            x.tear();
            x.write(1, 2, true);
            x.write(1, 1, takes);
            due("one who holds then", x.judge(), 1);
            x.tear();
            x.join(1);
            x.write(1, 2, takes);
            due("one who holds beside", x.judge(), 0);
            x.tear();
            x.write(2, 2, true);
            x.write(1, 2, true);
            due("one who held beside", x.judge(), NONE);
        }
    }

    private static void bookFromNowOn() {
        SkyTurns x = with("w5;p0 5 5 0 9;p0 5 5 0 9;");
        x.write(1, 2, true);
        due("right", x.judge(), NONE);
        x.offer(1, 2);
        due("it holds now", x.judge(), 0);
        x.offer(0, 2);
        due("it has fallen to it", x.judge(), 0);
        x.tear();
        x.write(1, 2, false);
        due("right now", x.judge(), NONE);
    }

    private static void tornBoth() {
        SkyTurns x = with("w5;p0 5 5 0 9;");
        due("neither", x.tear(), 0);
        x.see(1);
        due("one seen", x.tear(), 1);
        x.write(0, 0, true);
        due("one line", x.tear(), 1);
        for (int k = 0; k < 5; k++) x.see(1);
        for (int k = 0; k < 20; k++) x.write(0, 0, true);
        due("all of both", x.tear(), 25);
        due("nothing seen", x.told(11), 0);
        due("no book", x.told(12), 0);
        due("no row is told any more", x.who(NONE), 1);
        due("no line is wrong any more", x.judge(), NONE);
        due("again", x.tear(), 0);
    }

    private static void seedBounds() {
        SkyTurns x = with("w5;p0 5 5 0 9;");
        due("0 at first", x.seed(MAX), 0);
        due("the most", x.seed(0), MAX);
        due("the least", x.seed(1), 0);
        due("-1", x.seed(-1), OUTSIDE);
        due("the least number of all", x.seed(MIN), OUTSIDE);
        due("as it was", x.seed(MAX), 1);
        // 2147483647 times 1103515245 and 12345 is left over by 2 to the 31 as 12345 less 1103515245 and 2 to the 31
        x.drift(1);
        due("left over", x.seed(0), 1043980748);
        x.drift(1);
        due("from 0 on", x.seed(0), 12345);
    }

    private static void imagesEach() {
        SkyTurns x = with("w5;p0 5 5 0 9;");
        due("keep(-1)", x.keep(-1), -1000000001);
        due("keep(2)", x.keep(2), -1000000001);
        due("0 was not kept", x.goBack(0), NOT);
        due("1 was not kept", x.goBack(1), NOT);
        x.hour(1);
        due("keep(1)", x.keep(1), 1);
        due("0 was not kept still", x.goBack(0), NOT);
        x.hour(1);
        due("keep(0)", x.keep(0), 1);
        x.hour(1);
        due("goBack(1)", x.goBack(1), 1);
        due("image 1", x.told(3), 1);
        due("goBack(0)", x.goBack(0), 1);
        due("image 0", x.told(3), 2);
        x.keep(1);
        x.hour(7);
        x.goBack(1);
        due("image 1 becomes another", x.told(3), 2);
        due("goBack(-1)", x.goBack(-1), -1000000001);
        due("goBack(2)", x.goBack(2), -1000000001);
        SkyTurns nobody = new SkyTurns();
        due("kept without weights", nobody.keep(0), 1);
        nobody.fruit(5);
        due("back without weights", nobody.goBack(0), 1);
        due("back without weights: fruit", nobody.told(6), 9);
    }

    /** All of section 2 and THE SEED come back; what was SEEN, THE BOOK and THE TEXT stay. */
    private static void imagesAll() {
        SkyTurns x = with("w9,4;p0 5 5 0 9;p4 6 5 0 0;p0 3 5 0 9;f5;");
        x.offer(1, 2);
        x.hour(3);
        x.join(2);
        x.seed(MAX);
        x.see(1);
        x.keep(1);
        int[] told = new int[14];
        int[] persons = new int[30];
        for (int k = 0; k < 14; k++) told[k] = x.told(k);
        for (int k = 0; k < 30; k++) persons[k] = x.person(k / 10, k % 10);
        x.drift(9);
        x.fruit(9);
        x.offer(0, 0);
        x.see(2);
        x.write(0, 0, true);
        Check.feedAll(x, "w1");
        x.goBack(1);
        for (int k = 3; k <= 10; k++) due("as it was: told(" + k + ")", x.told(k), told[k]);
        for (int k = 0; k < 30; k++) due("as it was: person(" + k / 10 + ", " + k % 10 + ")", x.person(k / 10, k % 10), persons[k]);
        due("as it was: the seed", x.seed(7), MAX);
        due("stays: seen", x.told(11), 2);
        due("stays: the book", x.told(12), 1);
        due("stays: the text", x.told(2), 2);
        x.hour(1);
        x.goBack(1);
        due("the image stays", x.told(3), told[3]);
        due("the image's seed stays", x.seed(0), MAX);
    }

    private static void imagesKeepNoHours() {
        SkyTurns x = with("w9;p0 5 5 0 9;");
        x.hour(60);
        due("60 hours", x.told(13), 60);
        x.keep(0);
        due("none behind keep", x.told(13), 0);
        x.hour(60);
        x.goBack(0);
        due("none behind goBack", x.told(13), 0);
        x.hour(1);
        due("one hour", x.told(13), 1);
        due("the hour since", x.undo(1), 60);
        due("not further", x.undo(1), NOT);
    }
}
