/** For each promise: ordinary inputs, the edges that the document names, wrong inputs; all worked out by hand. */
public final class PromisesTest {
    private static final int NONE = -1, UNKNOWN = -1000000001, OUTSIDE = -1000000002, NOT = -1000000003, FULL = -1000000004;
    private static final int MIN = Integer.MIN_VALUE, MAX = Integer.MAX_VALUE;
    private static final Check CHECK = new Check();

    private static void due(String call, long got, long want) {
        CHECK.due(call, got, want);
    }

    private static SkyTurns with(String text) {
        return Check.with(text);
    }

    public static void main(String[] args) {
        newObject();
        feed();
        edge();
        faults();
        told();
        person();
        word();
        hour();
        dwarfsAndStatues();
        sleepyAndPaid();
        offer();
        take();
        join();
        fruit();
        drift();
        undo();
        shifts();
        sinks();
        chain();
        pair();
        owes();
        payments();
        sons();
        words();
        pillar();
        see();
        who();
        sure();
        write();
        judge();
        tear();
        seed();
        keep();
        goBack();
        CHECK.end();
    }

    private static void newObject() {
        SkyTurns x = new SkyTurns();
        int[] want = {0, 0, 0, 0, 0, 0, 9, NONE, NONE, 0, 0, 0, 0, 0};
        for (int k = 0; k < want.length; k++) due("1: told(" + k + ")", x.told(k), want[k]);
        due("1: person", x.person(0, 0), UNKNOWN);
        due("1: fault", x.fault(), NONE);
        due("1: word", x.word(1), 5);
        due("1: payments", x.payments(), 0);
        due("1: pair", x.pair(0), NONE);
        due("1: judge", x.judge(), NONE);
        due("1: tear", x.tear(), 0);
    }

    private static void feed() {
        SkyTurns x = new SkyTurns();
        due("2: feed(-1)", x.feed(-1), OUTSIDE);
        due("2: feed(256)", x.feed(256), OUTSIDE);
        due("2: feed(0)", x.feed(0), 1);
        due("2: feed(255)", x.feed(255), 2);
        for (int k = 3; k <= 250; k++) due("2: feed", x.feed(32), k);
        due("2: feed, full", x.feed(32), FULL);
        due("2: feed(256), full", x.feed(256), OUTSIDE);
        due("2: told", x.told(2), 250);
        due("2: edge", x.edge(), -11);
        due("2: feed again", x.feed(32), 1);
    }

    private static void edge() {
        SkyTurns x = new SkyTurns();
        due("3: empty", x.edge(), 0);
        due("3: empty", x.told(0), 0);
        Check.feedAll(x, "w 5 , 30;p0 8 5 2 9;p 1 20 9 9 0 ; t0 9 1;f99;");
        due("3: edge", x.edge(), 2);
        due("3: weights", x.told(0), 2);
        due("3: fruit", x.told(6), 99);
        due("3: text", x.told(2), 0);
        x.hour(3);
        x.take(1);
        x.seed(77);
        x.see(3);
        x.write(0, 1, true);
        x.keep(0);
        x.hour(1);
        Check.feedAll(x, "w5;x");
        due("3: fault", x.edge(), -11);
        due("3: as it was", x.told(0), 2);
        due("3: as it was, hour", x.told(3), 4);
        due("3: as it was, seen", x.told(11), 1);
        due("3: as it was, book", x.told(12), 1);
        due("3: as it was, undone", x.told(13), 1);
        due("3: as it was, text", x.told(2), 0);
        Check.feedAll(x, "w9;p0 8 5 2 9;");
        x.hour(2);
        x.offer(0, 2);
        due("3: new edge", x.edge(), 1);
        int[] want = {1, 1, 0, 0, 0, 0, 9, 0, NONE, 9, 8, 0, 0, 0};
        for (int k = 0; k < want.length; k++) due("3: told(" + k + ")", x.told(k), want[k]);
        due("3: not tired", x.person(0, 5), 0);
        due("3: has not held", x.person(0, 6), 0);
        due("3: not fallen", x.person(0, 7), 0);
        due("3: no break", x.person(0, 9), 0);
        due("3: words untold", x.word(0), 3);
        due("3: images gone", x.goBack(0), NOT);
        due("3: seed stays", x.seed(0), 77);
        Check.feedAll(x, "w1;t1 2 3;f4;");
        due("3: words, fruit told", x.edge(), 0);
        Check.feedAll(x, "w1;t4 5 6;f7;");
        due("3: words, fruit told anew", x.edge(), 0);
        due("3: words told anew", x.word(0), 4);
        due("3: fruit told anew", x.told(6), 7);
        Check.feedAll(x, "  ");
        due("3: blanks", x.edge(), 0);
        due("3: blanks, no weights", x.told(0), 0);
        due("3: blanks, nobody", x.told(7), NONE);
        Check.feedAll(x, "w7;");
        due("3: nobody", x.edge(), 0);
        due("3: nobody, weight", x.told(9), 7);
        due("3: nobody, hour", x.hour(1), NOT);
    }

    private static void fault(String text, int answer, int place) {
        SkyTurns x = new SkyTurns();
        Check.feedAll(x, text);
        due("4: edge of \"" + text + "\"", x.edge(), answer);
        due("4: fault of \"" + text + "\"", x.fault(), place);
    }

    private static void faults() {
        fault("w1;", 0, NONE);
        fault("w", -11, 1);
        fault("w  ", -11, 3);
        fault("w1", -11, 2);
        fault("w1,", -11, 3);
        fault("w1,;", -11, 3);
        fault("w1 2;", -11, 3);
        fault(" x", -11, 1);
        fault("t1 2 3;w1;", -11, 0);
        fault("w1;;", -11, 3);
        fault("w1;P", -11, 3);
        fault("w30;", 0, NONE);
        fault("w31;", -12, 1);
        fault("w030;", 0, NONE);
        fault("w0030;", -12, 1);
        fault("w1,99999999999999999999;", -12, 3);
        fault("w1,2,3,4,5,6,7,8,9,10,11,12;", 0, NONE);
        fault("w1,2,3,4,5,6,7,8,9,10,11,12 ,13;", -11, 28);
        fault("w1;w1;", -13, 3);
        fault("w1;w", -13, 3);
        fault("w1w1;", -11, 2);
        fault("w1;t1 2 3;t", -13, 10);
        fault("w1;t1 2 10;", -12, 8);
        fault("w1;t1 2;", -11, 7);
        fault("w1;t10 2 3;", -12, 4);
        fault("w1;t1 10 3;", -12, 6);
        fault("w1;t0 0 0;f0;", 0, NONE);
        fault("w1;f1;f1;", -13, 6);
        fault("w1;f99;", 0, NONE);
        fault("w1;f100;", -12, 4);
        fault("w1;f99 1;", -11, 7);
        String six = "w1;p0 1 1 0 9;p0 1 1 0 9;p0 1 1 0 9;p0 1 1 0 9;p0 1 1 0 9;p0 1 1 0 9;";
        fault(six, 6, NONE);
        fault(six + "p", -13, 69);
        fault("w1;p0 1 1 0 0;", -12, 12);
        fault("w1;p0 1 1 0 9;p0 1 1 0 0;", 2, NONE);
        fault("w1;p0 1 1 0 9;p0 1 1 0 1;", -12, 23);
        fault("w1;p0 1 1 0 10;", -12, 12);
        fault("w1;p5 1 1 0 9;", -12, 4);
        fault("w1;p0 0 1 0 9;", -12, 6);
        fault("w1;p0 20 1 0 9;", 1, NONE);
        fault("w1;p0 21 1 0 9;", -12, 6);
        fault("w1;p0 1 0 0 9;", -12, 8);
        fault("w1;p0 1 10 0 9;", -12, 8);
        fault("w1;p0 1 1 10 9;", -12, 10);
        fault("w1;p01109;", -12, 4);
        fault("w1;p0 1 1 0 9", -11, 13);
        fault("w1;p0 1 1 0;", -11, 11);
        fault("w1;p0 1,1 0 9;", -11, 7);
        fault("w31;x", -12, 1);
        SkyTurns x = new SkyTurns();
        Check.feedAll(x, "w31;");
        x.edge();
        x.edge();
        due("4: the latest edge had none", x.fault(), NONE);
    }

    private static void told() {
        SkyTurns x = with("w6,9;p0 8 5 2 9;p0 4 5 2 9;");
        Check.feedAll(x, "abc");
        x.join(1);
        x.hour(3);
        x.see(0);
        x.see(0);
        x.write(0, 0, true);
        int[] want = {2, 2, 3, 3, 0, 0, 9, 0, 1, 9, 10, 2, 1, 3};
        for (int k = 0; k < want.length; k++) due("5: told(" + k + ")", x.told(k), want[k]);
        due("5: told(-1)", x.told(-1), OUTSIDE);
        due("5: told(14)", x.told(14), OUTSIDE);
    }

    private static void person() {
        SkyTurns x = with("w6,9;p0 8 5 2 9;p3 7 4 1 0;");
        x.offer(1, 2);
        x.hour(2);
        int[] want = {3, 7, 4, 1, 0, 2, 2, 4, 3, 2};
        for (int k = 0; k < want.length; k++) due("6: person(1, " + k + ")", x.person(1, k), want[k]);
        due("6: no father", x.person(0, 4), NONE);
        due("6: person(2, 0)", x.person(2, 0), UNKNOWN);
        due("6: person(-1, 0)", x.person(-1, 0), UNKNOWN);
        due("6: person(2, 99)", x.person(2, 99), UNKNOWN);
        due("6: person(0, 10)", x.person(0, 10), OUTSIDE);
        due("6: person(0, -1)", x.person(0, -1), OUTSIDE);
        due("6: person(MAX, MIN)", x.person(MAX, MIN), UNKNOWN);
    }

    private static void word() {
        SkyTurns x = with("w6;t0 9 4;");
        due("7: word(0)", x.word(0), 0);
        due("7: word(1)", x.word(1), 9);
        due("7: word(2)", x.word(2), 4);
        due("7: word(3)", x.word(3), OUTSIDE);
        due("7: word(-1)", x.word(-1), OUTSIDE);
        SkyTurns y = with("w6;");
        due("7: untold", y.word(0) * 100 + y.word(1) * 10 + y.word(2), 357);
    }

    private static void hour() {
        SkyTurns x = with("w10,2;p0 8 5 2 9;p0 8 5 2 9;");
        due("8: hour(0)", x.hour(0), OUTSIDE);
        due("8: hour(100)", x.hour(100), OUTSIDE);
        due("8: 8 against 10", x.hour(1), 2);
        due("8: 8 against 2", x.hour(1), 1);
        due("8: harm", x.told(5), 3);
        due("8: 7 against 10, then above 2", x.hour(2), 3);
        due("8: tired", x.person(0, 5), 4);
        due("8: held", x.person(0, 6), 4);
        due("8: not tired below 0", x.person(1, 5), 0);
        x.offer(1, 2);
        due("8: no break until an hour goes by", x.person(0, 9), 4);
        x.hour(1);
        due("8: its break", x.person(0, 9), 0);
        due("8: less tired", x.person(0, 5), 3);
        due("8: hours of the other", x.person(1, 9), 1);
        x.hour(99);
        due("8: tired at most", x.person(1, 5), 20);
        due("8: force at least", x.person(1, 8), 0);
        due("8: low at most", x.told(4), 99);
        due("8: the hour", x.told(3), 104);
        due("8: no weights", new SkyTurns().hour(1), NOT);
        due("8: outside first", new SkyTurns().hour(0), OUTSIDE);
        due("8: nobody", with("w1;").hour(1), NOT);
        due("8: 99 hours", with("w1;p0 8 5 2 9;").hour(99), 99 - 16);
        SkyTurns even = with("w8;p0 8 5 2 9;");
        due("8: as much force as weight", even.hour(1), 0);
        due("8: tired by 1, half of it is 0", even.hour(1), 0);
        due("8: tired by 2", even.hour(1), 1);
    }

    private static void dwarfsAndStatues() {
        SkyTurns x = with("w0;p1 8 5 2 9;p0 8 5 2 9;p2 8 5 2 9;t9 9 9;");
        due("8: a dwarf alone", x.hour(1), 2);
        due("8: a dwarf alone, harm", x.told(5), 2);
        due("8: a dwarf alone, long", x.hour(5), 2);
        x.join(1);
        due("8: a dwarf beside", x.hour(1), 1);
        due("8: a dwarf beside, long", x.hour(3), 0);
        x.offer(2, 0);
        due("8: a statue", x.person(2, 8), 8);
        x.hour(1);
        due("8: a statue from the second hour on", x.person(2, 8), 0);
        x.offer(1, 0);
        x.offer(2, 1);
        due("8: a statue without a break", x.person(2, 8), 0);
        x.offer(1, 1);
        x.hour(1);
        due("8: a statue behind its break", x.person(2, 8), 8);
        SkyTurns tired = with("w0;p2 8 5 2 9;p0 8 5 2 9;");
        tired.hour(9);
        tired.offer(1, 0);
        tired.hour(1);
        due("8: a statue is tired", tired.person(0, 5), 8);
        due("8: a statue minds it not", tired.person(0, 8), 8);
        SkyTurns low = with("w9;p1 4 5 2 9;");
        due("8: a dwarf under much", low.hour(1), 5);
    }

    private static void sleepyAndPaid() {
        SkyTurns x = with("w0;p3 9 5 2 9;p4 9 5 2 9;f2;");
        due("8: sleepy, awake", x.person(0, 8), 9);
        due("8: paid, awake", x.person(1, 8), 11);
        x.offer(1, 2);
        x.hour(2);
        due("8: sleepy, asleep", x.person(0, 8), 4);
        due("8: it ate both", x.told(6), 0);
        due("8: unpaid", x.person(1, 8), 0);
        x.fruit(1);
        due("8: paid, tired, asleep", x.person(1, 8), 6);
        x.hour(1);
        due("8: it ate this, too", x.told(6), 0);
        x.hour(1);
        due("8: there is none to eat", x.told(6), 0);
        SkyTurns two = with("w20;p4 9 5 2 9;p4 9 5 2 9;f1;");
        due("8: both are paid by one fruit", two.join(1), 22);
        due("8: both hold", two.hour(1), 0);
        due("8: one ate", two.told(6), 0);
    }

    private static void offer() {
        SkyTurns x = with("w6;p0 8 5 2 9;p0 8 5 3 9;p0 8 5 2 9;p0 8 5 9 9;");
        due("9: itself", x.offer(0, 0), NOT);
        due("9: as good as its wits", x.offer(1, 0), 0);
        due("9: not fallen", x.person(1, 7), 0);
        due("9: better", x.offer(1, 1), 1);
        due("9: fallen", x.person(1, 7), 2);
        due("9: it holds", x.told(7), 1);
        due("9: it holds, so NOT", x.offer(1, 2), NOT);
        due("9: the other", x.offer(0, 0), 1);
        due("9: fallen to it before", x.offer(1, 1), 0);
        due("9: another word", x.offer(1, 2), 1);
        due("9: fallen to both", x.person(1, 7), 6);
        due("9: too clever", x.offer(3, 2), 0);
        x.join(0);
        due("9: who holds beside", x.offer(0, 1), NOT);
        due("9: of two", x.offer(2, 1), 1);
        due("9: it holds alone", x.told(8), NONE);
        due("9: it holds alone, first", x.told(7), 2);
        due("9: unknown", x.offer(4, 9), UNKNOWN);
        due("9: unknown", x.offer(-1, 0), UNKNOWN);
        due("9: outside", x.offer(2, 3), OUTSIDE);
        due("9: outside", x.offer(0, -1), OUTSIDE);
    }

    private static void take() {
        SkyTurns x = with("w6;p0 8 5 9 9;p0 8 5 9 0;p0 8 5 9 1;p0 8 5 2 9;");
        due("10: no father", x.take(3), NOT);
        due("10: its father does not hold", x.take(2), NOT);
        due("10: it holds", x.take(0), NOT);
        due("10: a son", x.take(1), 0);
        due("10: fallen to nothing", x.person(1, 7), 0);
        due("10: it holds itself", x.take(1), NOT);
        due("10: a son's son", x.take(2), 1);
        due("10: it holds", x.told(7), 2);
        due("10: unknown", x.take(4), UNKNOWN);
        due("10: unknown", x.take(-1), UNKNOWN);
        SkyTurns two = with("w6;p0 8 5 9 9;p0 8 5 9 9;p0 8 5 9 1;p0 8 5 9 0;");
        two.join(1);
        two.keep(0);
        due("10: of the one beside", two.take(2), 1);
        due("10: alone", two.told(8), NONE);
        due("10: alone, first", two.told(7), 2);
        two.goBack(0);
        due("10: of the first one", two.take(3), 0);
        due("10: alone", two.told(8), NONE);
        SkyTurns both = with("w6;p0 8 5 9 9;p0 8 5 9 0;");
        both.join(1);
        due("10: it holds beside its father", both.take(1), NOT);
    }

    private static void join() {
        SkyTurns x = with("w6;p0 8 5 9 9;p0 7 6 9 9;p0 6 3 9 9;p0 6 4 9 9;");
        due("11: unlike by 2", x.join(2), NOT);
        due("11: it holds", x.join(0), NOT);
        due("11: unknown", x.join(4), UNKNOWN);
        due("11: unknown", x.join(-1), UNKNOWN);
        due("11: unlike by 1", x.join(3), 14);
        due("11: the holder", x.told(7), 0);
        due("11: beside", x.told(8), 3);
        due("11: two hold", x.join(1), NOT);
        x.hour(1);
        due("11: both are tired", x.person(0, 5) + x.person(3, 5), 2);
        due("11: higher by 1", with("w6;p0 8 5 9 9;p0 7 6 9 9;").join(1), 15);
    }

    private static void fruit() {
        SkyTurns x = new SkyTurns();
        due("12: fruit(0)", x.fruit(0), 9);
        due("12: fruit(99)", x.fruit(99), 108);
        due("12: fruit(100)", x.fruit(100), OUTSIDE);
        due("12: fruit(-1)", x.fruit(-1), OUTSIDE);
        for (int k = 0; k < 9; k++) x.fruit(99);
        due("12: at most", x.told(6), 999);
        due("12: at most", x.fruit(1), 999);
    }

    private static void drift() {
        SkyTurns x = with("w9;p0 5 5 0 9;p0 5 5 9 0;p0 5 5 2 9;");
        due("13: drift(0)", x.drift(0), OUTSIDE);
        due("13: drift(100)", x.drift(100), OUTSIDE);
        // it becomes 12345, by which 0 (12345 / 65536) passes, who holds: nothing more is drawn
        due("13: one hour", x.drift(1), 4);
        due("13: the seed", x.seed(12345), 12345);
        // 1406932606: 21468 leaves 0 over by 3; 654583775: 9988 leaves 1, a son of who holds
        due("13: two more", x.drift(2), 8 + 12);
        due("13: a son took it", x.told(7), 1);
        due("13: fallen to nothing", x.person(1, 7), 0);
        // 1449466924: 22117 leaves 1; 229283573: 3498 leaves 0, then 1109335178: 16927 leaves 1 as the word
        due("13: who holds passes", x.drift(1), 16);
        due("13: an offer", x.drift(1), 20);
        due("13: by which it fell", x.person(0, 7), 2);
        due("13: the seed", x.seed(0), 1109335178);
        SkyTurns long99 = with("w9;p0 5 5 0 9;");
        long99.drift(99);
        due("13: 99 hours", long99.told(3), 99);
        due("13: nobody", with("w1;").drift(1), NOT);
        due("13: outside first", new SkyTurns().drift(0), OUTSIDE);
    }

    private static void undo() {
        SkyTurns x = with("w20;p0 5 5 0 9;p4 5 5 0 9;f3;");
        due("14: undo(0)", x.undo(0), OUTSIDE);
        due("14: undo(61)", x.undo(61), OUTSIDE);
        due("14: none", x.undo(1), NOT);
        x.hour(1);
        x.offer(1, 2);
        x.hour(2);
        x.seed(5);
        due("14: not so many", x.undo(4), NOT);
        due("14: two", x.undo(2), 1);
        due("14: ahead of them it held", x.told(7), 1);
        due("14: fallen", x.person(1, 7), 4);
        due("14: fruit", x.told(6), 3);
        due("14: tired", x.person(1, 5), 0);
        due("14: low", x.told(4), 15);
        due("14: harm", x.told(5), 15);
        due("14: left", x.told(13), 1);
        due("14: the last", x.undo(1), 0);
        due("14: ahead of the offer", x.told(7), 0);
        due("14: not fallen", x.person(1, 7), 0);
        due("14: the seed stays", x.seed(0), 5);
        x.hour(99);
        due("14: 60 are kept", x.told(13), 60);
        due("14: 60", x.undo(60), 39);
        due("14: no more", x.undo(1), NOT);
        x.hour(2);
        x.keep(0);
        due("14: an image", x.undo(1), NOT);
        x.hour(2);
        x.goBack(0);
        due("14: an image", x.undo(1), NOT);
    }

    private static void shifts() {
        SkyTurns x = with("w5;p0 5 5 0 9;p0 4 5 0 9;p0 5 5 0 9;");
        due("15: the most hours", x.shifts(3, 99, NONE), 1);
        due("15: the first row", row(x, 3, 99), 12);
        due("15: without the second", x.shifts(3, 0, NONE), 2);
        due("15: without the second", row(x, 3, 0), 2);
        due("15: of one hour", row(x, 1, 0), 0);
        due("15: of five", x.shifts(5, 99, NONE), 2);
        due("15: of five", row(x, 5, 99), 112);
        due("15: behind the end", x.shifts(3, 99, 3), NONE);
        due("15: before the start", x.shifts(3, 99, -2), NONE);
        due("15: far out", x.shifts(3, 99, MIN), NONE);
        due("15: nothing changed", x.told(3) + x.told(4) + x.person(0, 6), 0);
        due("15: outside", x.shifts(0, 0, 0), OUTSIDE);
        due("15: outside", x.shifts(6, 0, 0), OUTSIDE);
        due("15: outside", x.shifts(1, -1, 0), OUTSIDE);
        due("15: outside", x.shifts(1, 100, 0), OUTSIDE);
        due("15: nobody", with("w1;").shifts(1, 1, 0), NOT);
        due("15: outside first", new SkyTurns().shifts(9, 1, 0), OUTSIDE);
        SkyTurns weak = with("w9;p0 5 5 0 9;");
        due("15: none", weak.shifts(2, 7, NONE), NONE);
        due("15: none", weak.shifts(2, 7, 0), NONE);
        due("15: just so", weak.shifts(2, 8, NONE), 2);
        SkyTurns alike = with("w0;p0 5 5 0 9;p0 5 5 0 9;p0 5 5 0 9;");
        due("15: the first of like ones, of four", row(alike, 4, 0), 11);
        SkyTurns turns = with("w5;p0 5 5 0 9;p0 4 5 0 9;");
        due("15: of four, without breaks", row(turns, 4, 99), 11);
        due("15: of three by one alone", row(turns, 3, 1), 1);
        due("15: of five by one alone", with("w0;p0 5 5 0 9;").shifts(5, 0, NONE), 5);
        SkyTurns two = with("w5;p0 5 5 0 9;p0 5 5 0 9;");
        two.join(1);
        due("15: whoever holds now", two.shifts(2, 0, NONE), 1);
    }

    private static int row(SkyTurns x, int n, int m) {
        int row = 0;
        for (int k = 0; k < n; k++) row = row * 10 + x.shifts(n, m, k);
        return row;
    }

    private static void sinks() {
        SkyTurns x = with("w5,5,9;p0 5 5 0 9;p0 4 5 0 9;");
        x.hour(1);
        due("16: from now on", x.sinks(5, 2), 1);
        due("16: it need not", x.sinks(1, 2), NONE);
        due("16: just too deep", x.sinks(2, 4), 1);
        due("16: just deep enough", x.sinks(2, 5), NONE);
        due("16: just too deep again", x.sinks(2, 4), 1);
        due("16: at once", with("w9;p0 5 5 0 9;").sinks(5, 3), 0);
        due("16: outside", x.sinks(0, 0), OUTSIDE);
        due("16: outside", x.sinks(6, 0), OUTSIDE);
        due("16: outside", x.sinks(1, -1), OUTSIDE);
        due("16: outside", x.sinks(1, 100), OUTSIDE);
        due("16: nobody", with("w1;").sinks(1, 1), NOT);
        due("16: nothing changed", x.told(3), 1);
    }

    private static void chain() {
        // 1 and 4 have the wits that no word is better than; 2 falls to the last word alone
        SkyTurns x = with("w5;p0 5 5 0 9;p0 5 5 9 0;p0 5 5 5 9;p0 5 5 9 2;p0 5 5 9 3;p0 5 5 9 9;");
        due("17: who holds", x.chain(0, NONE), 0);
        due("17: who holds, no row", x.chain(0, 0), NONE);
        due("17: a son", x.chain(1, NONE), 1);
        due("17: a son", x.chain(1, 0), 1);
        due("17: a word", x.chain(2, NONE), 1);
        due("17: far", x.chain(4, NONE), 3);
        due("17: far, first", x.chain(4, 0), 2);
        due("17: far, second", x.chain(4, 1), 3);
        due("17: far, third", x.chain(4, 2), 4);
        due("17: far, no fourth", x.chain(4, 3), NONE);
        due("17: far, before", x.chain(4, -2), NONE);
        due("17: nobody leads there", x.chain(5, NONE), NONE);
        due("17: nobody leads there", x.chain(5, 0), NONE);
        due("17: unknown", x.chain(6, NONE), UNKNOWN);
        due("17: unknown", x.chain(-1, NONE), UNKNOWN);
        x.join(2);
        due("17: beside", x.chain(2, NONE), 0);
        due("17: beside, its son's son", x.chain(4, NONE), 2);
        due("17: nothing changed", x.told(8), 2);
        SkyTurns first = with("w5;p0 5 5 2 9;p0 5 5 9 0;p0 5 5 2 9;");
        first.offer(2, 0);
        due("17: by the holder at first", first.chain(1, NONE), 2);
        due("17: by the holder at first", first.chain(1, 0) * 10 + first.chain(1, 1), 1);
        due("17: by the first word", with("w5;t9 0 0;p0 5 5 2 9;p0 5 5 2 9;").chain(1, 0), 1);
        SkyTurns once = with("w5;p0 5 5 0 9;p0 5 5 6 9;");
        once.offer(1, 2);
        once.offer(0, 0);
        due("17: fallen to the one word", once.chain(1, NONE), NONE);
    }

    private static void pair() {
        SkyTurns x = with("w5;p0 5 5 0 9;p0 9 7 0 9;p0 6 6 0 9;p0 5 5 0 9;p0 5 4 0 9;");
        due("18: who", x.pair(0), 1);
        due("18: the other", x.pair(1), 2);
        due("18: force", x.pair(2), 15);
        due("18: outside", x.pair(3), OUTSIDE);
        due("18: outside", x.pair(-1), OUTSIDE);
        SkyTurns like = with("w5;p0 5 5 0 9;p0 5 5 0 9;p0 5 5 0 9;");
        due("18: the first of like ones", like.pair(0) * 10 + like.pair(1), 1);
        SkyTurns far = with("w5;p0 5 5 0 9;p0 5 7 0 9;");
        due("18: none", far.pair(0), NONE);
        due("18: none", far.pair(2), NONE);
        SkyTurns unpaid = with("w5;p4 5 5 0 9;p4 5 5 0 9;f0;");
        due("18: of no force", unpaid.pair(1), 1);
        due("18: of no force", unpaid.pair(2), 0);
    }

    private static void owes() {
        SkyTurns x = with("w5;p0 5 5 0 9;p0 5 5 0 9;p0 5 5 0 9;");
        x.hour(4);
        x.offer(1, 0);
        x.hour(1);
        due("19: owes(0)", x.owes(0), 7);
        due("19: owes(1)", x.owes(1), -2);
        due("19: owes(2)", x.owes(2), -5);
        due("19: unknown", x.owes(3), UNKNOWN);
        due("19: unknown", x.owes(-1), UNKNOWN);
    }

    private static void payments() {
        SkyTurns x = with("w5;p0 5 5 0 9;p0 5 5 0 9;p0 5 5 0 9;p0 5 5 0 9;t9 9 9;");
        due("20: none held", x.payments(), 0);
        x.hour(2);
        due("20: one owes three", x.payments(), 3);
        x.offer(1, 0);
        x.hour(2);
        due("20: two owe two", x.payments(), 2);
        x.offer(2, 0);
        x.hour(2);
        due("20: three owe one", x.payments(), 3);
        x.offer(3, 0);
        x.hour(2);
        due("20: even", x.payments(), 0);
        x.hour(4);
        x.offer(2, 1);
        x.hour(4);
        x.offer(1, 1);
        x.hour(4);
        due("20: three again", x.payments(), 3);
    }

    private static void sons() {
        SkyTurns x = with("w5;p0 5 5 0 9;p0 5 5 0 0;p0 5 5 0 1;p0 5 5 0 9;");
        x.hour(4);
        x.take(1);
        x.hour(1);
        x.take(2);
        x.hour(2);
        due("21: of all of them", x.sons(0), 9 - 3 + 1);
        due("21: of a son", x.sons(1), -3 + 1);
        due("21: of a son's son", x.sons(2), 1);
        due("21: alone", x.sons(3), -7);
        due("21: unknown", x.sons(4), UNKNOWN);
        due("21: unknown", x.sons(-1), UNKNOWN);
    }

    private static void game(int a, int b, int c, int d, long value, long odds) {
        SkyTurns x = new SkyTurns();
        String call = "22: words(" + a + ", " + b + ", " + c + ", " + d + ", ";
        long gotValue = x.words(a, b, c, d, 0) * 1000L + x.words(a, b, c, d, 1);
        long gotOdds = x.words(a, b, c, d, 2) * 1000L + x.words(a, b, c, d, 3);
        due(call + "0), 1)", gotValue, value);
        due(call + "2), 3)", gotOdds, odds);
    }

    private static void words() {
        game(9, 0, 0, 9, 9002, 1002);
        game(0, 9, 9, 0, 9002, 1002);
        game(5, 5, 5, 5, 5001, 1);
        game(0, 0, 0, 0, 1, 1);
        game(9, 9, 0, 0, 9001, 1001);
        game(3, 9, 3, 9, 3001, 1);
        game(3, 3, 9, 0, 3001, 1001);
        game(8, 2, 3, 7, 5001, 2005);
        game(9, 3, 0, 3, 3001, 1003);
        SkyTurns x = new SkyTurns();
        due("22: outside", x.words(10, 0, 0, 0, 0), OUTSIDE);
        due("22: outside", x.words(0, -1, 0, 0, 0), OUTSIDE);
        due("22: outside", x.words(0, 0, 10, 0, 0), OUTSIDE);
        due("22: outside", x.words(0, 0, 0, -1, 0), OUTSIDE);
        due("22: outside", x.words(0, 0, 0, 0, 4), OUTSIDE);
        due("22: outside", x.words(0, 0, 0, 0, -1), OUTSIDE);
        due("22: extremes", x.words(MAX, MIN, MAX, MIN, 0), OUTSIDE);
    }

    private static void pillar() {
        SkyTurns x = with("w9,1;p0 5 5 0 9;");
        // 4 3 8 7 as it is; 2 1 4 3 under weights of 7, 0
        due("23: two less", x.pillar(2, 4), 22 - 10);
        due("23: below no weight", x.pillar(30, 4), 22);
        due("23: one hour", x.pillar(1, 1), 1);
        due("23: nothing changed", x.told(3) + x.told(5), 0);
        due("23: outside", x.pillar(0, 1), OUTSIDE);
        due("23: outside", x.pillar(31, 1), OUTSIDE);
        due("23: outside", x.pillar(1, 0), OUTSIDE);
        due("23: outside", x.pillar(1, 41), OUTSIDE);
        // both leave no weight at all
        due("23: 40 hours", x.pillar(30, 40), x.pillar(29, 40));
        due("23: nobody", with("w1;").pillar(1, 1), NOT);
        due("23: outside first", new SkyTurns().pillar(0, 1), OUTSIDE);
        SkyTurns two = with("w9;p0 5 5 0 9;p0 3 5 0 9;");
        two.join(1);
        due("23: who holds now", two.pillar(1, 2), 1 + 1 + 1);
    }

    private static void see() {
        SkyTurns x = new SkyTurns();
        due("24: outside", x.see(-1), OUTSIDE);
        due("24: outside", x.see(100), OUTSIDE);
        due("24: see(0)", x.see(0), 1);
        due("24: see(99)", x.see(99), 2);
        for (int k = 3; k <= 5; k++) due("24: see", x.see(5), k);
        due("24: full", x.see(5), FULL);
        due("24: outside first", x.see(100), OUTSIDE);
    }

    private static void who() {
        SkyTurns x = with("w5;p0 4 5 0 9;p0 5 5 0 9;p0 4 5 0 9;");
        due("25: nothing seen", x.who(NONE), 1);
        due("25: nothing seen", x.who(0), NONE);
        x.see(1);
        due("25: who were weak", x.who(NONE), 2);
        x.see(1);
        due("25: then the other", x.who(NONE), 2);
        SkyTurns one = with("w5;p0 4 5 0 9;p0 5 5 0 9;p0 4 5 0 9;");
        one.see(0);
        due("25: one row", one.who(NONE), 1);
        due("25: the one row", one.who(0), 1);
        due("25: the first row", x.who(0) * 10 + x.who(1), 1);
        due("25: behind it", x.who(2), NONE);
        due("25: before it", x.who(-2), NONE);
        x.see(0);
        due("25: not so", x.who(NONE), 0);
        due("25: not so", x.who(0), NONE);
        x.tear();
        x.see(2);
        x.hour(1);
        due("25: from now on", x.who(NONE), 2);
        due("25: nobody", with("w1;").who(NONE), NOT);
        due("25: nothing", new SkyTurns().who(9), NOT);
    }

    private static void sure() {
        SkyTurns x = with("w5;p0 4 5 0 9;p0 5 5 0 9;p0 4 5 0 9;");
        due("26: nothing seen", x.sure(), 0);
        x.see(1);
        due("26: one or the other", x.sure(), 0);
        x.see(1);
        due("26: then this one", x.sure(), 2);
        x.see(0);
        due("26: none", x.sure(), 0);
        SkyTurns one = with("w5;p0 4 5 0 9;p0 5 5 0 9;");
        one.see(1);
        one.see(1);
        due("26: both, not at the same hour", one.sure(), 3);
        due("26: nobody", with("w1;").sure(), NOT);
    }

    private static void write() {
        SkyTurns x = with("w5;p0 4 5 0 9;p0 5 5 0 9;");
        due("27: unknown", x.write(2, 9, true), UNKNOWN);
        due("27: unknown", x.write(-1, 0, true), UNKNOWN);
        due("27: outside", x.write(0, 3, true), OUTSIDE);
        due("27: outside", x.write(0, -1, true), OUTSIDE);
        for (int k = 1; k <= 20; k++) due("27: write", x.write(1, 0, true), k);
        due("27: full", x.write(1, 0, true), FULL);
        due("27: outside first", x.write(1, 3, true), OUTSIDE);
    }

    private static void judge() {
        SkyTurns x = with("w5;p0 4 5 0 9;p0 5 5 4 9;p0 5 5 9 9;");
        due("28: no book", x.judge(), NONE);
        x.write(2, 2, false);
        x.write(1, 0, false);
        x.write(1, 1, true);
        x.write(0, 0, true);
        due("28: right", x.judge(), NONE);
        x.write(1, 1, false);
        due("28: fallen to it", x.judge(), NONE);
        x.write(0, 1, false);
        due("28: it holds", x.judge(), 5);
        due("28: nothing changed", x.told(7) + x.person(1, 7), 0);
        x.offer(1, 2);
        due("28: from now on", x.judge(), 1);
        x.tear();
        x.write(0, 0, false);
        due("28: it takes over", x.judge(), 0);
        x.tear();
        x.write(2, 2, true);
        due("28: it does not", x.judge(), 0);
        x.tear();
        x.write(1, 2, true);
        due("28: it holds now", x.judge(), 0);
    }

    private static void tear() {
        SkyTurns x = with("w5;p0 4 5 0 9;");
        x.see(1);
        x.see(1);
        x.write(0, 0, true);
        due("29: both", x.tear(), 3);
        due("29: nothing seen", x.told(11), 0);
        due("29: no book", x.told(12), 0);
        due("29: again", x.tear(), 0);
        due("29: seen anew", x.see(1), 1);
        due("29: written anew", x.write(0, 0, true), 1);
    }

    private static void seed() {
        SkyTurns x = new SkyTurns();
        due("30: at first", x.seed(MAX), 0);
        due("30: outside", x.seed(-1), OUTSIDE);
        due("30: outside", x.seed(MIN), OUTSIDE);
        due("30: the most", x.seed(3), MAX);
        due("30: then", x.seed(0), 3);
    }

    private static void keep() {
        SkyTurns x = with("w5;p0 4 5 0 9;");
        due("31: unknown", x.keep(2), UNKNOWN);
        due("31: unknown", x.keep(-1), UNKNOWN);
        x.hour(2);
        due("31: keep(0)", x.keep(0), 1);
        due("31: nothing to be undone", x.told(13), 0);
        x.hour(1);
        due("31: keep(1)", x.keep(1), 1);
        x.hour(1);
        x.goBack(0);
        due("31: image 0", x.told(3), 2);
        x.goBack(1);
        due("31: image 1", x.told(3), 3);
        x.hour(6);
        x.keep(1);
        x.hour(1);
        x.goBack(1);
        due("31: image 1, kept again", x.told(3), 9);
    }

    private static void goBack() {
        SkyTurns x = with("w9;p0 4 5 0 9;p4 4 5 0 9;p0 4 5 0 9;");
        due("32: unknown", x.goBack(2), UNKNOWN);
        due("32: unknown", x.goBack(-1), UNKNOWN);
        due("32: not kept", x.goBack(0), NOT);
        x.offer(1, 1);
        x.hour(2);
        x.join(2);
        x.seed(11);
        x.see(1);
        x.keep(0);
        due("32: not kept", x.goBack(1), NOT);
        x.seed(12);
        x.see(2);
        x.write(0, 0, true);
        x.offer(0, 0);
        x.fruit(50);
        x.hour(9);
        due("32: goBack(0)", x.goBack(0), 1);
        int[] want = {1, 3, 0, 2, 6, 9, 7, 1, 2, 9, 7, 2, 1, 0};
        for (int k = 0; k < want.length; k++) due("32: told(" + k + ")", x.told(k), want[k]);
        due("32: tired", x.person(1, 5), 2);
        due("32: held", x.person(1, 6), 2);
        due("32: fallen", x.person(1, 7), 2);
        due("32: not fallen", x.person(0, 7), 0);
        due("32: without a break", x.person(1, 9), 2);
        due("32: the seed, too", x.seed(0), 11);
        due("32: once more", x.goBack(0), 1);
    }
}
