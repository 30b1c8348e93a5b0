/** Each refusal that the document names: of several the first in its order, and that nothing is changed by it. */
public final class RefusalsTest {
    private static final int NONE = -1, UNKNOWN = -1000000001, OUTSIDE = -1000000002, NOT = -1000000003, FULL = -1000000004;
    private static final int MIN = Integer.MIN_VALUE, MAX = Integer.MAX_VALUE;
    /** With five people, of whom 0 and 3 hold. */
    private static final int[] NO_PERSON = {MIN, UNKNOWN, -2, -1, 5, 6, 9, MAX};
    private static final int[] NO_WORD = {MIN, -1, 3, MAX};
    private static final int[] NO_IMAGE = {MIN, -1, 2, MAX};
    private static final Check CHECK = new Check();

    public static void main(String[] args) {
        constants();
        edgeCalls();
        hourCalls();
        offerCalls();
        takeAndJoin();
        undoCalls();
        rowCalls();
        triedCalls();
        seenCalls();
        bookCalls();
        imageCalls();
        CHECK.end();
    }

    private static void due(String name, Refusal.Making making, Refusal.Call call, int want) {
        Refusal.due(CHECK, name, making, call, want);
    }

    private static void outside(String name, Refusal.Call call) {
        due(name, Refusal::full, call, OUTSIDE);
    }

    /** Refused without weights, and with weights but without people; what is outside stays outside there. */
    private static void needsPeople(String name, Refusal.Call call, Refusal.Call wild) {
        due(name + ", no weights", Refusal::nothing, call, NOT);
        due(name + ", no people", Refusal::nobody, call, NOT);
        due(name + " outside, no weights", Refusal::nothing, wild, OUTSIDE);
        due(name + " outside, no people", Refusal::nobody, wild, OUTSIDE);
    }

    private static void constants() {
        CHECK.due("NONE", SkyTurns.NONE, NONE);
        CHECK.due("UNKNOWN", SkyTurns.UNKNOWN, UNKNOWN);
        CHECK.due("OUTSIDE", SkyTurns.OUTSIDE, OUTSIDE);
        CHECK.due("NOT", SkyTurns.NOT, NOT);
        CHECK.due("FULL", SkyTurns.FULL, FULL);
    }

    private static void edgeCalls() {
        for (int letter : new int[] {MIN, -1, 256, MAX}) {
            outside("2: feed(" + letter + ")", x -> x.feed(letter));
            due("2: feed(" + letter + "), full", Refusal::fullText, x -> x.feed(letter), OUTSIDE);
        }
        for (int letter : new int[] {0, 32, 255}) due("2: feed(" + letter + "), full", Refusal::fullText, x -> x.feed(letter), FULL);
        for (int what : new int[] {MIN, -1, 14, MAX}) outside("5: told(" + what + ")", x -> x.told(what));
        for (int what : new int[] {MIN, -1, 10, MAX}) {
            outside("6: person(4, " + what + ")", x -> x.person(4, what));
            due("6: person(5, " + what + ")", Refusal::full, x -> x.person(5, what), UNKNOWN);
        }
        for (int p : NO_PERSON) due("6: person(" + p + ", 0)", Refusal::full, x -> x.person(p, 0), UNKNOWN);
        due("6: person(0, 0), no people", Refusal::nobody, x -> x.person(0, 0), UNKNOWN);
        for (int w : NO_WORD) outside("7: word(" + w + ")", x -> x.word(w));
    }

    private static void hourCalls() {
        for (int n : new int[] {MIN, -1, 0, 100, MAX}) {
            outside("8: hour(" + n + ")", x -> x.hour(n));
            outside("13: drift(" + n + ")", x -> x.drift(n));
            needsPeople("8: hour", x -> x.hour(1), x -> x.hour(n));
            needsPeople("13: drift", x -> x.drift(99), x -> x.drift(n));
        }
        for (int n : new int[] {MIN, -1, 100, MAX}) outside("12: fruit(" + n + ")", x -> x.fruit(n));
    }

    private static void offerCalls() {
        for (int p : NO_PERSON) {
            due("9: offer(" + p + ", 0)", Refusal::full, x -> x.offer(p, 0), UNKNOWN);
            for (int w : NO_WORD) due("9: offer(" + p + ", " + w + ")", Refusal::full, x -> x.offer(p, w), UNKNOWN);
        }
        for (int w : NO_WORD) {
            outside("9: offer(1, " + w + ")", x -> x.offer(1, w));
            outside("9: offer(0, " + w + "), who holds", x -> x.offer(0, w));
        }
        due("9: offer(0, 1), who holds", Refusal::full, x -> x.offer(0, 1), NOT);
        due("9: offer(3, 2), who holds beside", Refusal::full, x -> x.offer(3, 2), NOT);
        due("9: offer(0, 0), no people", Refusal::nobody, x -> x.offer(0, 0), UNKNOWN);
        due("9: offer(0, 0), nothing", Refusal::nothing, x -> x.offer(0, 3), UNKNOWN);
    }

    private static void takeAndJoin() {
        for (int p : NO_PERSON) {
            due("10: take(" + p + ")", Refusal::full, x -> x.take(p), UNKNOWN);
            due("11: join(" + p + ")", Refusal::full, x -> x.join(p), UNKNOWN);
        }
        due("10: take(0), no people", Refusal::nobody, x -> x.take(0), UNKNOWN);
        due("11: join(0), no people", Refusal::nobody, x -> x.join(0), UNKNOWN);
        due("10: take(0), it holds, no father", Refusal::full, x -> x.take(0), NOT);
        due("10: take(2), no father", Refusal::full, x -> x.take(2), NOT);
        due("10: take(4), its father does not hold", Refusal::full, x -> x.take(4), NOT);
        due("10: take(1), it holds beside its father", RefusalsTest::fatherAndSon, x -> x.take(1), NOT);
        due("10: take(1), it holds ahead of its father", RefusalsTest::sonAndFather, x -> x.take(1), NOT);
        due("11: join(0), it holds", RefusalsTest::oneHolds, x -> x.join(0), NOT);
        due("11: join(1), lower by 2", RefusalsTest::oneHolds, x -> x.join(1), NOT);
        due("11: join(2), higher by 2", RefusalsTest::oneHolds, x -> x.join(2), NOT);
        due("11: join(1), two hold", Refusal::full, x -> x.join(1), NOT);
        due("11: join(0), it holds, two hold", Refusal::full, x -> x.join(0), NOT);
        due("11: join(3), it holds beside", Refusal::full, x -> x.join(3), NOT);
    }

    private static SkyTurns oneHolds() {
        return Check.with("w6;p0 8 5 2 9;p0 8 3 2 9;p0 8 7 2 9;");
    }

    private static SkyTurns fatherAndSon() {
        SkyTurns x = Check.with("w6;p0 8 5 2 9;p0 8 5 2 0;");
        x.join(1);
        return x;
    }

    private static SkyTurns sonAndFather() {
        SkyTurns x = Check.with("w6;p0 8 5 2 9;p0 8 5 2 0;");
        x.take(1);
        x.join(0);
        return x;
    }

    private static void undoCalls() {
        for (int n : new int[] {MIN, -1, 0, 61, MAX}) {
            outside("14: undo(" + n + ")", x -> x.undo(n));
            due("14: undo(" + n + "), none", Refusal::nothing, x -> x.undo(n), OUTSIDE);
        }
        for (int n : new int[] {4, 5, 60}) due("14: undo(" + n + "), not so many", Refusal::full, x -> x.undo(n), NOT);
        due("14: undo(1), nothing", Refusal::nothing, x -> x.undo(1), NOT);
        due("14: undo(60), 59 hours", () -> behindHours(59), x -> x.undo(60), NOT);
        CHECK.due("14: undo(60), 60 hours", behindHours(60).undo(60), 0);
    }

    private static SkyTurns behindHours(int n) {
        SkyTurns x = Check.with("w6;p0 8 5 2 9;");
        x.hour(n);
        return x;
    }

    private static void rowCalls() {
        for (int n : new int[] {MIN, -1, 0, 6, MAX}) {
            outside("15: shifts(" + n + ", 0, 0)", x -> x.shifts(n, 0, 0));
            outside("16: sinks(" + n + ", 0)", x -> x.sinks(n, 0));
            needsPeople("15: shifts", x -> x.shifts(1, 0, NONE), x -> x.shifts(n, 0, NONE));
            needsPeople("16: sinks", x -> x.sinks(1, 0), x -> x.sinks(n, 0));
        }
        for (int m : new int[] {MIN, -1, 100, MAX}) {
            outside("15: shifts(1, " + m + ", 0)", x -> x.shifts(1, m, 0));
            outside("16: sinks(1, " + m + ")", x -> x.sinks(1, m));
            needsPeople("15: shifts", x -> x.shifts(5, 99, 4), x -> x.shifts(5, m, 4));
            needsPeople("16: sinks", x -> x.sinks(5, 99), x -> x.sinks(5, m));
        }
    }

    private static void triedCalls() {
        for (int p : NO_PERSON) {
            due("17: chain(" + p + ", NONE)", Refusal::full, x -> x.chain(p, NONE), UNKNOWN);
            due("17: chain(" + p + ", MAX)", Refusal::full, x -> x.chain(p, MAX), UNKNOWN);
            due("19: owes(" + p + ")", Refusal::full, x -> x.owes(p), UNKNOWN);
            due("21: sons(" + p + ")", Refusal::full, x -> x.sons(p), UNKNOWN);
        }
        due("17: chain, no people", Refusal::nobody, x -> x.chain(0, 0), UNKNOWN);
        due("19: owes, no people", Refusal::nobody, x -> x.owes(0), UNKNOWN);
        due("21: sons, no people", Refusal::nobody, x -> x.sons(0), UNKNOWN);
        for (int what : new int[] {MIN, -1, 3, MAX}) outside("18: pair(" + what + ")", x -> x.pair(what));
        for (int gain : new int[] {MIN, -1, 10, MAX}) {
            outside("22: words, a " + gain, x -> x.words(gain, 1, 2, 3, 0));
            outside("22: words, b " + gain, x -> x.words(1, gain, 2, 3, 1));
            outside("22: words, c " + gain, x -> x.words(1, 2, gain, 3, 2));
            outside("22: words, d " + gain, x -> x.words(1, 2, 3, gain, 3));
        }
        for (int what : new int[] {MIN, -1, 4, MAX}) outside("22: words, what " + what, x -> x.words(1, 2, 3, 4, what));
        for (int p : new int[] {MIN, -1, 0, 31, MAX}) {
            outside("23: pillar(" + p + ", 1)", x -> x.pillar(p, 1));
            needsPeople("23: pillar", x -> x.pillar(1, 1), x -> x.pillar(p, 1));
        }
        for (int n : new int[] {MIN, -1, 0, 41, MAX}) {
            outside("23: pillar(1, " + n + ")", x -> x.pillar(1, n));
            needsPeople("23: pillar", x -> x.pillar(30, 40), x -> x.pillar(30, n));
        }
    }

    private static void seenCalls() {
        for (int low : new int[] {MIN, -1, 100, MAX}) {
            outside("24: see(" + low + ")", x -> x.see(low));
            due("24: see(" + low + "), full", Refusal::fullSeen, x -> x.see(low), OUTSIDE);
        }
        for (int low : new int[] {0, 99}) due("24: see(" + low + "), full", Refusal::fullSeen, x -> x.see(low), FULL);
        for (int i : new int[] {MIN, NONE, 0, MAX}) {
            due("25: who(" + i + "), no weights", Refusal::nothing, x -> x.who(i), NOT);
            due("25: who(" + i + "), no people", Refusal::nobody, x -> x.who(i), NOT);
        }
        due("26: sure, no weights", Refusal::nothing, SkyTurns::sure, NOT);
        due("26: sure, no people", Refusal::nobody, SkyTurns::sure, NOT);
    }

    private static void bookCalls() {
        for (int p : NO_PERSON) {
            due("27: write(" + p + ", 0)", Refusal::full, x -> x.write(p, 0, true), UNKNOWN);
            due("27: write(" + p + ", 3)", Refusal::full, x -> x.write(p, 3, true), UNKNOWN);
            due("27: write(" + p + ", 3), full", Refusal::fullBook, x -> x.write(p, 3, false), UNKNOWN);
        }
        for (int w : NO_WORD) {
            outside("27: write(0, " + w + ")", x -> x.write(0, w, false));
            due("27: write(0, " + w + "), full", Refusal::fullBook, x -> x.write(0, w, false), OUTSIDE);
        }
        due("27: write, full", Refusal::fullBook, x -> x.write(0, 0, true), FULL);
        due("27: write, no people", Refusal::nobody, x -> x.write(0, 0, true), UNKNOWN);
    }

    private static void imageCalls() {
        for (int v : new int[] {MIN, -2, -1}) outside("30: seed(" + v + ")", x -> x.seed(v));
        for (int i : NO_IMAGE) {
            due("31: keep(" + i + ")", Refusal::full, x -> x.keep(i), UNKNOWN);
            due("32: goBack(" + i + ")", Refusal::full, x -> x.goBack(i), UNKNOWN);
        }
        due("32: goBack(1), not kept", Refusal::full, x -> x.goBack(1), NOT);
        due("32: goBack(0), not kept", Refusal::nothing, x -> x.goBack(0), NOT);
        due("32: goBack(1), not kept", Refusal::nobody, x -> x.goBack(1), NOT);
    }
}
