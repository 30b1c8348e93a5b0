/** Section 1 and promises 1 to 4, 7: each sentence that names a bound, with the last inside it and the first outside. */
public final class TextBoundsTest {
    private static final int NONE = -1, UNKNOWN = -1000000001, OUTSIDE = -1000000002, NOT = -1000000003, FULL = -1000000004;
    private static final int CANNOT_STAND = 1, BAD_NUMBER = 2, AGAIN = 3;
    private static final int MOST_LETTERS = 250;
    private static final String ONE = "p0 1 1 0 9;";
    private static final String WHOLE = "w1,2;p0 8 5 2 9;p1 9 4 3 0;t3 5 7;f4;";
    private static final Check CHECK = new Check();

    public static void main(String[] args) {
        newObjects();
        lettersAtMost();
        lettersFed();
        weightsAtMost();
        weightsFirstAndOnce();
        weightsBounds();
        peopleAtMost();
        personsBounds();
        fathers();
        wordsBounds();
        wordsUntoldAndOnce();
        fruitBounds();
        fruitUntoldAndOnce();
        figures();
        oneLetterAWord();
        blanks();
        blanksBetweenNumbers();
        wrongLetters();
        textsCutShort();
        firstOfFaults();
        leastOfFaults();
        emptyTexts();
        edgeBeginsAnew();
        edgeWithFault();
        faultOfTheLatest();
        CHECK.end();
    }

    private static void due(String call, long got, long want) {
        CHECK.due(call, got, want);
    }

    private static SkyTurns read(String text, int people) {
        SkyTurns x = new SkyTurns();
        due("letters of \"" + text + "\"", Check.feedAll(x, text), text.length());
        due("edge of \"" + text + "\"", x.edge(), people);
        due("fault of \"" + text + "\"", x.fault(), NONE);
        due("people of \"" + text + "\"", x.told(1), people);
        return x;
    }

    private static void faulty(String text, int number, int place) {
        SkyTurns x = new SkyTurns();
        due("letters of \"" + text + "\"", Check.feedAll(x, text), text.length());
        due("edge of \"" + text + "\"", x.edge(), -10 - number);
        due("fault of \"" + text + "\"", x.fault(), place);
        due("weights behind \"" + text + "\"", x.told(0), 0);
        due("letters behind \"" + text + "\"", x.told(2), 0);
    }

    private static void newObjects() {
        SkyTurns x = new SkyTurns();
        due("1: no weights", x.told(0), 0);
        due("1: no people", x.told(1), 0);
        due("1: no text", x.told(2), 0);
        due("1: nobody holds", x.told(7), NONE);
        due("1: nobody holds beside", x.told(8), NONE);
        due("1: no weight of this hour", x.told(9), 0);
        due("1: no force of nobody", x.told(10), 0);
        due("1: nothing seen", x.told(11), 0);
        due("1: no book", x.told(12), 0);
        due("1: no hours to undo", x.told(13), 0);
        due("1: no fault", x.fault(), NONE);
        due("1: the seed", x.seed(1), 0);
        due("1: no image", x.goBack(0), NOT);
        due("1: nobody known", x.person(0, 0), UNKNOWN);
        due("1: no hour", x.hour(1), NOT);
    }

    private static void lettersAtMost() {
        String full = "w1,2,3,4,5,6,7,8,9,10,11,12;" + ONE.repeat(6) + "t1 2 3;f4";
        String blank = " ".repeat(MOST_LETTERS - 1 - full.length());
        SkyTurns x = read(full + blank + ";", 6);
        due("250 letters: weights", x.told(0), 12);
        due("250 letters: the last clause", x.told(6), 4);
        faulty(full + blank + "x", CANNOT_STAND, 249);
        faulty(full + blank + " ", CANNOT_STAND, 250);
        faulty("w1;" + " ".repeat(246) + "x", CANNOT_STAND, 249);
        read("w1;" + " ".repeat(247), 0);
    }

    private static void lettersFed() {
        SkyTurns x = new SkyTurns();
        due("feed(0)", x.feed(0), 1);
        due("feed(255)", x.feed(255), 2);
        due("feed(-1)", x.feed(-1), OUTSIDE);
        due("feed(256)", x.feed(256), OUTSIDE);
        for (int k = 3; k <= MOST_LETTERS; k++) due("feed", x.feed(32), k);
        due("the 251st", x.feed(32), FULL);
        due("the 251st", x.told(2), MOST_LETTERS);
        due("the first letter is kept", x.edge(), -11);
        due("the first letter is kept", x.fault(), 0);
        due("it is empty then", x.told(2), 0);
        for (int k = 1; k <= MOST_LETTERS; k++) due("feed anew", x.feed(32), k);
        due("the 251st, anew", x.feed(32), FULL);
    }

    private static String weights(int many) {
        StringBuilder b = new StringBuilder("w9");
        for (int k = 1; k < many; k++) b.append(",").append(k);
        return b.toString();
    }

    private static void weightsAtMost() {
        faulty("w;", CANNOT_STAND, 1);
        faulty("w,1;", CANNOT_STAND, 1);
        for (int many = 1; many <= 12; many++) due(many + " weights", read(weights(many) + ";", 0).told(0), many);
        // a thirteenth V: at its ','
        faulty(weights(13) + ";", CANNOT_STAND, weights(12).length());
        faulty(weights(12) + "  , 1;", CANNOT_STAND, weights(12).length() + 2);
        faulty(weights(12) + ",99999", CANNOT_STAND, weights(12).length());
        faulty(weights(12) + ",;", CANNOT_STAND, weights(12).length());
        faulty(weights(11) + ",;", CANNOT_STAND, weights(11).length() + 1);
    }

    private static void weightsFirstAndOnce() {
        for (String word : new String[] {"p", "t", "f"}) {
            faulty(word, CANNOT_STAND, 0);
            faulty("  " + word, CANNOT_STAND, 2);
        }
        faulty(ONE + "w1;", CANNOT_STAND, 0);
        faulty("t1 2 3;w1;", CANNOT_STAND, 0);
        faulty("f1;w1;", CANNOT_STAND, 0);
        faulty("w1;w2;", AGAIN, 3);
        faulty("w1;  w", AGAIN, 5);
        faulty("w1;" + ONE + "w2;", AGAIN, 14);
        faulty("w1;w99;", AGAIN, 3);
    }

    private static void weightsBounds() {
        due("the least weight", read("w0;", 0).told(9), 0);
        due("the greatest weight", read("w30;", 0).told(9), 30);
        faulty("w31;", BAD_NUMBER, 1);
        faulty("w 31;", BAD_NUMBER, 2);
        faulty("w100;", BAD_NUMBER, 1);
        faulty("w999;", BAD_NUMBER, 1);
        faulty("w-1;", CANNOT_STAND, 1);
        faulty("w30,31;", BAD_NUMBER, 4);
        read(weights(11) + ",30;", 0);
        faulty(weights(11) + ",31;", BAD_NUMBER, weights(11).length() + 1);
    }

    private static void peopleAtMost() {
        for (int many = 0; many <= 6; many++) read("w1;" + ONE.repeat(many), many);
        String six = "w1;" + ONE.repeat(6);
        faulty(six + ONE, AGAIN, six.length());
        faulty(six + "  p", AGAIN, six.length() + 2);
        faulty(six + "p9 9 9", AGAIN, six.length());
        SkyTurns x = read(six + "t1 2 3;f4;", 6);
        due("the sixth person", x.person(5, 1), 1);
        due("the seventh person", x.person(6, 1), UNKNOWN);
    }

    private static String person(int place, int number) {
        int[] numbers = {0, 1, 1, 0, 9};
        numbers[place] = number;
        StringBuilder b = new StringBuilder("w1;p");
        for (int k = 0; k < numbers.length; k++) b.append(k > 0 ? " " : "").append(numbers[k]);
        return b.append(";").toString();
    }

    private static void bounds(int place, int least, int most) {
        for (int number : new int[] {least, most}) {
            due("person: " + place + ", " + number, read(person(place, number), 1).person(0, place), number);
        }
        int at = 4 + 2 * place;
        if (least > 0) faulty(person(place, least - 1), BAD_NUMBER, at);
        faulty(person(place, most + 1), BAD_NUMBER, at);
        faulty(person(place, 999), BAD_NUMBER, at);
    }

    private static void personsBounds() {
        bounds(0, 0, 4);
        bounds(1, 1, 20);
        bounds(2, 1, 9);
        bounds(3, 0, 9);
        faulty("w1;p;", CANNOT_STAND, 4);
        faulty("w1;p0;", CANNOT_STAND, 5);
        faulty("w1;p0 1 1 0;", CANNOT_STAND, 11);
        faulty("w1;p0 1 1 0 9 9;", CANNOT_STAND, 14);
        faulty("w1;p0,1 1 0 9;", CANNOT_STAND, 5);
    }

    private static void fathers() {
        for (int father = 0; father <= 10; father++) {
            for (int ahead = 0; ahead < 6; ahead++) {
                String text = "w1;" + ONE.repeat(ahead) + "p0 1 1 0 " + father + ";";
                if (father != 9 && father >= ahead) faulty(text, BAD_NUMBER, text.indexOf(father + ";", text.length() - 3));
                else due("father " + father, read(text, ahead + 1).person(ahead, 4), father == 9 ? NONE : father);
            }
        }
        faulty("w1;p0 1 1 0   8 ;", BAD_NUMBER, 14);
        faulty("w1;p0 1 1 0 009;p0 1 1 0 001;", BAD_NUMBER, 25);
        due("three figures", read("w1;p0 1 1 0 009;p0 1 1 0 000;", 2).person(1, 4), 0);
    }

    private static void wordsBounds() {
        String[] places = {"t%d 1 1;", "t1 %d 1;", "t1 1 %d;"};
        for (int w = 0; w < 3; w++) {
            due("word " + w, read("w1;" + String.format(places[w], 0), 0).word(w), 0);
            due("word " + w, read("w1;" + String.format(places[w], 9), 0).word(w), 9);
            faulty("w1;" + String.format(places[w], 10), BAD_NUMBER, 4 + 2 * w);
        }
        SkyTurns x = read("w1;t9 0 4;", 0);
        due("word(-1)", x.word(-1), OUTSIDE);
        due("word(0)", x.word(0), 9);
        due("word(2)", x.word(2), 4);
        due("word(3)", x.word(3), OUTSIDE);
        faulty("w1;t1 2;", CANNOT_STAND, 7);
        faulty("w1;t;", CANNOT_STAND, 4);
        faulty("w1;t1 2 3 4;", CANNOT_STAND, 10);
        faulty("w1;t1,2,3;", CANNOT_STAND, 5);
    }

    private static void wordsUntoldAndOnce() {
        SkyTurns x = read("w1;", 0);
        due("untold", x.word(0) * 100 + x.word(1) * 10 + x.word(2), 357);
        Check.feedAll(x, "w1;t0 1 2;");
        x.edge();
        due("told", x.word(0) * 100 + x.word(1) * 10 + x.word(2), 12);
        Check.feedAll(x, "w1;");
        x.edge();
        due("untold again", x.word(0) * 100 + x.word(1) * 10 + x.word(2), 357);
        Check.feedAll(x, "w1;t1 1 1;x");
        due("told, then a fault", x.edge(), -11);
        for (int k = 4; k <= 5; k++) {
            Check.feedAll(x, "w1;t" + k + " 0 9;");
            due("told in each text anew", x.edge(), 0);
            due("told in each text anew", x.word(0) * 100 + x.word(1) * 10 + x.word(2), k * 100 + 9);
        }
        faulty("w1;t1 2 3;t1 2 3;", AGAIN, 10);
        faulty("w1;t3 5 7; t", AGAIN, 11);
        faulty("w1;t0 0 0;f1;t99", AGAIN, 13);
    }

    private static void fruitBounds() {
        due("no fruit", read("w1;f0;", 0).told(6), 0);
        due("most fruit", read("w1;f99;", 0).told(6), 99);
        faulty("w1;f100;", BAD_NUMBER, 4);
        faulty("w1;f;", CANNOT_STAND, 4);
        faulty("w1;f1 2;", CANNOT_STAND, 6);
        faulty("w1;f1,2;", CANNOT_STAND, 5);
    }

    private static void fruitUntoldAndOnce() {
        SkyTurns x = read("w1;", 0);
        due("untold", x.told(6), 9);
        Check.feedAll(x, "w1;f0;");
        x.edge();
        due("told", x.told(6), 0);
        Check.feedAll(x, "w1;");
        x.edge();
        due("untold again", x.told(6), 9);
        Check.feedAll(x, "w1;f3;x");
        due("told, then a fault", x.edge(), -11);
        for (int k = 4; k <= 5; k++) {
            Check.feedAll(x, "w1;f" + k + ";");
            due("told in each text anew", x.edge(), 0);
            due("told in each text anew", x.told(6), k);
        }
        faulty("w1;f0;f0;", AGAIN, 6);
        faulty("w1;f9;t1 2 3;f100;", AGAIN, 13);
    }

    private static void figures() {
        due("one figure", read("w7;", 0).told(9), 7);
        due("two figures", read("w07;", 0).told(9), 7);
        due("three figures", read("w007;", 0).told(9), 7);
        due("three noughts", read("w000;", 0).told(9), 0);
        faulty("w0007;", BAD_NUMBER, 1);
        faulty("w0000;", BAD_NUMBER, 1);
        faulty("w1,0000", BAD_NUMBER, 3);
        faulty("w1;f099;f0099;", AGAIN, 8);
        faulty("w1;f0099;", BAD_NUMBER, 4);
        faulty("w1;t001 0002 3;", BAD_NUMBER, 8);
        faulty("w1;p0000 1 1 0 9;", BAD_NUMBER, 4);
        faulty("w1;p0 1 1 0 0009;", BAD_NUMBER, 12);
        // each of these is a small number if it wraps around at 2 to the 32 or 64
        faulty("w4294967296;", BAD_NUMBER, 1);
        faulty("w18446744073709551617;", BAD_NUMBER, 1);
        faulty("w" + "0".repeat(249), BAD_NUMBER, 1);
        faulty("w" + "9".repeat(249), BAD_NUMBER, 1);
    }

    private static void oneLetterAWord() {
        faulty("ww1;", CANNOT_STAND, 1);
        faulty("w1;pp0 1 1 0 9;", CANNOT_STAND, 4);
        faulty("w1;tt1 2 3;", CANNOT_STAND, 4);
        faulty("w1;ff1;", CANNOT_STAND, 4);
    }

    private static void blanks() {
        SkyTurns x = read("  w  1 , 12  ;  p 0  20 5  2 9 ;  t 3 5   7 ;  f 44  ;  ", 1);
        due("blanks: weights", x.told(0), 2);
        due("blanks: strength", x.person(0, 1), 20);
        due("blanks: fruit", x.told(6), 44);
        String text = "w12,30;p0 15 5 9 9;t3 5 7;f44;";
        for (int k = 0; k <= text.length(); k++) {
            String with = text.substring(0, k) + " " + text.substring(k);
            boolean within = k > 0 && k < text.length() && Character.isDigit(text.charAt(k - 1)) && Character.isDigit(text.charAt(k));
            // "1 5" for "15" leaves a sixth number over, at the end of its clause
            if (within) faulty(with, CANNOT_STAND, k == 11 ? with.indexOf(";t") - 1 : k + 1);
            else read(with, 1);
        }
    }

    private static void blanksBetweenNumbers() {
        faulty("w1;p08529;", BAD_NUMBER, 4);
        faulty("w1;p0 852 9;", BAD_NUMBER, 6);
        faulty("w1;t357;", BAD_NUMBER, 4);
        faulty("w1;t3 57;", BAD_NUMBER, 6);
        read("w1;p0    8    5 2  9;", 1);
        faulty("w1;p0\t8 5 2 9;", CANNOT_STAND, 5);
        faulty("w1;p0;8 5 2 9;", CANNOT_STAND, 5);
    }

    private static void wrongLetters() {
        for (int k = 0; k <= 255; k++) {
            String letter = String.valueOf((char) k);
            if (k == ' ') read(letter, 0);
            else faulty(letter, CANNOT_STAND, k == 'w' ? 1 : 0);
            if (k == ' ') read("w1;" + letter, 0);
            else if (k == 'w') faulty("w1;" + letter, AGAIN, 3);
            else faulty("w1;" + letter, CANNOT_STAND, k == 'p' || k == 't' || k == 'f' ? 4 : 3);
        }
        for (int k = 0; k <= WHOLE.length(); k++) {
            faulty(WHOLE.substring(0, k) + "x" + WHOLE.substring(k), CANNOT_STAND, k);
            faulty(WHOLE.substring(0, k) + (char) 160 + WHOLE.substring(k), CANNOT_STAND, k);
        }
    }

    /** The end of a text that is cut within a clause has the fault: at the text's length. */
    private static void textsCutShort() {
        int people = 0;
        for (int k = 0; k <= WHOLE.length(); k++) {
            String text = WHOLE.substring(0, k);
            if (k > 0 && WHOLE.charAt(k - 1) == ';') people += text.lastIndexOf('p') > text.lastIndexOf(';', k - 2) ? 1 : 0;
            if (k == 0 || WHOLE.charAt(k - 1) == ';') read(text, people);
            else faulty(text, CANNOT_STAND, k);
            if (k > 0 && WHOLE.charAt(k - 1) != ';') faulty(text + "   ", CANNOT_STAND, k + 3);
        }
    }

    private static void firstOfFaults() {
        faulty("w31;x", BAD_NUMBER, 1);
        faulty("w1;x;w31;", CANNOT_STAND, 3);
        faulty("w1;w1;x", AGAIN, 3);
        faulty("w1;f100;f1;", BAD_NUMBER, 4);
        faulty("w1;p9 0 0 10 5;", BAD_NUMBER, 4);
        faulty("w1;p0 0 0 10 5;", BAD_NUMBER, 6);
        faulty("w1;p0 1 0 10 5;", BAD_NUMBER, 8);
        faulty("w1;p0 1 1 10 5;", BAD_NUMBER, 10);
        faulty("w1;p0 1 1 0 5x", BAD_NUMBER, 12);
        faulty("w1;p0 1 1 0 9x", CANNOT_STAND, 13);
    }

    /** Where two faults are at the same letter. */
    private static void leastOfFaults() {
        faulty("w1 9999;", CANNOT_STAND, 3);
        faulty("w1 31;", CANNOT_STAND, 3);
        faulty("9999;", CANNOT_STAND, 0);
        faulty("w1;9999;", CANNOT_STAND, 3);
        faulty("w1w1;", CANNOT_STAND, 2);
        faulty("w1;t1 2 3t", CANNOT_STAND, 9);
        faulty("w1;f1f", CANNOT_STAND, 5);
        faulty("w1;p0 1 1 0 9 99;", CANNOT_STAND, 14);
        String six = "w1;" + ONE.repeat(5) + "p0 1 1 0 9";
        faulty(six + "p", CANNOT_STAND, six.length());
    }

    private static void emptyTexts() {
        for (String text : new String[] {"", " ", " ".repeat(MOST_LETTERS)}) {
            SkyTurns x = Check.with("w1;" + ONE + "t1 2 3;f4;");
            Check.feedAll(x, text);
            due("empty: edge", x.edge(), 0);
            due("empty: fault", x.fault(), NONE);
            due("empty: weights", x.told(0), 0);
            due("empty: people", x.told(1), 0);
            due("empty: fruit untold", x.told(6), 9);
            due("empty: nobody holds", x.told(7), NONE);
            due("empty: weight of this hour", x.told(9), 0);
            due("empty: words untold", x.word(0) * 100 + x.word(1) * 10 + x.word(2), 357);
            due("empty: no hour", x.hour(1), NOT);
        }
        faulty(";", CANNOT_STAND, 0);
        faulty(" ;", CANNOT_STAND, 1);
    }

    private static void edgeBeginsAnew() {
        SkyTurns x = Refusal.full();
        due("text half told", x.edge(), -11);
        Check.feedAll(x, "w7,8;p0 8 5 2 9;p0 8 5 2 0;");
        due("anew: people", x.edge(), 2);
        int[] want = {2, 2, 0, 0, 0, 0, 9, 0, NONE, 7, 8, 0, 0, 0};
        for (int k = 0; k < want.length; k++) due("anew: told(" + k + ")", x.told(k), want[k]);
        for (int p = 0; p < 2; p++) {
            for (int what : new int[] {5, 6, 7, 9}) due("anew: person(" + p + ", " + what + ")", x.person(p, what), 0);
        }
        due("anew: those of the old edge", x.person(2, 0), UNKNOWN);
        due("anew: no image 0", x.goBack(0), NOT);
        due("anew: no image 1", x.goBack(1), NOT);
        due("anew: no hours", x.undo(1), NOT);
        due("anew: the seed stays", x.seed(0), 78);
        due("anew: seen", x.see(9), 1);
        due("anew: written", x.write(1, 0, false), 1);
    }

    /** Each number of fault: all is as it was, but for the text and the letter of the fault. */
    private static void edgeWithFault() {
        String[] texts = {"x", "w1;x", "w31;", "w1;p0 1 1 0 0;", "w1;w1;", "w3,4;p0 9 9 9 9;t1 1 1;f1;f1;", "w3;p0 9 9 9 9;t1 1 1;f1;w"};
        for (String text : texts) {
            SkyTurns called = Refusal.full();
            SkyTurns left = Refusal.full();
            due("with a fault: the half text", called.edge(), -11);
            left.edge();
            Check.feedAll(called, text);
            CHECK.holds("with a fault: edge of " + text, called.edge() <= -11);
            due("with a fault: the text is empty", called.told(2), 0);
            CHECK.holds("with a fault: all else is as it was behind " + text, Traces.of(called).equals(Traces.of(left)));
        }
    }

    private static void faultOfTheLatest() {
        SkyTurns x = new SkyTurns();
        due("fault: none yet", x.fault(), NONE);
        Check.feedAll(x, "x");
        due("fault: fed, not read", x.fault(), NONE);
        x.edge();
        due("fault: the first letter", x.fault(), 0);
        Check.feedAll(x, "w1;w");
        due("fault: of the latest still", x.fault(), 0);
        x.edge();
        due("fault: a later one", x.fault(), 3);
        x.tear();
        due("fault: other calls leave it", x.fault(), 3);
        Check.feedAll(x, "w1;");
        x.edge();
        due("fault: none any more", x.fault(), NONE);
        Check.feedAll(x, "w1");
        x.edge();
        x.edge();
        due("fault: none in an empty text", x.fault(), NONE);
    }
}
