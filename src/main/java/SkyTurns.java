/** The sky, held up by turns at the edge of the world: what each call promises stands in DOC.md. */
public final class SkyTurns {
    public static final int NONE = -1, UNKNOWN = -1000000001, OUTSIDE = -1000000002, NOT = -1000000003, FULL = -1000000004;

    private static final int MOST_LETTERS = 250;
    private static final int MOST_WEIGHTS = 12;
    private static final int MOST_PEOPLE = 6;
    private static final int WORDS_THERE_ARE = 3;
    private static final int IMAGES_THERE_ARE = 2;
    private static final int MOST_UNDONE = 60;
    private static final int LONGEST_ROW = 5;
    private static final int MOST_LINES = 20;

    private static final int LOWEST = 99;
    private static final int MOST_HARM = 999999999;
    private static final int MOST_TIRED = 20;
    private static final int MOST_FRUIT = 999;
    private static final int MOST_HOURS_A_CALL = 99;

    private static final int DWARF = 1, STATUE = 2, SLEEPY = 3, PAID = 4;
    private static final int DWARF_LOW = 2;
    private static final int PAY_FORCE = 2;

    private static final int NO_FAULT = 0, MISPLACED = 1, BAD_NUMBER = 2, AGAIN = 3;

    private final Edge told;
    private final Reader reader;
    private final Sky now;
    private final Sky trial;
    private final Past past;
    private final Sky[] images;
    private final boolean[] imageKept;
    private final int[] imageSeed;
    private final ShiftRows shiftRows;
    private final SeenRows seenRows;
    private final Chain chainTried;
    private final Book book;
    private final Debts debts;
    private final Game game;
    private int latestFault;
    private int seedNow;

    public SkyTurns() {
        Edge edgeTold = new Edge();
        Sky[] levels = new Sky[LONGEST_ROW];
        for (int k = 0; k < LONGEST_ROW; k++) levels[k] = new Sky(edgeTold);
        told = edgeTold;
        reader = new Reader();
        now = new Sky(edgeTold);
        trial = new Sky(edgeTold);
        past = new Past(edgeTold);
        images = new Sky[IMAGES_THERE_ARE];
        for (int k = 0; k < IMAGES_THERE_ARE; k++) images[k] = new Sky(edgeTold);
        imageKept = new boolean[IMAGES_THERE_ARE];
        imageSeed = new int[IMAGES_THERE_ARE];
        shiftRows = new ShiftRows(edgeTold, levels);
        seenRows = new SeenRows(edgeTold, levels);
        chainTried = new Chain(edgeTold);
        book = new Book();
        debts = new Debts(edgeTold);
        game = new Game();
        latestFault = NONE;
        seedNow = 0;
    }

    // ---- the edge

    public int feed(int letter) {
        if (letter < 0 || letter > 255) return OUTSIDE;
        if (reader.length >= MOST_LETTERS) return FULL;
        return reader.add(letter);
    }

    public int edge() {
        reader.readText();
        latestFault = reader.faultAt;
        if (reader.faultKind != NO_FAULT) return -10 - reader.faultKind;
        told.copyFrom(reader.draft);
        now.begin();
        past.forget();
        seenRows.clear();
        book.clear();
        for (int k = 0; k < IMAGES_THERE_ARE; k++) imageKept[k] = false;
        return told.people;
    }

    public int fault() {
        return latestFault;
    }

    public int told(int what) {
        switch (what) {
            case 0: return told.weightCount;
            case 1: return told.people;
            case 2: return reader.length;
            case 3: return now.clock;
            case 4: return now.low;
            case 5: return now.harm;
            case 6: return now.fruitLeft;
            case 7: return now.holder;
            case 8: return now.beside;
            case 9: return told.weightAt(now.clock);
            case 10: return now.forceHeld();
            case 11: return seenRows.seenCount;
            case 12: return book.lines;
            case 13: return past.count;
            default: return OUTSIDE;
        }
    }

    public int person(int p, int what) {
        if (!told.isPerson(p)) return UNKNOWN;
        switch (what) {
            case 0: return told.kind[p];
            case 1: return told.strength[p];
            case 2: return told.height[p];
            case 3: return told.wits[p];
            case 4: return told.father[p];
            case 5: return now.tired[p];
            case 6: return now.held[p];
            case 7: return now.fallen[p];
            case 8: return now.forceOf(p);
            case 9: return now.unbroken[p];
            default: return OUTSIDE;
        }
    }

    public int word(int w) {
        return isWord(w) ? told.goodness[w] : OUTSIDE;
    }

    // ---- what is done

    public int hour(int n) {
        if (n < 1 || n > MOST_HOURS_A_CALL) return OUTSIDE;
        if (!told.isWhole()) return NOT;
        for (int k = 0; k < n; k++) letHourPass();
        return now.low;
    }

    public int offer(int p, int w) {
        if (!told.isPerson(p)) return UNKNOWN;
        if (!isWord(w)) return OUTSIDE;
        if (now.isHolding(p)) return NOT;
        return now.trick(p, w) ? 1 : 0;
    }

    public int take(int p) {
        if (!told.isPerson(p)) return UNKNOWN;
        if (now.isHolding(p) || !now.isFatherHolding(p)) return NOT;
        now.handTo(p);
        return told.father[p];
    }

    public int join(int p) {
        if (!told.isPerson(p)) return UNKNOWN;
        if (now.beside != NONE || now.isHolding(p) || !told.areLevel(now.holder, p)) return NOT;
        now.beside = p;
        return now.forceHeld();
    }

    public int fruit(int n) {
        if (n < 0 || n > 99) return OUTSIDE;
        now.fruitLeft = Math.min(MOST_FRUIT, now.fruitLeft + n);
        return now.fruitLeft;
    }

    public int drift(int n) {
        if (n < 1 || n > MOST_HOURS_A_CALL) return OUTSIDE;
        if (!told.isWhole()) return NOT;
        int harmAhead = now.harm;
        for (int k = 0; k < n; k++) {
            passByDraw();
            letHourPass();
        }
        return now.harm - harmAhead;
    }

    public int undo(int n) {
        if (n < 1 || n > MOST_UNDONE) return OUTSIDE;
        if (n > past.count) return NOT;
        past.takeBack(now, n);
        return now.clock;
    }

    // ---- tried

    public int shifts(int n, int m, int i) {
        if (isNoTrial(n, m)) return OUTSIDE;
        if (!told.isWhole()) return NOT;
        shiftRows.find(now, n, m);
        return i == NONE ? shiftRows.fewest() : shiftRows.holderAt(i);
    }

    public int sinks(int n, int m) {
        if (isNoTrial(n, m)) return OUTSIDE;
        if (!told.isWhole()) return NOT;
        shiftRows.find(now, n, m);
        return shiftRows.firstSunk();
    }

    public int chain(int p, int i) {
        if (!told.isPerson(p)) return UNKNOWN;
        chainTried.find(now, p);
        return i == NONE ? chainTried.length : chainTried.holderAt(i);
    }

    public int pair(int what) {
        if (what < 0 || what > 2) return OUTSIDE;
        int first = NONE, second = NONE, most = NONE;
        for (int a = 0; a < told.people; a++) {
            for (int b = a + 1; b < told.people; b++) {
                int force = now.forceOf(a) + now.forceOf(b);
                if (!told.areLevel(a, b) || force <= most) continue;
                first = a;
                second = b;
                most = force;
            }
        }
        if (what == 0) return first;
        return what == 1 ? second : most;
    }

    public int owes(int p) {
        return told.isPerson(p) ? debts.ofOne(now, p) : UNKNOWN;
    }

    public int payments() {
        return debts.fewestPayments(now);
    }

    public int sons(int p) {
        return told.isPerson(p) ? debts.ofLine(now, p) : UNKNOWN;
    }

    public int words(int a, int b, int c, int d, int what) {
        if (isNoGain(a) || isNoGain(b) || isNoGain(c) || isNoGain(d)) return OUTSIDE;
        if (what < 0 || what > 3) return OUTSIDE;
        game.solve(a, b, c, d);
        switch (what) {
            case 0: return game.valueAbove;
            case 1: return game.valueBelow;
            case 2: return game.oddsAbove;
            default: return game.oddsBelow;
        }
    }

    public int pillar(int p, int n) {
        if (p < 1 || p > 30 || n < 1 || n > 40) return OUTSIDE;
        if (!told.isWhole()) return NOT;
        return harmBehind(n, 0) - harmBehind(n, p);
    }

    // ---- what was seen

    public int see(int low) {
        if (low < 0 || low > LOWEST) return OUTSIDE;
        if (seenRows.seenCount >= LONGEST_ROW) return FULL;
        return seenRows.add(low);
    }

    public int who(int i) {
        if (!told.isWhole()) return NOT;
        seenRows.find(now);
        return i == NONE ? seenRows.count : seenRows.holderAt(i);
    }

    public int sure() {
        if (!told.isWhole()) return NOT;
        seenRows.find(now);
        return seenRows.common;
    }

    public int write(int p, int w, boolean takes) {
        if (!told.isPerson(p)) return UNKNOWN;
        if (!isWord(w)) return OUTSIDE;
        if (book.lines >= MOST_LINES) return FULL;
        return book.add(p, w, takes);
    }

    public int judge() {
        trial.copyFrom(now);
        return book.firstWrong(trial);
    }

    public int tear() {
        int both = seenRows.seenCount + book.lines;
        seenRows.clear();
        book.clear();
        return both;
    }

    // ---- images

    public int seed(int v) {
        if (v < 0) return OUTSIDE;
        int seedAhead = seedNow;
        seedNow = v;
        return seedAhead;
    }

    public int keep(int i) {
        if (!isImage(i)) return UNKNOWN;
        images[i].copyFrom(now);
        imageSeed[i] = seedNow;
        imageKept[i] = true;
        past.forget();
        return 1;
    }

    public int goBack(int i) {
        if (!isImage(i)) return UNKNOWN;
        if (!imageKept[i]) return NOT;
        now.copyFrom(images[i]);
        seedNow = imageSeed[i];
        past.forget();
        return 1;
    }

    // ---- what the calls share

    private static boolean isWord(int w) {
        return w >= 0 && w < WORDS_THERE_ARE;
    }

    private static boolean isImage(int i) {
        return i >= 0 && i < IMAGES_THERE_ARE;
    }

    private static boolean isNoGain(int gain) {
        return gain < 0 || gain > 9;
    }

    private static boolean isNoTrial(int hours, int low) {
        return hours < 1 || hours > LONGEST_ROW || low < 0 || low > LOWEST;
    }

    private void letHourPass() {
        past.add(now);
        now.passHour(0);
    }

    private void passByDraw() {
        int p = draw(told.people);
        if (now.isHolding(p)) return;
        if (now.isFatherHolding(p)) now.handTo(p);
        else now.trick(p, draw(WORDS_THERE_ARE));
    }

    private int draw(int n) {
        seedNow = (int) ((seedNow * 1103515245L + 12345L) & 0x7fffffffL);
        return n < 1 ? 0 : seedNow / 65536 % n;
    }

    private int harmBehind(int hours, int relief) {
        trial.copyFrom(now);
        for (int k = 0; k < hours; k++) trial.passHour(relief);
        return trial.harm;
    }

    /** What a text tells. */
    private static final class Edge {
        final int[] weights = new int[MOST_WEIGHTS];
        final int[] kind = new int[MOST_PEOPLE];
        final int[] strength = new int[MOST_PEOPLE];
        final int[] height = new int[MOST_PEOPLE];
        final int[] wits = new int[MOST_PEOPLE];
        final int[] father = new int[MOST_PEOPLE];
        final int[] goodness = new int[WORDS_THERE_ARE];
        int weightCount;
        int people;
        int firstFruit;

        Edge() {
            clear();
        }

        void clear() {
            weightCount = 0;
            people = 0;
            setGoodness(3, 5, 7);
            firstFruit = 9;
        }

        void copyFrom(Edge other) {
            System.arraycopy(other.weights, 0, weights, 0, MOST_WEIGHTS);
            System.arraycopy(other.kind, 0, kind, 0, MOST_PEOPLE);
            System.arraycopy(other.strength, 0, strength, 0, MOST_PEOPLE);
            System.arraycopy(other.height, 0, height, 0, MOST_PEOPLE);
            System.arraycopy(other.wits, 0, wits, 0, MOST_PEOPLE);
            System.arraycopy(other.father, 0, father, 0, MOST_PEOPLE);
            System.arraycopy(other.goodness, 0, goodness, 0, WORDS_THERE_ARE);
            weightCount = other.weightCount;
            people = other.people;
            firstFruit = other.firstFruit;
        }

        void setGoodness(int errand, int pad, int time) {
            goodness[0] = errand;
            goodness[1] = pad;
            goodness[2] = time;
        }

        void addWeight(int weight) {
            if (weightCount >= MOST_WEIGHTS) return;
            weights[weightCount] = weight;
            weightCount++;
        }

        void addPerson(int kindTold, int strengthTold, int heightTold, int witsTold, int fatherTold) {
            if (people >= MOST_PEOPLE) return;
            kind[people] = kindTold;
            strength[people] = strengthTold;
            height[people] = heightTold;
            wits[people] = witsTold;
            father[people] = fatherTold;
            people++;
        }

        boolean isPerson(int p) {
            return p >= 0 && p < people;
        }

        boolean isWhole() {
            return weightCount > 0 && people > 0;
        }

        int weightAt(int clock) {
            if (weightCount < 1 || clock < 0) return 0;
            return weights[clock % weightCount];
        }

        boolean areLevel(int a, int b) {
            return isPerson(a) && isPerson(b) && Math.abs(height[a] - height[b]) <= 1;
        }

        boolean isSon(int p, int ofWhom) {
            return isPerson(p) && isPerson(ofWhom) && father[p] == ofWhom;
        }
    }

    /** The text, and what it tells so far, up to its first fault. */
    private static final class Reader {
        final int[] letters = new int[MOST_LETTERS];
        final Edge draft = new Edge();
        int length;
        int faultKind;
        int faultAt = NONE;
        private int at;
        private int numberAt;
        private boolean goodnessTold;
        private boolean fruitTold;

        int add(int letter) {
            if (length < MOST_LETTERS) {
                letters[length] = letter;
                length++;
            }
            return length;
        }

        void readText() {
            draft.clear();
            faultKind = NO_FAULT;
            faultAt = NONE;
            at = 0;
            goodnessTold = false;
            fruitTold = false;
            for (int k = 0; k < MOST_LETTERS && hasMore(); k++) readClause();
            length = 0;
        }

        private boolean hasMore() {
            skipBlanks();
            return faultKind == NO_FAULT && at < length;
        }

        private void readClause() {
            int letter = letters[at];
            if (letter == 'w') readWeights();
            else if (draft.weightCount == 0) fail(MISPLACED, at);
            else if (letter == 'p') readPerson();
            else if (letter == 't') readGoodness();
            else if (letter == 'f') readFruit();
            else fail(MISPLACED, at);
        }

        private void readWeights() {
            if (draft.weightCount > 0) {
                fail(AGAIN, at);
                return;
            }
            boolean more = true;
            for (int k = 0; k < MOST_WEIGHTS && more; k++) {
                at++;
                int weight = readNumber(0, 30);
                draft.addWeight(weight);
                more = isNext(',');
            }
            readEnd();
        }

        private void readPerson() {
            if (draft.people >= MOST_PEOPLE) {
                fail(AGAIN, at);
                return;
            }
            at++;
            int kind = readNumber(0, PAID);
            int strength = readNumber(1, 20);
            int height = readNumber(1, 9);
            int wits = readNumber(0, 9);
            int father = readFather();
            readEnd();
            if (faultKind == NO_FAULT) draft.addPerson(kind, strength, height, wits, father);
        }

        private int readFather() {
            int father = readNumber(0, 9);
            if (father == 9) return NONE;
            if (!draft.isPerson(father)) fail(BAD_NUMBER, numberAt);
            return father;
        }

        private void readGoodness() {
            if (goodnessTold) {
                fail(AGAIN, at);
                return;
            }
            at++;
            goodnessTold = true;
            int errand = readNumber(0, 9);
            int pad = readNumber(0, 9);
            int time = readNumber(0, 9);
            readEnd();
            draft.setGoodness(errand, pad, time);
        }

        private void readFruit() {
            if (fruitTold) {
                fail(AGAIN, at);
                return;
            }
            at++;
            fruitTold = true;
            draft.firstFruit = readNumber(0, 99);
            readEnd();
        }

        /** A number from least to most; behind a fault nothing is read any more. */
        private int readNumber(int least, int most) {
            skipBlanks();
            if (faultKind != NO_FAULT) return least;
            numberAt = at;
            int value = 0;
            while (at < length && isFigure(letters[at])) {
                if (at - numberAt < 3) value = value * 10 + letters[at] - '0';
                at++;
            }
            int figures = at - numberAt;
            if (figures == 0) fail(MISPLACED, at);
            else if (figures > 3 || value < least || value > most) fail(BAD_NUMBER, numberAt);
            return value;
        }

        private void readEnd() {
            if (isNext(';')) at++;
            else fail(MISPLACED, at);
        }

        private boolean isNext(int letter) {
            skipBlanks();
            return faultKind == NO_FAULT && at < length && letters[at] == letter;
        }

        private void skipBlanks() {
            while (at < length && letters[at] == ' ') at++;
        }

        private static boolean isFigure(int letter) {
            return letter >= '0' && letter <= '9';
        }

        private void fail(int kind, int place) {
            if (faultKind != NO_FAULT) return;
            faultKind = kind;
            faultAt = place;
        }
    }

    /** All that hours and offers change. */
    private static final class Sky {
        final Edge told;
        final int[] tired = new int[MOST_PEOPLE];
        final int[] held = new int[MOST_PEOPLE];
        final int[] unbroken = new int[MOST_PEOPLE];
        final int[] fallen = new int[MOST_PEOPLE];
        int clock;
        int low;
        int harm;
        int fruitLeft;
        int holder;
        int beside;

        Sky(Edge told) {
            this.told = told;
            begin();
        }

        void begin() {
            for (int p = 0; p < MOST_PEOPLE; p++) {
                tired[p] = 0;
                held[p] = 0;
                unbroken[p] = 0;
                fallen[p] = 0;
            }
            clock = 0;
            low = 0;
            harm = 0;
            fruitLeft = told.firstFruit;
            holder = told.people > 0 ? 0 : NONE;
            beside = NONE;
        }

        void copyFrom(Sky other) {
            System.arraycopy(other.tired, 0, tired, 0, MOST_PEOPLE);
            System.arraycopy(other.held, 0, held, 0, MOST_PEOPLE);
            System.arraycopy(other.unbroken, 0, unbroken, 0, MOST_PEOPLE);
            System.arraycopy(other.fallen, 0, fallen, 0, MOST_PEOPLE);
            clock = other.clock;
            low = other.low;
            harm = other.harm;
            fruitLeft = other.fruitLeft;
            holder = other.holder;
            beside = other.beside;
        }

        boolean isHolding(int p) {
            return p != NONE && (p == holder || p == beside);
        }

        boolean isFatherHolding(int p) {
            return told.isSon(p, holder) || told.isSon(p, beside);
        }

        void handTo(int p) {
            holder = p;
            beside = NONE;
        }

        boolean isTrickedBy(int p, int w) {
            if (!told.isPerson(p) || !isWord(w)) return false;
            return told.goodness[w] > told.wits[p] && (fallen[p] & 1 << w) == 0;
        }

        boolean isTrickedBySome(int p) {
            for (int w = 0; w < WORDS_THERE_ARE; w++) {
                if (isTrickedBy(p, w)) return true;
            }
            return false;
        }

        /** Whether it takes the sky over by this word; it has done so then. */
        boolean trick(int p, int w) {
            if (!isTrickedBy(p, w)) return false;
            fallen[p] |= 1 << w;
            handTo(p);
            return true;
        }

        int forceOf(int p) {
            if (!told.isPerson(p)) return 0;
            int kind = told.kind[p];
            if (kind == STATUE) return unbroken[p] > 0 ? 0 : told.strength[p];
            if (kind == PAID && fruitLeft < 1) return 0;
            int force = Math.max(0, told.strength[p] - tired[p] / 2);
            boolean sleeps = (kind == SLEEPY || kind == PAID) && clock % 3 == 2;
            if (sleeps) force = force / 2;
            return kind == PAID ? force + PAY_FORCE : force;
        }

        int forceHeld() {
            return forceOf(holder) + forceOf(beside);
        }

        /** LOW behind this hour, if these hold (the second may be NONE) and the weight is that much less. */
        int lowBehind(int first, int second, int relief) {
            int weight = Math.max(0, told.weightAt(clock) - relief);
            int force = forceOf(first) + forceOf(second);
            int behind = low;
            if (force < weight) behind = Math.min(LOWEST, low + weight - force);
            else if (force > weight) behind = Math.max(0, low - 1);
            boolean dwarfAlone = second == NONE && told.isPerson(first) && told.kind[first] == DWARF;
            return dwarfAlone ? Math.max(DWARF_LOW, behind) : behind;
        }

        void passHour(int relief) {
            endHour(lowBehind(holder, beside, relief));
        }

        void endHour(int lowThen) {
            low = lowThen;
            harm = Math.min(MOST_HARM, harm + low);
            for (int p = 0; p < told.people; p++) {
                if (isHolding(p)) bear(p);
                else rest(p);
            }
            clock++;
        }

        private void bear(int p) {
            tired[p] = Math.min(MOST_TIRED, tired[p] + 1);
            held[p]++;
            unbroken[p]++;
            if (told.kind[p] == PAID && fruitLeft > 0) fruitLeft--;
        }

        private void rest(int p) {
            tired[p] = Math.max(0, tired[p] - 1);
            unbroken[p] = 0;
        }
    }

    /** The latest hours that can be undone: how all was ahead of each, in a ring. */
    private static final class Past {
        final Sky[] skies = new Sky[MOST_UNDONE];
        int count;
        private int next;

        Past(Edge told) {
            for (int k = 0; k < MOST_UNDONE; k++) skies[k] = new Sky(told);
        }

        void forget() {
            count = 0;
            next = 0;
        }

        void add(Sky now) {
            skies[next].copyFrom(now);
            next = (next + 1) % MOST_UNDONE;
            count = Math.min(MOST_UNDONE, count + 1);
        }

        void takeBack(Sky now, int hours) {
            if (hours < 1 || hours > count) return;
            next = (next + MOST_UNDONE - hours) % MOST_UNDONE;
            count -= hours;
            now.copyFrom(skies[next]);
        }
    }

    /** Rows of people who hold alone hour by hour, tried in their order; what fits is told by the kinds of rows. */
    private abstract static class Rows {
        final Edge told;
        final Sky[] levels;
        final int[] row = new int[LONGEST_ROW];
        final int[] hoursOf = new int[MOST_PEOPLE];
        int hours;

        Rows(Edge told, Sky[] levels) {
            this.told = told;
            this.levels = levels;
        }

        /** Whether the row may go on with this one, with LOW as it is behind that hour. */
        abstract boolean fits(int level, int p, int low);

        abstract void endRow();

        final void tryRows(Sky now, int hoursTried) {
            hours = Math.min(LONGEST_ROW, hoursTried);
            for (int p = 0; p < MOST_PEOPLE; p++) hoursOf[p] = 0;
            levels[0].copyFrom(now);
            goOn(0);
        }

        private void goOn(int level) {
            if (level >= hours) {
                endRow();
                return;
            }
            for (int p = 0; p < told.people; p++) {
                int low = levels[level].lowBehind(p, NONE, 0);
                if (!fits(level, p, low)) continue;
                row[level] = p;
                hoursOf[p]++;
                if (level + 1 < hours) standBehind(level, p, low);
                goOn(level + 1);
                hoursOf[p]--;
            }
        }

        private void standBehind(int level, int p, int low) {
            Sky behind = levels[level + 1];
            behind.copyFrom(levels[level]);
            behind.handTo(p);
            behind.endHour(low);
        }
    }

    /** Rows that never sink too low: the one by which nobody holds much, and how far any gets. */
    private static final class ShiftRows extends Rows {
        private final int[] bestRow = new int[LONGEST_ROW];
        private int best;
        private int deepest;
        private int limit;

        ShiftRows(Edge told, Sky[] levels) {
            super(told, levels);
        }

        void find(Sky now, int hoursTried, int lowAllowed) {
            limit = lowAllowed;
            best = LONGEST_ROW + 1;
            deepest = 0;
            tryRows(now, hoursTried);
        }

        // A row that gives somebody as many hours as the best one does is no better, and comes later.
        // This ends no row while none has been whole, so that deepest is right with it, too.
        boolean fits(int level, int p, int low) {
            if (low > limit) return false;
            deepest = Math.max(deepest, level + 1);
            return hoursOf[p] + 1 < best;
        }

        void endRow() {
            int most = 0;
            for (int p = 0; p < MOST_PEOPLE; p++) most = Math.max(most, hoursOf[p]);
            if (most >= best) return;
            best = most;
            System.arraycopy(row, 0, bestRow, 0, LONGEST_ROW);
        }

        private boolean isFound() {
            return best <= LONGEST_ROW;
        }

        int fewest() {
            return isFound() ? best : NONE;
        }

        int holderAt(int i) {
            return isFound() && i >= 0 && i < hours ? bestRow[i] : NONE;
        }

        int firstSunk() {
            return deepest < hours ? deepest : NONE;
        }
    }

    /** The rows by which LOW is as it was seen. */
    private static final class SeenRows extends Rows {
        private final int[] seen = new int[LONGEST_ROW];
        private final int[] firstRow = new int[LONGEST_ROW];
        int seenCount;
        int count;
        int common;

        SeenRows(Edge told, Sky[] levels) {
            super(told, levels);
        }

        void clear() {
            seenCount = 0;
        }

        int add(int low) {
            if (seenCount < LONGEST_ROW) {
                seen[seenCount] = low;
                seenCount++;
            }
            return seenCount;
        }

        void find(Sky now) {
            count = 0;
            common = 0;
            tryRows(now, seenCount);
        }

        boolean fits(int level, int p, int low) {
            return low == seen[level];
        }

        void endRow() {
            int inRow = 0;
            for (int p = 0; p < MOST_PEOPLE; p++) {
                if (hoursOf[p] > 0) inRow |= 1 << p;
            }
            if (count == 0) {
                common = inRow;
                System.arraycopy(row, 0, firstRow, 0, LONGEST_ROW);
            }
            common &= inRow;
            count++;
        }

        int holderAt(int i) {
            return count > 0 && i >= 0 && i < hours ? firstRow[i] : NONE;
        }
    }

    /** The shortest way, by offers and takings, till one holds. */
    private static final class Chain {
        final Edge told;
        private final boolean[] falls = new boolean[MOST_PEOPLE];
        private final boolean[] starts = new boolean[MOST_PEOPLE];
        private final int[] stepsLeft = new int[MOST_PEOPLE];
        private final int[] way = new int[MOST_PEOPLE];
        int length;

        Chain(Edge told) {
            this.told = told;
        }

        void find(Sky now, int goal) {
            length = now.isHolding(goal) ? 0 : NONE;
            if (length == 0) return;
            for (int p = 0; p < told.people; p++) {
                falls[p] = now.isTrickedBySome(p);
                starts[p] = !now.isHolding(p) && (falls[p] || now.isFatherHolding(p));
            }
            countSteps(goal);
            int holder = nextOf(NONE);
            if (holder == NONE) return;
            length = stepsLeft[holder] + 1;
            for (int k = 0; k < length && k < MOST_PEOPLE && holder != NONE; k++) {
                way[k] = holder;
                holder = nextOf(holder);
            }
        }

        int holderAt(int i) {
            return i >= 0 && i < length && i < MOST_PEOPLE ? way[i] : NONE;
        }

        /** Steps from each one, holding alone, to the goal; NONE where no way leads there. */
        private void countSteps(int goal) {
            for (int p = 0; p < MOST_PEOPLE; p++) stepsLeft[p] = p == goal ? 0 : NONE;
            for (int steps = 1; steps < told.people; steps++) {
                for (int p = 0; p < told.people; p++) {
                    if (stepsLeft[p] == NONE && leadsOn(p, steps - 1)) stepsLeft[p] = steps;
                }
            }
        }

        private boolean leadsOn(int from, int steps) {
            for (int p = 0; p < told.people; p++) {
                if (stepsLeft[p] == steps && isStep(from, p)) return true;
            }
            return false;
        }

        /** The lesser one of those nearest to the goal who can take over; from NONE: from who holds now. */
        private int nextOf(int from) {
            int next = NONE;
            for (int p = 0; p < told.people; p++) {
                if (stepsLeft[p] == NONE || !isStep(from, p)) continue;
                if (next == NONE || stepsLeft[p] < stepsLeft[next]) next = p;
            }
            return next;
        }

        private boolean isStep(int from, int to) {
            if (from == NONE) return starts[to];
            return from != to && (falls[to] || told.isSon(to, from));
        }
    }

    /** Offers as they are told. */
    private static final class Book {
        private final int[] persons = new int[MOST_LINES];
        private final int[] wordsTold = new int[MOST_LINES];
        private final boolean[] taken = new boolean[MOST_LINES];
        int lines;

        void clear() {
            lines = 0;
        }

        int add(int p, int w, boolean takes) {
            if (lines < MOST_LINES) {
                persons[lines] = p;
                wordsTold[lines] = w;
                taken[lines] = takes;
                lines++;
            }
            return lines;
        }

        int firstWrong(Sky sky) {
            for (int k = 0; k < lines; k++) {
                if (sky.isHolding(persons[k])) return k;
                if (sky.trick(persons[k], wordsTold[k]) != taken[k]) return k;
            }
            return NONE;
        }
    }

    /** Who owes hours, and how all become even. */
    private static final class Debts {
        private static final int SETS = 1 << MOST_PEOPLE;
        final Edge told;
        private final int[] sums = new int[SETS];
        private final int[] groups = new int[SETS];

        Debts(Edge told) {
            this.told = told;
        }

        int ofOne(Sky now, int p) {
            int all = 0;
            for (int q = 0; q < told.people; q++) all += now.held[q];
            return now.held[p] * told.people - all;
        }

        int ofLine(Sky now, int p) {
            int sum = 0;
            for (int q = 0; q < told.people; q++) {
                if (isOfLine(q, p)) sum += ofOne(now, q);
            }
            return sum;
        }

        private boolean isOfLine(int p, int ofWhom) {
            int one = p;
            for (int k = 0; k < MOST_PEOPLE && told.isPerson(one); k++) {
                if (one == ofWhom) return true;
                one = told.father[one];
            }
            return false;
        }

        /** As many groups that are even in themselves as can be: each spares one payment. */
        int fewestPayments(Sky now) {
            int sets = 1 << told.people;
            sums[0] = 0;
            groups[0] = 0;
            for (int set = 1; set < sets; set++) {
                groups[set] = 0;
                for (int p = 0; p < told.people; p++) {
                    int others = set & ~(1 << p);
                    if (others == set) continue;
                    sums[set] = sums[others] + ofOne(now, p);
                    groups[set] = Math.max(groups[set], groups[others]);
                }
                if (sums[set] == 0) groups[set]++;
            }
            return told.people - groups[sets - 1];
        }
    }

    /** One of two things said, one of two thought: what it is worth, and by which odds. */
    private static final class Game {
        private static final int MOST_DIVISIONS = 100;
        private int said0Thought0;
        private int said0Thought1;
        private int said1Thought0;
        private int said1Thought1;
        int valueAbove;
        int valueBelow;
        int oddsAbove;
        int oddsBelow;

        void solve(int a, int b, int c, int d) {
            said0Thought0 = a;
            said0Thought1 = b;
            said1Thought0 = c;
            said1Thought1 = d;
            setOdds(0, 1);
            tryEvenOdds(a - b - c + d, d - c);
            tryOdds(1, 1);
            int valueParts = greatestCommonPart(valueAbove, valueBelow);
            valueAbove /= valueParts;
            valueBelow /= valueParts;
            int oddsParts = greatestCommonPart(oddsAbove, oddsBelow);
            oddsAbove /= oddsParts;
            oddsBelow /= oddsParts;
        }

        /** The odds by which it is all the same what the other one thinks, if they lie between never and always. */
        private void tryEvenOdds(int whole, int part) {
            int below = Math.abs(whole);
            int above = whole < 0 ? -part : part;
            if (above > 0 && above < below) tryOdds(above, below);
        }

        private void tryOdds(int above, int below) {
            if (valueOf(above, below) * valueBelow > valueAbove * below) setOdds(above, below);
        }

        private void setOdds(int above, int below) {
            oddsAbove = above;
            oddsBelow = below;
            valueAbove = valueOf(above, below);
            valueBelow = below;
        }

        private int valueOf(int above, int below) {
            int ifThought0 = said0Thought0 * above + said1Thought0 * (below - above);
            int ifThought1 = said0Thought1 * above + said1Thought1 * (below - above);
            return Math.min(ifThought0, ifThought1);
        }

        private static int greatestCommonPart(int a, int b) {
            int large = Math.max(a, b);
            int small = Math.min(a, b);
            for (int k = 0; k < MOST_DIVISIONS && small > 0; k++) {
                int left = large % small;
                large = small;
                small = left;
            }
            return Math.max(1, large);
        }
    }
}
