import java.util.NoSuchElementException;

/** A realm whose history is written on folded paper; the promises stand in the document DOC.md. */
public final class FoldedRealm {
    public static final int NONE = -1;

    private static final int OTHERS = -2;
    private static final int TAPE_MOST = 1000;
    private static final int WRITERS_MOST = 5;
    private static final int WORDS_MOST = 12;
    private static final int FOLDS_MOST = 4;
    private static final int SPIKE_MOST = 10;
    private static final int LEFT_MOST = 9;
    private static final int LINES_MOST = 40;
    private static final int UNDO_MOST = 16;
    private static final int READ_MOST = 8;
    private static final int MARKS = 4;
    private static final int MEET_MOST = 9;
    private static final int SEED_MOST = 9999;
    private static final int DRAWN_MOST = 99;
    private static final int MILLION = 1000000;
    // Every whole uses up one word of its first fold, so no more than these can follow one another.
    private static final int WHOLES_MOST = WORDS_MOST * LEFT_MOST;

    private final Tokens tokens = new Tokens();
    private final Reader reader = new Reader(tokens);
    private Realm realm = new Realm();
    private Realm draft = new Realm();
    private final Page page = new Page();
    private final Page[] marks = new Page[MARKS];
    private final History history = new History();
    private final Standing trial = new Standing();
    private final Odds odds = new Odds();
    private final Shares shares = new Shares();
    private final int[] seatShares = new int[WRITERS_MOST];
    private final int[] foes = new int[SPIKE_MOST];

    public FoldedRealm() {
        for (int i = 0; i < MARKS; i++) {
            marks[i] = new Page();
        }
        page.begin(realm);
    }

    public int feed(long a, long b, long c) {
        tokens.append(a);
        tokens.append(b);
        tokens.append(c);
        return tokens.length;
    }

    public int realm() {
        int fault = reader.readRealm(draft);
        tokens.takeOff();
        if (fault != 0) {
            return fault;
        }
        Realm old = realm;
        realm = draft;
        draft = old;
        page.begin(realm);
        history.forget();
        for (int i = 0; i < MARKS; i++) {
            marks[i].laid = false;
        }
        return 0;
    }

    public int sundays() {
        int fault = reader.readSundays(realm);
        tokens.takeOff();
        if (fault == 0) {
            page.takeLines(reader.lines, reader.lineCount);
        }
        return fault;
    }

    public int writer(int writer, int what) {
        if (!realm.hasWriter(writer)) {
            return OTHERS;
        }
        if (what == 0) {
            return realm.kindOf(writer);
        }
        if (what < 1 || what > realm.words) {
            return OTHERS;
        }
        return realm.fondness(writer, what - 1);
    }

    public int word(int word, int what) {
        if (!realm.hasWord(word)) {
            return OTHERS;
        }
        switch (what) {
            case 0:
                return realm.fold[word];
            case 1:
                return realm.weight[word];
            case 2:
                return realm.good[word];
            case 3:
                return page.standing.left[word];
            case 4:
                return likelyNow(word);
            default:
                return OTHERS;
        }
    }

    private int likelyNow(int word) {
        Standing now = page.standing;
        if (realm.foldOf(word) != now.written) {
            return NONE;
        }
        odds.weighNext(realm, now);
        return odds.likelyBehind(Odds.BEGINNING, word);
    }

    public int strip(int fold) {
        return page.standing.stripAt(fold);
    }

    public int spike(int whole, int fold) {
        if (fold >= realm.folds) {
            return NONE;
        }
        return page.standing.spikeAt(whole, fold);
    }

    public int write(int word) {
        Standing now = page.standing;
        if (!now.canPut(realm, word)) {
            return NONE;
        }
        history.keep(now);
        now.put(realm, word);
        return now.written;
    }

    public int pass() {
        Standing now = page.standing;
        if (!now.canMoveSeat(realm)) {
            return NONE;
        }
        history.keep(now);
        now.moveSeat(realm);
        return now.seat;
    }

    public int burn(int whole) {
        Standing now = page.standing;
        if (!now.hasWhole(whole)) {
            return NONE;
        }
        history.keep(now);
        now.takeDown(realm, whole);
        return now.wholes;
    }

    public boolean undo() {
        return history.giveBack(page.standing);
    }

    public int judged(int what) {
        if (what < 0 || what > 2) {
            return OTHERS;
        }
        trial.begin(realm);
        int wrong = NONE;
        int clash = NONE;
        for (int i = 0; i < page.lineCount; i++) {
            int line = page.lineAt(i);
            boolean done = trial.follow(realm, line);
            if (!done && wrong == NONE) {
                wrong = i;
            }
            if (done && clash == NONE && trial.cameBy(line) && trial.lastClashes(realm)) {
                clash = i;
            }
        }
        if (what == 2) {
            return trial.good;
        }
        return what == 0 ? wrong : clash;
    }

    public int comes(int words) {
        Standing now = page.standing;
        if (!realm.isRow(words, now.written)) {
            return NONE;
        }
        odds.weighAll(realm, now, now.seat, now.written);
        return odds.chanceOf(realm, words, now.written);
    }

    public int best(int fold) {
        Standing now = page.standing;
        odds.gatherRows(realm, now);
        int row = odds.greatestRow();
        if (row == NONE) {
            return OTHERS;
        }
        if (fold == NONE) {
            return odds.millionths(row);
        }
        if (fold < now.written || fold >= realm.folds) {
            return OTHERS;
        }
        return odds.wordOfRow(row, fold);
    }

    public int worst() {
        Standing now = page.standing;
        odds.gatherRows(realm, now);
        int least = NONE;
        for (int row = 0; row < odds.rows; row++) {
            int does = realm.goodOf(odds.rowWords, row * FOLDS_MOST, now.wholes);
            if (least == NONE || does < least) {
                least = does;
            }
        }
        return least;
    }

    public int mean() {
        Standing now = page.standing;
        odds.gatherRows(realm, now);
        long together = 0;
        for (int row = 0; row < odds.rows; row++) {
            long does = realm.goodOf(odds.rowWords, row * FOLDS_MOST, now.wholes);
            together += does * odds.millionths(row);
        }
        return (int) (together / 1000);
    }

    public int aim(int word, int what) {
        if (what < 0 || what > 1 || realm.foldOf(word) != realm.folds - 1) {
            return NONE;
        }
        Standing now = page.standing;
        odds.weighAll(realm, now, now.seat, now.written);
        int which = NONE;
        int most = NONE;
        for (int first = 0; first < realm.words; first++) {
            if (now.canPut(realm, first)) {
                shares.pourBehind(realm, odds, first);
                if (shares.of(word) > most) {
                    most = shares.of(word);
                    which = first;
                }
            }
        }
        return what == 0 ? which : most;
    }

    public int meet(int word, int other, int wholes) {
        if (!realm.isWritten(word) || !realm.isWritten(other) || wholes < 1 || wholes > MEET_MOST) {
            return NONE;
        }
        if (realm.foldOf(word) == realm.foldOf(other)) {
            return NONE;
        }
        int both = (1 << word) | (1 << other);
        int seat = page.standing.seat;
        long apart = MILLION;
        for (int i = 0; i < wholes; i++) {
            long together = sharedBy(seat, both);
            apart = apart * (MILLION - together) / MILLION;
            seat = realm.seatBehind(seat);
        }
        return (int) (MILLION - apart);
    }

    /** What comes to the rows of a whole begun by a seat in which all those words stand. */
    private int sharedBy(int seat, int words) {
        odds.weighAll(realm, page.standing, seat, 0);
        shares.pour(realm, odds, words);
        return shares.atLast(realm);
    }

    public int clashes() {
        return page.standing.clashCount(realm);
    }

    public int fire() {
        Standing now = page.standing;
        int must = 0;
        int may = 0;
        for (int whole = 0; whole < SPIKE_MOST; whole++) {
            foes[whole] = now.foesOf(realm, whole);
            must |= foes[whole] & 1 << whole;
            may |= foes[whole];
        }
        int fewest = may;
        for (int set = 0; set < may; set++) {
            boolean fit = (set & must) == must && (set & ~may) == 0;
            if (fit && Integer.bitCount(set) < Integer.bitCount(fewest) && isPeaceWithout(set)) {
                fewest = set;
            }
        }
        return fewest;
    }

    private boolean isPeaceWithout(int burnt) {
        for (int whole = 0; whole < SPIKE_MOST; whole++) {
            if ((burnt >> whole & 1) == 0 && (foes[whole] & ~burnt) != 0) {
                return false;
            }
        }
        return true;
    }

    public boolean read(int word) {
        if (!realm.isWritten(word) || page.readCount >= READ_MOST) {
            return false;
        }
        page.readBits |= 1 << word;
        page.readCount++;
        return true;
    }

    public int began() {
        int seats = 0;
        for (int seat = 0; seat < realm.writers && seat < WRITERS_MOST; seat++) {
            seatShares[seat] = sharedBy(seat, page.readBits);
            if (seatShares[seat] > 0) {
                seats |= 1 << seat;
            }
        }
        return seats;
    }

    public int sure() {
        int seats = began();
        int surest = NONE;
        int most = 0;
        for (int seat = 0; seat < realm.writers && seat < WRITERS_MOST; seat++) {
            if ((seats >> seat & 1) == 1 && seatShares[seat] > most) {
                most = seatShares[seat];
                surest = seat;
            }
        }
        return surest;
    }

    public int ask() {
        int seats = began();
        int asked = NONE;
        int most = 1;
        for (int fold = 0; fold < realm.folds; fold++) {
            if ((page.readBits & realm.bitsOfFold(fold)) == 0) {
                int unlike = Integer.bitCount(likeliestBy(seats, fold));
                if (unlike > most) {
                    most = unlike;
                    asked = fold;
                }
            }
        }
        return asked;
    }

    private int likeliestBy(int seats, int fold) {
        int words = 0;
        for (int seat = 0; seat < realm.writers; seat++) {
            if ((seats >> seat & 1) == 1) {
                odds.weighBehind(realm, page.standing, realm.writerAt(seat, fold), fold, Odds.BEGINNING, 0);
                int likeliest = odds.likeliestAtBeginning(realm, fold);
                if (likeliest != NONE) {
                    words |= 1 << likeliest;
                }
            }
        }
        return words;
    }

    public int spent() {
        trial.copyFrom(page.standing);
        for (int wholes = 0; wholes < WHOLES_MOST; wholes++) {
            odds.gatherRows(realm, trial);
            int row = odds.greatestRow();
            if (row == NONE) {
                return wholes;
            }
            for (int fold = trial.written; fold < realm.folds; fold++) {
                trial.put(realm, odds.wordOfRow(row, fold));
            }
        }
        return WHOLES_MOST;
    }

    public int rests(int alone, int both, int none, int what) throws NoSuchElementException {
        if (!isPrize(alone) || !isPrize(both) || !isPrize(none)) {
            throw new NoSuchElementException("a prize is 0 to 9");
        }
        int found = 0;
        for (int pair = 0; pair < 4; pair++) {
            int one = pair >> 1;
            int other = pair & 1;
            boolean rest = prize(1 - one, other, alone, both, none) <= prize(one, other, alone, both, none)
                && prize(1 - other, one, alone, both, none) <= prize(other, one, alone, both, none);
            if (rest && found == what) {
                return pair;
            }
            if (rest) {
                found++;
            }
        }
        if (what != NONE) {
            throw new NoSuchElementException("no such rest");
        }
        return found;
    }

    private static boolean isPrize(int prize) {
        return prize >= 0 && prize <= 9;
    }

    private static int prize(int mine, int his, int alone, int both, int none) {
        if (mine == 1) {
            return his == 1 ? both : alone;
        }
        return his == 1 ? 0 : none;
    }

    public int generations(int seed, int words, int what) {
        if (seed < 0 || seed > SEED_MOST || words < 1 || words > DRAWN_MOST || what < 0 || what > 2) {
            return NONE;
        }
        trial.copyFrom(page.standing);
        int came = 0;
        long g = seed;
        for (int i = 0; i < words; i++) {
            int all = odds.weighNext(realm, trial);
            if (all > 0) {
                g = (g * 1103515245L + 12345L) % 2147483648L;
                trial.put(realm, odds.drawnAtBeginning(realm, trial.written, (int) (g / 65536L % all)));
                came += trial.written == 0 ? 1 : 0;
            } else if (trial.wholes > 0) {
                trial.takeDown(realm, trial.wholes - 1);
            }
        }
        if (what == 2) {
            return trial.clashCount(realm);
        }
        return what == 0 ? came : trial.good - page.standing.good;
    }

    public boolean mark(int mark, boolean back) {
        if (mark < 0 || mark >= MARKS) {
            return false;
        }
        Page held = marks[mark];
        if (!back) {
            held.copyFrom(page);
            held.laid = true;
            return true;
        }
        if (!held.laid) {
            return false;
        }
        page.copyFrom(held);
        history.forget();
        return true;
    }

    public int count(int what) {
        Standing now = page.standing;
        switch (what) {
            case 0:
                return realm.writers;
            case 1:
                return realm.words;
            case 2:
                return realm.folds;
            case 3:
                return now.seat;
            case 4:
                return now.written;
            case 5:
                return realm.writerAt(now.seat, now.written);
            case 6:
                return now.wholes;
            case 7:
                return now.good;
            case 8:
                return now.leftTogether(realm);
            case 9:
                return realm.clashesTold;
            case 10:
                return page.lineCount;
            case 11:
                return page.readCount;
            case 12:
                return history.size;
            case 13:
                return tokens.length;
            default:
                return NONE;
        }
    }

    /** What a token can be; those with a text are the reserved words and the signs. */
    private enum Sort {
        END(""), NOTHING(""), NUMBER(""), NAME(""),
        WRITER("writer"), WORD("word"), FOLD("fold"), WEIGHT("weight"), GOOD("good"), LEFT("left"),
        LIKES("likes"), CLASH("clash"), FOLDS("folds"), WRITES("writes"), DOES("does"),
        WRITE("write"), BURN("burn"), PASS("pass"),
        PLAIN("plain"), WISE("wise"), WILD("wild"), SLY("sly"), NOT("not"), AND("and"), OR("or"),
        OPEN("("), CLOSE(")"), LESS("<"), SAME("="), PLUS("+"), MINUS("-"), TIMES("*"), STOP(";");

        private final String text;

        Sort(String text) {
            this.text = text;
        }
    }

    private static final Sort[] SORTS = Sort.values();

    /** The tape, and the token of it that is looked at. */
    private static final class Tokens {
        private static final int WORD_LONG = 8;
        private static final int NUMBER_LONG = 4;

        private final byte[] signs = new byte[TAPE_MOST];
        private int length;
        private int next;
        private int place;
        private Sort sort = Sort.END;
        private int number;
        private long name;
        private int fault;

        void append(long eight) {
            for (int shift = 56; shift >= 0; shift -= 8) {
                int sign = (int) (eight >>> shift) & 255;
                boolean known = sign == 10 || (sign >= 32 && sign <= 126);
                if (known && length < TAPE_MOST) {
                    signs[length] = (byte) sign;
                    length++;
                }
            }
        }

        void takeOff() {
            length = 0;
        }

        void begin() {
            next = 0;
            fault = 0;
            step();
        }

        /** Answers false, so that a reader can hand the failure on at once. */
        boolean fail(int kind) {
            fault = kind + 16 * place;
            return false;
        }

        boolean is(Sort wanted) {
            return sort == wanted;
        }

        boolean skip(Sort wanted) {
            if (sort != wanted) {
                return fail(1);
            }
            step();
            return true;
        }

        void step() {
            while (next < length && (signs[next] == 10 || signs[next] == 32)) {
                next++;
            }
            place = next;
            if (isLetter(next)) {
                takeLetters();
            } else if (isDigit(next)) {
                takeDigits();
            } else if (next < length) {
                next++;
            }
            sort = sortTaken();
        }

        private void takeLetters() {
            name = 0;
            while (next < length && isLetter(next)) {
                name = name * 32 + (signs[next] - 'a' + 1);
                next++;
            }
        }

        private void takeDigits() {
            number = 0;
            while (next < length && isDigit(next)) {
                number = number * 10 + (signs[next] - '0');
                next++;
            }
        }

        private Sort sortTaken() {
            int taken = next - place;
            if (taken == 0) {
                return Sort.END;
            }
            if (isDigit(place)) {
                return taken > NUMBER_LONG ? Sort.NOTHING : Sort.NUMBER;
            }
            for (int i = 0; i < SORTS.length; i++) {
                if (hasText(SORTS[i].text)) {
                    return SORTS[i];
                }
            }
            return isLetter(place) && taken <= WORD_LONG ? Sort.NAME : Sort.NOTHING;
        }

        boolean hasText(String text) {
            if (next - place != text.length()) {
                return false;
            }
            for (int i = 0; i < text.length(); i++) {
                if (place + i >= length || signs[place + i] != text.charAt(i)) {
                    return false;
                }
            }
            return true;
        }

        private boolean isLetter(int at) {
            return at >= 0 && at < length && signs[at] >= 'a' && signs[at] <= 'z';
        }

        private boolean isDigit(int at) {
            return at >= 0 && at < length && signs[at] >= '0' && signs[at] <= '9';
        }
    }

    /** An E, as steps on a stack: a number, a fact, or what is done with the topmost ones. */
    private static final class Formula {
        private static final int FACTS_MOST = 5;
        private static final int NOT = -11;
        private static final int AND = -12;
        private static final int OR = -13;
        private static final int LESS = -14;
        private static final int SAME = -15;
        private static final int PLUS = -16;
        private static final int MINUS = -17;
        private static final int TIMES = -18;
        // At each of the 5 depths at most 4 values wait: for and/or, a test, a sum, a product.
        private static final int STACK = 32;

        private final boolean ofWrites;
        private final int[] facts = new int[FACTS_MOST];
        private final int[] stack = new int[STACK];
        private final int[] steps;
        private int from;
        private int to;

        /** The steps are shared by a realm's formulas: one tape is never long enough to need more. */
        Formula(boolean ofWrites, int[] steps) {
            this.ofWrites = ofWrites;
            this.steps = steps;
        }

        void clear() {
            from = 0;
            to = 0;
        }

        void beginAt(int place) {
            from = place;
            to = place;
        }

        boolean isTold() {
            return to > from;
        }

        void add(int step) {
            if (to >= 0 && to < steps.length) {
                steps[to] = step;
                to++;
            }
        }

        void addFact(int fact) {
            add(-1 - fact);
        }

        void setFact(int fact, int value) {
            if (fact >= 0 && fact < FACTS_MOST) {
                facts[fact] = value;
            }
        }

        /** Its value by the facts that were set, held to 0 .. 99. */
        int held() {
            int top = 0;
            for (int at = from; at < to && at < steps.length; at++) {
                int step = steps[at];
                if (step > NOT) {
                    if (top < STACK) {
                        stack[top] = step >= 0 ? step : factAt(-1 - step);
                        top++;
                    }
                } else if (step == NOT) {
                    if (top >= 1) {
                        stack[top - 1] = stack[top - 1] == 0 ? 1 : 0;
                    }
                } else if (top >= 2) {
                    top--;
                    stack[top - 1] = joined(step, stack[top - 1], stack[top]);
                }
            }
            return Math.max(0, Math.min(99, stack[0]));
        }

        private int factAt(int fact) {
            return fact >= 0 && fact < FACTS_MOST ? facts[fact] : 0;
        }

        private static int joined(int step, int a, int b) {
            switch (step) {
                case AND:
                    return a != 0 && b != 0 ? 1 : 0;
                case OR:
                    return a != 0 || b != 0 ? 1 : 0;
                case LESS:
                    return a < b ? 1 : 0;
                case SAME:
                    return a == b ? 1 : 0;
                case PLUS:
                    return a + b;
                case MINUS:
                    return a - b;
                default:
                    return a * b;
            }
        }
    }

    /** What was told of a realm. */
    private static final class Realm {
        private static final int PLAIN = 0;
        private static final int WISE = 1;
        private static final int WILD = 2;
        private static final int SLY = 3;
        private static final int SMALL_MOST = 9;

        private int writers;
        private final int[] kind = new int[WRITERS_MOST];
        private final long[] writerName = new long[WRITERS_MOST];
        private int words;
        private final int[] fold = new int[WORDS_MOST];
        private final int[] weight = new int[WORDS_MOST];
        private final int[] good = new int[WORDS_MOST];
        private final int[] left = new int[WORDS_MOST];
        private final long[] wordName = new long[WORDS_MOST];
        private final int[] fond = new int[WRITERS_MOST * WORDS_MOST];
        private final int[] clashing = new int[WORDS_MOST];
        private int clashesTold;
        private int folds;
        private boolean foldsTold;
        private final Formula writes;
        private final Formula does;

        Realm() {
            int[] steps = new int[TAPE_MOST];
            writes = new Formula(true, steps);
            does = new Formula(false, steps);
            folds = 3;
        }

        void clear() {
            writers = 0;
            words = 0;
            for (int i = 0; i < fond.length; i++) {
                fond[i] = 0;
            }
            for (int i = 0; i < clashing.length; i++) {
                clashing[i] = 0;
            }
            clashesTold = 0;
            folds = 3;
            foldsTold = false;
            writes.clear();
            does.clear();
        }

        boolean hasWriter(int writer) {
            return writer >= 0 && writer < writers && writer < WRITERS_MOST;
        }

        boolean hasWord(int word) {
            return word >= 0 && word < words && word < WORDS_MOST;
        }

        /** The fold of a word, NONE if there is no such word. */
        int foldOf(int word) {
            return hasWord(word) ? fold[word] : NONE;
        }

        /** Whether it is a word that a whole can have: none of a fold beyond. */
        boolean isWritten(int word) {
            return hasWord(word) && fold[word] < folds;
        }

        int goodOfWord(int word) {
            return hasWord(word) ? good[word] : 0;
        }

        int kindOf(int writer) {
            return hasWriter(writer) ? kind[writer] : PLAIN;
        }

        int fondness(int writer, int word) {
            return hasWriter(writer) && hasWord(word) ? fond[writer * WORDS_MOST + word] : 0;
        }

        void setFondness(int writer, int word, int much) {
            if (hasWriter(writer) && hasWord(word)) {
                fond[writer * WORDS_MOST + word] = much;
            }
        }

        int findWriter(long name) {
            for (int i = 0; i < writers && i < WRITERS_MOST; i++) {
                if (writerName[i] == name) {
                    return i;
                }
            }
            return NONE;
        }

        int findWord(long name) {
            for (int i = 0; i < words && i < WORDS_MOST; i++) {
                if (wordName[i] == name) {
                    return i;
                }
            }
            return NONE;
        }

        boolean doClash(int word, int other) {
            return hasWord(word) && hasWord(other) && (clashing[word] >> other & 1) == 1;
        }

        void setClash(int word, int other) {
            if (hasWord(word) && hasWord(other)) {
                clashing[word] |= 1 << other;
                clashing[other] |= 1 << word;
                clashesTold++;
            }
        }

        int bitsOfFold(int which) {
            int bits = 0;
            for (int word = 0; word < words && word < WORDS_MOST; word++) {
                if (fold[word] == which) {
                    bits |= 1 << word;
                }
            }
            return bits;
        }

        /** The first of these words that stands in a fold; NONE: there is none. */
        int wordOfFold(int bits, int which) {
            for (int word = 0; word < words && word < WORDS_MOST; word++) {
                if (fold[word] == which && (bits >> word & 1) == 1) {
                    return word;
                }
            }
            return NONE;
        }

        /** Whether these bits are one word of each fold from the first one on, and nothing else. */
        boolean isRow(int bits, int first) {
            int rest = bits;
            for (int which = first; which < folds; which++) {
                int here = rest & bitsOfFold(which);
                if (Integer.bitCount(here) != 1) {
                    return false;
                }
                rest &= ~here;
            }
            return rest == 0;
        }

        int writerAt(int seat, int which) {
            return writers > 0 ? (seat + which) % writers : NONE;
        }

        int seatBehind(int seat) {
            return writers > 0 ? (seat + 1) % writers : 0;
        }

        int likely(int word, int writer, int remaining, int ahead) {
            if (!hasWord(word) || remaining <= 0) {
                return 0;
            }
            int writerKind = kindOf(writer);
            int much = fondness(writer, word);
            int value = weight[word] + much;
            if (writes.isTold()) {
                writes.setFact(0, weight[word]);
                writes.setFact(1, much);
                writes.setFact(2, good[word]);
                writes.setFact(3, remaining);
                writes.setFact(4, ahead);
                value = writes.held();
            } else if (writerKind == WILD) {
                value = 1;
            } else if (writerKind == WISE && good[word] > SMALL_MOST) {
                value = 0;
            }
            return writerKind == SLY ? Math.max(1, value) : value;
        }

        /** The good that a whole does whose words stand in the row from a place on. */
        int goodOf(int[] row, int from, int spiked) {
            int sum = 0;
            int most = 0;
            for (int i = 0; i < folds; i++) {
                int at = from + i;
                int much = at >= 0 && at < row.length ? goodOfWord(row[at]) : 0;
                sum += much;
                most = Math.max(most, much);
            }
            if (!does.isTold()) {
                return Math.max(0, Math.min(99, sum));
            }
            does.setFact(0, sum);
            does.setFact(1, most);
            does.setFact(2, spiked);
            return does.held();
        }
    }

    /** Reads the tape as a realm or as Sundays; of a failure the tokens hold the fault. */
    private static final class Reader {
        private final Tokens tokens;
        private final FormulaReader formulas;
        private final int[] lines = new int[LINES_MOST];
        private int lineCount;

        Reader(Tokens tokens) {
            this.tokens = tokens;
            this.formulas = new FormulaReader(tokens);
        }

        int readRealm(Realm into) {
            into.clear();
            tokens.begin();
            boolean fine = true;
            for (int i = 0; i < TAPE_MOST && fine && !tokens.is(Sort.END); i++) {
                switch (tokens.sort) {
                    case WRITER:
                        fine = readWriter(into);
                        break;
                    case WORD:
                        fine = readWord(into);
                        break;
                    case LIKES:
                        fine = readLikes(into);
                        break;
                    case CLASH:
                        fine = readClash(into);
                        break;
                    case FOLDS:
                        fine = readFolds(into);
                        break;
                    case WRITES:
                        fine = readFormula(into, into.writes);
                        break;
                    case DOES:
                        fine = readFormula(into, into.does);
                        break;
                    default:
                        fine = tokens.fail(1);
                        break;
                }
                fine = fine && tokens.skip(Sort.STOP);
            }
            return tokens.fault;
        }

        private boolean readWriter(Realm into) {
            int writer = into.writers;
            if (writer >= WRITERS_MOST) {
                return tokens.fail(5);
            }
            tokens.step();
            if (!isNewName(into)) {
                return false;
            }
            into.writerName[writer] = tokens.name;
            tokens.step();
            int kind = kindTold();
            if (kind == NONE) {
                return tokens.fail(1);
            }
            into.kind[writer] = kind;
            into.writers++;
            tokens.step();
            return true;
        }

        private int kindTold() {
            switch (tokens.sort) {
                case PLAIN:
                    return Realm.PLAIN;
                case WISE:
                    return Realm.WISE;
                case WILD:
                    return Realm.WILD;
                case SLY:
                    return Realm.SLY;
                default:
                    return NONE;
            }
        }

        private boolean readWord(Realm into) {
            int word = into.words;
            if (word >= WORDS_MOST) {
                return tokens.fail(5);
            }
            tokens.step();
            if (!isNewName(into)) {
                return false;
            }
            into.wordName[word] = tokens.name;
            tokens.step();
            boolean fine = readEntry(Sort.FOLD, FOLDS_MOST - 1, into.fold, word)
                && readEntry(Sort.WEIGHT, 9, into.weight, word)
                && readEntry(Sort.GOOD, 20, into.good, word)
                && readEntry(Sort.LEFT, LEFT_MOST, into.left, word);
            if (fine) {
                into.words++;
            }
            return fine;
        }

        private boolean readEntry(Sort title, int most, int[] row, int at) {
            if (!tokens.is(title)) {
                return tokens.fail(1);
            }
            tokens.step();
            if (!isNumber(0, most)) {
                return false;
            }
            if (at >= 0 && at < row.length) {
                row[at] = tokens.number;
            }
            tokens.step();
            return true;
        }

        private boolean readLikes(Realm into) {
            tokens.step();
            int writer = tokens.is(Sort.NAME) ? into.findWriter(tokens.name) : NONE;
            if (writer == NONE) {
                return failAtName();
            }
            tokens.step();
            int word = tokens.is(Sort.NAME) ? into.findWord(tokens.name) : NONE;
            if (word == NONE) {
                return failAtName();
            }
            if (into.fondness(writer, word) != 0) {
                return tokens.fail(3);
            }
            tokens.step();
            if (!isNumber(1, 9)) {
                return false;
            }
            into.setFondness(writer, word, tokens.number);
            tokens.step();
            return true;
        }

        private boolean readClash(Realm into) {
            tokens.step();
            int one = tokens.is(Sort.NAME) ? into.findWord(tokens.name) : NONE;
            if (one == NONE) {
                return failAtName();
            }
            tokens.step();
            int other = tokens.is(Sort.NAME) ? into.findWord(tokens.name) : NONE;
            if (other == NONE) {
                return failAtName();
            }
            if (one == other || into.doClash(one, other)) {
                return tokens.fail(3);
            }
            into.setClash(one, other);
            tokens.step();
            return true;
        }

        private boolean readFolds(Realm into) {
            if (into.foldsTold) {
                return tokens.fail(3);
            }
            tokens.step();
            if (!isNumber(2, FOLDS_MOST)) {
                return false;
            }
            into.folds = tokens.number;
            into.foldsTold = true;
            tokens.step();
            return true;
        }

        private boolean readFormula(Realm into, Formula formula) {
            if (formula.isTold()) {
                return tokens.fail(3);
            }
            tokens.step();
            formula.beginAt(Math.max(into.writes.to, into.does.to));
            return formulas.readE(formula, 0);
        }

        int readSundays(Realm realm) {
            lineCount = 0;
            tokens.begin();
            boolean fine = true;
            for (int i = 0; i < TAPE_MOST && fine && !tokens.is(Sort.END); i++) {
                fine = readSundayLine(realm) && tokens.skip(Sort.STOP);
            }
            return tokens.fault;
        }

        private boolean readSundayLine(Realm realm) {
            Sort first = tokens.sort;
            if (first != Sort.WRITE && first != Sort.BURN && first != Sort.PASS) {
                return tokens.fail(1);
            }
            if (lineCount >= LINES_MOST) {
                return tokens.fail(5);
            }
            tokens.step();
            int line = Standing.PASS_LINE;
            if (first == Sort.WRITE) {
                line = tokens.is(Sort.NAME) ? realm.findWord(tokens.name) : NONE;
                if (line == NONE) {
                    return failAtName();
                }
                tokens.step();
            } else if (first == Sort.BURN) {
                if (!isNumber(0, SPIKE_MOST - 1)) {
                    return false;
                }
                line = Standing.BURN_LINE + tokens.number;
                tokens.step();
            }
            lines[lineCount] = line;
            lineCount++;
            return true;
        }

        private boolean failAtName() {
            return tokens.fail(tokens.is(Sort.NAME) ? 2 : 1);
        }

        private boolean isNewName(Realm into) {
            if (!tokens.is(Sort.NAME)) {
                return tokens.fail(1);
            }
            boolean told = into.findWriter(tokens.name) != NONE || into.findWord(tokens.name) != NONE;
            return !told || tokens.fail(3);
        }

        private boolean isNumber(int least, int most) {
            if (!tokens.is(Sort.NUMBER)) {
                return tokens.fail(1);
            }
            boolean within = tokens.number >= least && tokens.number <= most;
            return within || tokens.fail(4);
        }
    }

    /** Reads an E; the depth is how many of not and ( ) lie round the token. */
    private static final class FormulaReader {
        private static final int DEPTH_TOO_MUCH = 5;

        private final Tokens tokens;

        FormulaReader(Tokens tokens) {
            this.tokens = tokens;
        }

        boolean readE(Formula into, int depth) {
            boolean fine = readTest(into, depth);
            for (int i = 0; i < TAPE_MOST && fine && (tokens.is(Sort.AND) || tokens.is(Sort.OR)); i++) {
                int step = tokens.is(Sort.AND) ? Formula.AND : Formula.OR;
                tokens.step();
                fine = readTest(into, depth);
                into.add(step);
            }
            return fine;
        }

        private boolean readTest(Formula into, int depth) {
            boolean fine = readSum(into, depth);
            if (fine && (tokens.is(Sort.LESS) || tokens.is(Sort.SAME))) {
                int step = tokens.is(Sort.LESS) ? Formula.LESS : Formula.SAME;
                tokens.step();
                fine = readSum(into, depth);
                into.add(step);
            }
            return fine;
        }

        private boolean readSum(Formula into, int depth) {
            boolean fine = readProduct(into, depth);
            for (int i = 0; i < TAPE_MOST && fine && (tokens.is(Sort.PLUS) || tokens.is(Sort.MINUS)); i++) {
                int step = tokens.is(Sort.PLUS) ? Formula.PLUS : Formula.MINUS;
                tokens.step();
                fine = readProduct(into, depth);
                into.add(step);
            }
            return fine;
        }

        private boolean readProduct(Formula into, int depth) {
            boolean fine = readPart(into, depth);
            for (int i = 0; i < TAPE_MOST && fine && tokens.is(Sort.TIMES); i++) {
                tokens.step();
                fine = readPart(into, depth);
                into.add(Formula.TIMES);
            }
            return fine;
        }

        private boolean readPart(Formula into, int depth) {
            int fact = factTold(into.ofWrites);
            Sort first = tokens.sort;
            if (first != Sort.NUMBER && first != Sort.NOT && first != Sort.OPEN && fact == NONE) {
                return tokens.fail(1);
            }
            if (depth >= DEPTH_TOO_MUCH) {
                return tokens.fail(5);
            }
            if (first == Sort.NUMBER) {
                into.add(tokens.number);
            } else if (fact != NONE) {
                into.addFact(fact);
            }
            tokens.step();
            if (first == Sort.NOT) {
                boolean fine = readPart(into, depth + 1);
                into.add(Formula.NOT);
                return fine;
            }
            return first != Sort.OPEN || readToClose(into, depth + 1);
        }

        private boolean readToClose(Formula into, int depth) {
            if (!readE(into, depth)) {
                return false;
            }
            if (!tokens.is(Sort.CLOSE)) {
                return tokens.fail(1);
            }
            tokens.step();
            return true;
        }

        private int factTold(boolean ofWrites) {
            if (!tokens.is(Sort.NAME)) {
                return NONE;
            }
            return ofWrites ? factOfWrites() : factOfDoes();
        }

        private int factOfWrites() {
            if (tokens.hasText("heavy")) {
                return 0;
            }
            if (tokens.hasText("fond")) {
                return 1;
            }
            if (tokens.hasText("small")) {
                return 2;
            }
            if (tokens.hasText("more")) {
                return 3;
            }
            return tokens.hasText("ahead") ? 4 : NONE;
        }

        private int factOfDoes() {
            if (tokens.hasText("sum")) {
                return 0;
            }
            if (tokens.hasText("most")) {
                return 1;
            }
            return tokens.hasText("spiked") ? 2 : NONE;
        }
    }

    /** How it is: what is left, the whole that is being written, the seat, the spike, the good done. */
    private static final class Standing {
        // A line of Sundays is a word, or one of these (to burn: with the number of the whole added).
        private static final int PASS_LINE = -1;
        private static final int BURN_LINE = 16;

        private final int[] left = new int[WORDS_MOST];
        private final int[] strip = new int[FOLDS_MOST];
        private final int[] spike = new int[SPIKE_MOST * FOLDS_MOST];
        private int written;
        private int seat;
        private int wholes;
        private int good;

        void begin(Realm realm) {
            System.arraycopy(realm.left, 0, left, 0, WORDS_MOST);
            written = 0;
            seat = 0;
            wholes = 0;
            good = 0;
        }

        void copyFrom(Standing other) {
            System.arraycopy(other.left, 0, left, 0, WORDS_MOST);
            System.arraycopy(other.strip, 0, strip, 0, FOLDS_MOST);
            System.arraycopy(other.spike, 0, spike, 0, SPIKE_MOST * FOLDS_MOST);
            written = other.written;
            seat = other.seat;
            wholes = other.wholes;
            good = other.good;
        }

        int stripAt(int fold) {
            return fold >= 0 && fold < written && fold < FOLDS_MOST ? strip[fold] : NONE;
        }

        boolean hasWhole(int whole) {
            return whole >= 0 && whole < wholes && whole < SPIKE_MOST;
        }

        int spikeAt(int whole, int fold) {
            return hasWhole(whole) && fold >= 0 && fold < FOLDS_MOST ? spike[whole * FOLDS_MOST + fold] : NONE;
        }

        int leftOf(int word) {
            return word >= 0 && word < WORDS_MOST ? left[word] : 0;
        }

        int leftTogether(Realm realm) {
            int all = 0;
            for (int word = 0; word < WORDS_MOST; word++) {
                all += realm.hasWord(word) ? left[word] : 0;
            }
            return all;
        }

        boolean canPut(Realm realm, int word) {
            return realm.hasWord(word) && realm.foldOf(word) == written && leftOf(word) > 0;
        }

        void put(Realm realm, int word) {
            if (!canPut(realm, word) || written < 0 || written >= FOLDS_MOST) {
                return;
            }
            left[word]--;
            strip[written] = word;
            written++;
            if (written >= realm.folds) {
                good += realm.goodOf(strip, 0, wholes);
                putOnSpike();
                written = 0;
                seat = realm.seatBehind(seat);
            }
        }

        private void putOnSpike() {
            if (wholes >= SPIKE_MOST) {
                closeGap(0);
            }
            if (wholes >= 0 && wholes < SPIKE_MOST) {
                System.arraycopy(strip, 0, spike, wholes * FOLDS_MOST, FOLDS_MOST);
                wholes++;
            }
        }

        private void closeGap(int whole) {
            if (hasWhole(whole) && wholes <= SPIKE_MOST) {
                int from = (whole + 1) * FOLDS_MOST;
                System.arraycopy(spike, from, spike, from - FOLDS_MOST, wholes * FOLDS_MOST - from);
                wholes--;
            }
        }

        boolean canMoveSeat(Realm realm) {
            return written == 0 && realm.writers > 0;
        }

        void moveSeat(Realm realm) {
            seat = realm.seatBehind(seat);
        }

        void takeDown(Realm realm, int whole) {
            for (int fold = 0; fold < realm.folds; fold++) {
                int word = spikeAt(whole, fold);
                if (realm.hasWord(word)) {
                    left[word] = Math.min(LEFT_MOST, left[word] + 1);
                }
            }
            closeGap(whole);
        }

        /** Does a line of Sundays; false: it can't be. */
        boolean follow(Realm realm, int line) {
            if (line == PASS_LINE) {
                boolean can = canMoveSeat(realm);
                if (can) {
                    moveSeat(realm);
                }
                return can;
            }
            if (line >= BURN_LINE) {
                boolean can = hasWhole(line - BURN_LINE);
                takeDown(realm, line - BURN_LINE);
                return can;
            }
            boolean can = canPut(realm, line);
            put(realm, line);
            return can;
        }

        /** Whether a whole has come by a line that was just done. */
        boolean cameBy(int line) {
            return line >= 0 && line < BURN_LINE && written == 0;
        }

        boolean lastClashes(Realm realm) {
            return foesOf(realm, wholes - 1) != 0;
        }

        /** Whether a word of the one clashes with a word of the other; both may be the same whole. */
        private boolean areClashing(Realm realm, int one, int other) {
            for (int fold = 0; fold < realm.folds; fold++) {
                for (int behind = 0; behind < realm.folds; behind++) {
                    if (realm.doClash(spikeAt(one, fold), spikeAt(other, behind))) {
                        return true;
                    }
                }
            }
            return false;
        }

        /** The wholes with which one clashes, itself too, as bits. */
        int foesOf(Realm realm, int whole) {
            int set = 0;
            for (int other = 0; other < wholes; other++) {
                if (areClashing(realm, whole, other)) {
                    set |= 1 << other;
                }
            }
            return set;
        }

        int clashCount(Realm realm) {
            int together = 0;
            for (int whole = 0; whole < wholes; whole++) {
                // Those behind it count it themselves.
                together += Integer.bitCount(foesOf(realm, whole) & (2 << whole) - 1);
            }
            return together;
        }
    }

    /** The last standings, for undo; the oldest one gives way. */
    private static final class History {
        private final Standing[] kept = new Standing[UNDO_MOST];
        private int first;
        private int size;

        History() {
            for (int i = 0; i < UNDO_MOST; i++) {
                kept[i] = new Standing();
            }
        }

        void forget() {
            first = 0;
            size = 0;
        }

        void keep(Standing standing) {
            kept[Math.floorMod(first + size, UNDO_MOST)].copyFrom(standing);
            if (size < UNDO_MOST) {
                size++;
            } else {
                first = (first + 1) % UNDO_MOST;
            }
        }

        boolean giveBack(Standing into) {
            if (size <= 0) {
                return false;
            }
            size--;
            into.copyFrom(kept[Math.floorMod(first + size, UNDO_MOST)]);
            return true;
        }
    }

    /** What a mark holds: how it is, the Sundays, what is read. */
    private static final class Page {
        private final Standing standing = new Standing();
        private final int[] lines = new int[LINES_MOST];
        private int lineCount;
        private int readBits;
        private int readCount;
        private boolean laid;

        void begin(Realm realm) {
            standing.begin(realm);
            lineCount = 0;
            readBits = 0;
            readCount = 0;
        }

        void copyFrom(Page other) {
            standing.copyFrom(other.standing);
            takeLines(other.lines, other.lineCount);
            readBits = other.readBits;
            readCount = other.readCount;
        }

        void takeLines(int[] from, int howMany) {
            lineCount = Math.max(0, Math.min(howMany, Math.min(from.length, LINES_MOST)));
            System.arraycopy(from, 0, lines, 0, lineCount);
        }

        int lineAt(int line) {
            return line >= 0 && line < LINES_MOST ? lines[line] : NONE;
        }
    }

    /** How likely words are behind one another, and the rows that can come. */
    private static final class Odds {
        // In place of the word ahead: whatever stands ahead of the first fold that is weighed.
        private static final int BEGINNING = -1;
        // 12 words in 4 folds are at most 3 * 3 * 3 * 3 rows.
        private static final int ROWS_MOST = 81;

        private final int[] likely = new int[(WORDS_MOST + 1) * WORDS_MOST];
        private final int[] total = new int[WORDS_MOST + 1];
        private final int[] path = new int[FOLDS_MOST];
        private final int[] rowWords = new int[ROWS_MOST * FOLDS_MOST];
        private final long[] rowTop = new long[ROWS_MOST];
        private final long[] rowBottom = new long[ROWS_MOST];
        private int rows;

        int likelyBehind(int ahead, int word) {
            boolean known = ahead >= BEGINNING && ahead < WORDS_MOST && word >= 0 && word < WORDS_MOST;
            return known ? likely[(ahead + 1) * WORDS_MOST + word] : 0;
        }

        int totalBehind(int ahead) {
            return ahead >= BEGINNING && ahead < WORDS_MOST ? total[ahead + 1] : 0;
        }

        /** Weighs the words of a fold behind the word ahead, or at the beginning behind that much good. */
        void weighBehind(Realm realm, Standing standing, int writer, int fold, int ahead, int goodAhead) {
            if (ahead < BEGINNING || ahead >= WORDS_MOST) {
                return;
            }
            int all = 0;
            for (int word = 0; word < WORDS_MOST; word++) {
                if (realm.foldOf(word) == fold) {
                    int much = realm.likely(word, writer, standing.leftOf(word), goodAhead);
                    likely[(ahead + 1) * WORDS_MOST + word] = much;
                    all += much;
                }
            }
            total[ahead + 1] = all;
        }

        /** Weighs the next fold alone: all likely together. */
        int weighNext(Realm realm, Standing standing) {
            int fold = standing.written;
            int goodAhead = realm.goodOfWord(standing.stripAt(fold - 1));
            weighBehind(realm, standing, realm.writerAt(standing.seat, fold), fold, BEGINNING, goodAhead);
            return totalBehind(BEGINNING);
        }

        /** Weighs all folds from the first one on: 0, or the next one of the whole that is being written. */
        void weighAll(Realm realm, Standing standing, int seat, int first) {
            int goodAhead = first > 0 ? realm.goodOfWord(standing.stripAt(first - 1)) : 0;
            weighBehind(realm, standing, realm.writerAt(seat, first), first, BEGINNING, goodAhead);
            for (int fold = first + 1; fold < realm.folds; fold++) {
                int writer = realm.writerAt(seat, fold);
                for (int ahead = 0; ahead < WORDS_MOST; ahead++) {
                    if (realm.foldOf(ahead) == fold - 1) {
                        weighBehind(realm, standing, writer, fold, ahead, realm.goodOfWord(ahead));
                    }
                }
            }
        }

        /** The first one of the likeliest words of the fold that stands at the beginning. */
        int likeliestAtBeginning(Realm realm, int fold) {
            int likeliest = NONE;
            for (int word = 0; word < WORDS_MOST; word++) {
                int much = realm.foldOf(word) == fold ? likelyBehind(BEGINNING, word) : 0;
                if (much > likelyBehind(BEGINNING, likeliest)) {
                    likeliest = word;
                }
            }
            return likeliest;
        }

        /** The first word of the fold with which the likely ones together are more than was drawn. */
        int drawnAtBeginning(Realm realm, int fold, int drawn) {
            int together = 0;
            for (int word = 0; word < WORDS_MOST; word++) {
                together += realm.foldOf(word) == fold ? likelyBehind(BEGINNING, word) : 0;
                if (together > drawn) {
                    return word;
                }
            }
            return NONE;
        }

        /** The chance of a row that was weighed from its first fold on. */
        int chanceOf(Realm realm, int words, int first) {
            long top = 1;
            long bottom = 1;
            int ahead = BEGINNING;
            for (int fold = first; fold < realm.folds; fold++) {
                int word = realm.wordOfFold(words, fold);
                top *= likelyBehind(ahead, word);
                bottom *= totalBehind(ahead);
                ahead = word;
            }
            return inMillionths(top, bottom);
        }

        private static int inMillionths(long top, long bottom) {
            return bottom > 0 ? (int) (top * MILLION / bottom) : 0;
        }

        /** Gathers all rows with a chance, as whole wholes, fold by fold by numbers. */
        void gatherRows(Realm realm, Standing standing) {
            int first = standing.written;
            weighAll(realm, standing, standing.seat, first);
            rows = 0;
            for (int fold = 0; fold < first && fold < FOLDS_MOST; fold++) {
                path[fold] = standing.stripAt(fold);
            }
            extend(realm, first, BEGINNING, 1, 1);
        }

        private void extend(Realm realm, int fold, int ahead, long top, long bottom) {
            if (fold < 0 || fold >= realm.folds || fold >= FOLDS_MOST) {
                keepRow(top, bottom);
                return;
            }
            for (int word = 0; word < WORDS_MOST; word++) {
                int much = realm.foldOf(word) == fold ? likelyBehind(ahead, word) : 0;
                if (much > 0) {
                    path[fold] = word;
                    extend(realm, fold + 1, word, top * much, bottom * totalBehind(ahead));
                }
            }
        }

        private void keepRow(long top, long bottom) {
            if (rows >= 0 && rows < ROWS_MOST) {
                System.arraycopy(path, 0, rowWords, rows * FOLDS_MOST, FOLDS_MOST);
                rowTop[rows] = top;
                rowBottom[rows] = bottom;
                rows++;
            }
        }

        /** The first one of the rows of the greatest chance; NONE: there is no row. */
        int greatestRow() {
            int greatest = NONE;
            for (int row = 0; row < rows && row < ROWS_MOST; row++) {
                if (greatest < 0 || rowTop[row] * rowBottom[greatest] > rowTop[greatest] * rowBottom[row]) {
                    greatest = row;
                }
            }
            return greatest;
        }

        private boolean hasRow(int row) {
            return row >= 0 && row < rows && row < ROWS_MOST;
        }

        int millionths(int row) {
            return hasRow(row) ? inMillionths(rowTop[row], rowBottom[row]) : 0;
        }

        int wordOfRow(int row, int fold) {
            boolean known = hasRow(row) && fold >= 0 && fold < FOLDS_MOST;
            return known ? rowWords[row * FOLDS_MOST + fold] : NONE;
        }
    }

    /** A million shared out to words, fold by fold; what is cut is lost. */
    private static final class Shares {
        private final int[] has = new int[WORDS_MOST];

        int of(int word) {
            return word >= 0 && word < WORDS_MOST ? has[word] : 0;
        }

        int atLast(Realm realm) {
            int all = 0;
            for (int word = 0; word < WORDS_MOST; word++) {
                all += realm.foldOf(word) == realm.folds - 1 ? of(word) : 0;
            }
            return all;
        }

        /** Shares out from the first fold on, to rows alone in which all these words stand. */
        void pour(Realm realm, Odds odds, int words) {
            empty();
            share(realm, odds, 0, Odds.BEGINNING, MILLION);
            keepAlone(realm, 0, words);
            for (int fold = 1; fold < realm.folds; fold++) {
                flow(realm, odds, fold);
                keepAlone(realm, fold, words);
            }
        }

        /** Shares out what is behind a word, as if it were written. */
        void pourBehind(Realm realm, Odds odds, int word) {
            empty();
            if (word >= 0 && word < WORDS_MOST) {
                has[word] = MILLION;
            }
            for (int fold = realm.foldOf(word) + 1; fold < realm.folds; fold++) {
                flow(realm, odds, fold);
            }
        }

        private void empty() {
            for (int word = 0; word < WORDS_MOST; word++) {
                has[word] = 0;
            }
        }

        private void flow(Realm realm, Odds odds, int fold) {
            for (int ahead = 0; ahead < WORDS_MOST; ahead++) {
                if (realm.foldOf(ahead) == fold - 1 && of(ahead) > 0) {
                    share(realm, odds, fold, ahead, of(ahead));
                }
            }
        }

        private void share(Realm realm, Odds odds, int fold, int ahead, int much) {
            int total = odds.totalBehind(ahead);
            if (total <= 0) {
                return;
            }
            for (int word = 0; word < WORDS_MOST; word++) {
                if (realm.foldOf(word) == fold) {
                    has[word] += much * odds.likelyBehind(ahead, word) / total;
                }
            }
        }

        /** Two words of one fold never stand together: then nothing is kept. */
        private void keepAlone(Realm realm, int fold, int words) {
            int here = words & realm.bitsOfFold(fold);
            for (int word = 0; word < WORDS_MOST; word++) {
                if (realm.foldOf(word) == fold && here != 0 && here != 1 << word) {
                    has[word] = 0;
                }
            }
        }
    }
}
