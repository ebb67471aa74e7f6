import java.util.NoSuchElementException;

/** A republic of writers whose letters answer letters; the numbered promises say what each call does. */
public final class CitingLetters {
    public static final int NONE = -1;

    private static final int WRITERS = 6;
    private static final int EVERYBODY = 63;
    private static final int LETTERS = 30;
    private static final int COPIES = 150;
    private static final int LAST_DAY = 999;
    private static final int FIRST_WAY = 5;
    private static final int LONGEST_WAY = 30;
    private static final int MOST_LATE = 99;
    private static final int MOST_DAYS = 99;
    private static final int TAPE = 400;
    private static final int FED = 20;
    private static final int TAKES_BACK = 2;
    private static final int UNDER_WAY = 0;
    private static final int COME = 1;
    private static final int LOST = 2;
    private static final int MOST_HABITS = 8;
    private static final int MOST_KNOTS = 64;
    private static final int MOST_OPEN = 8;
    private static final int MOST_NUMBER = 999;
    private static final int MOST_ORDERED = 12;
    private static final int MOST_TOLD = 12;
    private static final int FACTS = 7;

    private final int[] tape = new int[TAPE];
    private int tapeLength;
    private Habits habits = new Habits();
    private Habits draft = new Habits();
    private final TextReader textReader = new TextReader(tape, draft);
    private final int[] facts = new int[FACTS];
    private int today;
    private final Ledger ledger = new Ledger();
    private final Post post = new Post();
    private final Desks desks = new Desks();
    private final Doubts doubts = new Doubts(ledger, post);
    private final Chains rows = new Chains(ledger);
    private final Orders ordering = new Orders(ledger);

    public CitingLetters() {
    }

    // ---- the text ----

    public int feed(int a, int b, int c, int d, int e) {
        if (tapeLength > TAPE - FED) {
            return NONE;
        }
        putBytes(a);
        putBytes(b);
        putBytes(c);
        putBytes(d);
        putBytes(e);
        return tapeLength;
    }

    public int text(int n) {
        if (n < 0 || n > tapeLength) {
            return -2;
        }
        tapeLength = 0;
        if (!textReader.takes(n, draft)) {
            return NONE;
        }
        Habits old = habits;
        habits = draft;
        draft = old;
        return habits.lines;
    }

    public int fault(int what) {
        if (what == 0) {
            return textReader.fault;
        }
        return what == 1 ? textReader.faultPlace : NONE;
    }

    // ---- the post and the days ----

    public boolean way(int a, int b, int days) {
        if (!isWriter(a) || !isWriter(b) || a == b || days < 1 || days > LONGEST_WAY) {
            return false;
        }
        post.setWay(a, b, days);
        return true;
    }

    public int write(int writer, int to, int kind, int one, int other) {
        if (!isWriter(writer) || kind < 0 || kind > TAKES_BACK) {
            return NONE;
        }
        if (to < 1 || to > EVERYBODY || isIn(to, writer)) {
            return NONE;
        }
        if (!mayAnswer(writer, kind, one, other)) {
            return NONE;
        }
        return enter(writer, to, kind, one, other);
    }

    public int late(int copy, int days) {
        if (!post.isUnderWay(copy) || days < 1 || days > MOST_LATE) {
            return NONE;
        }
        return post.delay(copy, days);
    }

    public boolean lose(int copy) {
        if (!post.isUnderWay(copy)) {
            return false;
        }
        post.state[copy] = LOST;
        return true;
    }

    public int again(int letter, int from, int to) {
        if (!ledger.isLetter(letter) || !isWriter(from) || !isWriter(to) || from == to) {
            return NONE;
        }
        if (!isIn(knownTo(from), letter)) {
            return NONE;
        }
        return post.send(letter, from, to, today);
    }

    public boolean split(int half, int from, int to) {
        if (half < 0 || half > EVERYBODY || from < 0 || from > to || to >= LAST_DAY) {
            return false;
        }
        post.setSplit(half, from, to);
        return true;
    }

    public int days(int n) {
        if (n < 0 || n > MOST_DAYS || today + n > LAST_DAY) {
            return NONE;
        }
        for (int k = 0; k < n; k++) {
            today++;
            bringCopies();
            for (int w = 0; w < WRITERS; w++) {
                clearDesk(w);
            }
        }
        return today;
    }

    public int read(int writer, int letter) {
        if (!desks.holds(writer, letter)) {
            return NONE;
        }
        takeUp(writer, letter);
        return desks.count[writer];
    }

    // ---- what there is ----

    public int look(int letter, int what) throws IndexOutOfBoundsException, NoSuchElementException {
        if (!ledger.isLetter(letter)) {
            throw new IndexOutOfBoundsException("no such letter");
        }
        switch (what) {
            case 0: return ledger.writer[letter];
            case 1: return ledger.day[letter];
            case 2: return ledger.kind[letter];
            case 3: return ledger.goesTo[letter];
            case 4: return ledger.one[letter];
            case 5: return ledger.other[letter];
            default: throw new NoSuchElementException("no such thing of a letter");
        }
    }

    public int copy(int copy, int what) {
        if (!post.isCopy(copy)) {
            return NONE;
        }
        switch (what) {
            case 0: return post.letter[copy];
            case 1: return post.reader[copy];
            case 2: return post.day[copy];
            case 3: return post.state[copy];
            default: return NONE;
        }
    }

    public int desk(int writer, int k) {
        if (!isWriter(writer) || k < 0 || k >= desks.count[writer]) {
            return NONE;
        }
        return desks.letterAt(writer, k);
    }

    // ---- what was before what ----

    public int before(int a, int b) {
        if (!ledger.areTwo(a, b)) {
            return NONE;
        }
        if (isIn(ledger.past[b], a)) {
            return 1;
        }
        return isIn(ledger.past[a], b) ? 2 : 0;
    }

    public int path(int a, int b, int k) {
        if (!ledger.areTwo(a, b) || !isIn(ledger.past[b], a) || k < 0) {
            return NONE;
        }
        return ledger.onShortestWay(a, b, k);
    }

    public int sum(int letter) {
        return ledger.isLetter(letter) ? ledger.sum[letter] : NONE;
    }

    public int number(int letter, int writer) {
        if (!ledger.isLetter(letter) || !isWriter(writer)) {
            return NONE;
        }
        return ledger.numberFor(letter, writer);
    }

    public int pair(int letter, int u, int v) {
        if (!ledger.isLetter(letter) || !isWriter(u) || !isWriter(v)) {
            return NONE;
        }
        return ledger.numberOfNumber(letter, u, v);
    }

    public int list(int letter) {
        return ledger.isLetter(letter) ? ledger.ends[letter] : NONE;
    }

    public int tells(int a, int b, int bearing) {
        if (!ledger.areTwo(a, b) || !isBearing(bearing)) {
            return NONE;
        }
        return truth(ledger.isTold(a, b, bearing));
    }

    public int errs(int bearing) {
        return isBearing(bearing) ? ledger.toldWrongly(bearing) : NONE;
    }

    public int chains(int set) {
        return ledger.isSet(set) ? rows.fewest(set) : NONE;
    }

    // ---- what waits, who has it ----

    public int waits(int writer, int letter) {
        return desks.holds(writer, letter) ? missing(writer, letter) : NONE;
    }

    public int ever(int writer) {
        if (!isWriter(writer)) {
            return NONE;
        }
        int atHand = desks.held[writer] | post.onTheWayTo(writer);
        int forEver = 0;
        // What a letter waits for bears a lesser number, so each is judged behind those it waits for.
        for (int letter = 0; letter < ledger.size; letter++) {
            if (desks.holds(writer, letter)) {
                int waited = missing(writer, letter);
                if ((waited & ~atHand) != 0 || (waited & forEver) != 0) {
                    forEver |= bit(letter);
                }
            }
        }
        return forEver;
    }

    public int has(int letter) {
        return ledger.isLetter(letter) ? whoKnewBy(letter, LAST_DAY) : NONE;
    }

    public int readOn(int writer, int letter) {
        if (!isWriter(writer) || !ledger.isLetter(letter)) {
            return NONE;
        }
        return dayKnown(writer, letter);
    }

    public int spread(int letter, int day) {
        if (!ledger.isLetter(letter) || day < 0 || day > LAST_DAY) {
            return NONE;
        }
        return whoKnewBy(letter, day);
    }

    public int all(int letter) {
        if (!ledger.isLetter(letter)) {
            return NONE;
        }
        int latest = 0;
        for (int v = 0; v < WRITERS; v++) {
            if (isIn(ledger.goesTo[letter], v)) {
                int day = dayKnown(v, letter);
                if (day == NONE) {
                    return NONE;
                }
                latest = Math.max(latest, day);
            }
        }
        return latest;
    }

    // ---- what could have been ----

    public int burn(int letter) {
        if (!ledger.isLeft(letter)) {
            return NONE;
        }
        ledger.left &= ~bit(letter);
        return Integer.bitCount(ledger.left);
    }

    public int could(int a, int b) {
        if (a == b || !ledger.isLeft(a) || !ledger.isLeft(b)) {
            return NONE;
        }
        if (ledger.citesThroughLeft(b, a)) {
            return 2;
        }
        return truth(doubts.mayHaveKnown(a, b));
    }

    public int forged(int writer, int day, int list) {
        if (!isWriter(writer) || day < 0 || day > today || list < 0) {
            return NONE;
        }
        return doubts.verdict(writer, day, list);
    }

    public int forgers(int day, int list) {
        if (day < 0 || day > today || list < 0) {
            return NONE;
        }
        int who = 0;
        for (int w = 0; w < WRITERS; w++) {
            if (doubts.verdict(w, day, list) == Doubts.FITS) {
                who |= bit(w);
            }
        }
        return who;
    }

    // ---- orders ----

    public int ahead(int a, int b) {
        if (!ledger.areTwo(a, b) || ordering.told >= MOST_TOLD || ordering.goesAgainst(a, b)) {
            return NONE;
        }
        ordering.tell(a, b);
        return ordering.told;
    }

    public int orders(int set) {
        return ordering.takesSet(set) ? ordering.howMany() : NONE;
    }

    public int order(int set, int k, int place) {
        if (!ordering.takesSet(set) || k < 0 || place < 0 || place >= ordering.size) {
            return NONE;
        }
        return ordering.letterAt(k, place);
    }

    public int first(int set, int a, int b) {
        if (!ordering.takesSet(set) || a == b || !isIn(set, a) || !isIn(set, b)) {
            return NONE;
        }
        ordering.demand(a, b);
        return ordering.howMany();
    }

    public int ask(int set) {
        return ordering.takesSet(set) ? ordering.bestQuestion() : NONE;
    }

    // ---- what hangs, counts ----

    public int hangs(int letter, int what) {
        if (!ledger.isTakenBack(letter) || what < 0 || what > 1) {
            return NONE;
        }
        return ledger.hanging(letter, what == 0);
    }

    public int count(int what) {
        switch (what) {
            case 0: return today;
            case 1: return ledger.size;
            case 2: return post.size;
            case 3: return post.howManyUnderWay();
            case 4: return desks.allHeld();
            case 5: return desks.allRead();
            case 6: return Integer.bitCount(ledger.left);
            case 7: return habits.count;
            case 8: return habits.knots;
            case 9: return ordering.told;
            default: return NONE;
        }
    }

    // ---- shared by the calls ----

    private static boolean isWriter(int w) {
        return w >= 0 && w < WRITERS;
    }

    private static boolean isBearing(int bearing) {
        return bearing >= 0 && bearing <= 3;
    }

    private static int bit(int i) {
        return 1 << i;
    }

    private static boolean isIn(int bits, int i) {
        return i >= 0 && i < LETTERS && (bits >> i & 1) == 1;
    }

    private static int truth(boolean holds) {
        return holds ? 1 : 0;
    }

    private void putBytes(int four) {
        for (int shift = 24; shift >= 0 && tapeLength < TAPE; shift -= 8) {
            tape[tapeLength] = four >> shift & 255;
            tapeLength++;
        }
    }

    private int knownTo(int writer) {
        return isWriter(writer) ? ledger.by[writer] | desks.read[writer] : 0;
    }

    private boolean mayAnswer(int writer, int kind, int one, int other) {
        if (kind == TAKES_BACK) {
            return other == NONE && isIn(ledger.by[writer], one);
        }
        if (one == NONE) {
            return other == NONE;
        }
        int known = knownTo(writer);
        return isIn(known, one) && (other == NONE || other != one && isIn(known, other));
    }

    /** Writes a letter and posts its copies, if there is room for it and for all of them. */
    private int enter(int writer, int to, int kind, int one, int other) {
        if (ledger.size >= LETTERS || post.size + Integer.bitCount(to) > COPIES) {
            return NONE;
        }
        int letter = ledger.add(writer, today, kind, to, one, other, knownTo(writer));
        for (int v = 0; v < WRITERS; v++) {
            if (isIn(to, v)) {
                post.send(letter, writer, v, today);
            }
        }
        return letter;
    }

    private void bringCopies() {
        for (int c = 0; c < post.size; c++) {
            if (post.state[c] == UNDER_WAY && post.day[c] == today) {
                post.state[c] = COME;
                bring(post.letter[c], post.reader[c]);
            }
        }
    }

    private void bring(int letter, int reader) {
        if (isWriter(reader) && !isIn(knownTo(reader), letter) && !desks.holds(reader, letter)) {
            desks.put(reader, letter);
        }
    }

    private void clearDesk(int w) {
        // A reading may free one that stands ahead of it, so each look begins at the front again.
        for (int turn = 0; turn < LETTERS; turn++) {
            int letter = firstThatRuleLets(w);
            if (letter == NONE) {
                return;
            }
            takeUp(w, letter);
        }
    }

    private int firstThatRuleLets(int w) {
        if (habits.ruleOf(w) == Token.HAND) {
            return NONE;
        }
        for (int k = 0; k < desks.count[w]; k++) {
            int letter = desks.letterAt(w, k);
            if (missing(w, letter) == 0) {
                return letter;
            }
        }
        return NONE;
    }

    /** The letters whose not being read keeps a reader's rule from letting this one be read. */
    private int missing(int reader, int letter) {
        if (!isWriter(reader) || !ledger.isLetter(letter)) {
            return 0;
        }
        int unread = ledger.sentTo[reader] & ~desks.read[reader];
        Token rule = habits.ruleOf(reader);
        if (rule == Token.FIRST) {
            return unread & ledger.by[ledger.writer[letter]] & bit(letter) - 1;
        }
        if (rule == Token.ANSWERS) {
            return unread & ledger.answered(letter);
        }
        return rule == Token.SEEN ? unread & ledger.past[letter] : 0;
    }

    private void takeUp(int reader, int letter) {
        desks.take(reader, letter, today);
        for (int line = 0; line < habits.count; line++) {
            if (isIn(habits.who[line], reader)) {
                gatherFacts(reader, letter);
                if (habits.holds(line, facts)) {
                    int to = habits.round[line] ? EVERYBODY & ~bit(reader) : bit(ledger.writer[letter]);
                    enter(reader, to, 0, letter, NONE);
                }
            }
        }
    }

    /** What the names of a text stand for, in the order of their places in Token. */
    private void gatherFacts(int reader, int letter) {
        facts[0] = ledger.writer[letter];
        facts[1] = ledger.kind[letter];
        facts[2] = today - ledger.day[letter];
        facts[3] = Integer.bitCount(knownTo(reader));
        facts[4] = ledger.sum[letter];
        facts[5] = Integer.bitCount(ledger.answered(letter));
        facts[6] = Integer.bitCount(ledger.by[reader]);
    }

    private int dayKnown(int writer, int letter) {
        if (ledger.writer[letter] == writer) {
            return ledger.day[letter];
        }
        return isIn(desks.read[writer], letter) ? desks.readDay[writer][letter] : NONE;
    }

    private int whoKnewBy(int letter, int day) {
        int who = 0;
        for (int w = 0; w < WRITERS; w++) {
            int since = dayKnown(w, letter);
            if (since != NONE && since <= day) {
                who |= bit(w);
            }
        }
        return who;
    }

    /** The words and signs of a text. */
    private enum Token {
        END("", Token.PLAIN, 0), BAD("", Token.PLAIN, 0), NUMBER("", Token.PLAIN, 0),
        SEMICOLON(";", Token.PLAIN, 0), OPEN("(", Token.PLAIN, 0), CLOSE(")", Token.PLAIN, 0),
        READ("read", Token.PLAIN, 0), ANSWER("answer", Token.PLAIN, 0),
        ROUND("round", Token.PLAIN, 0), BY("by", Token.PLAIN, 0),
        HAND("hand", Token.RULE, 0), COMES("comes", Token.RULE, 0), FIRST("first", Token.RULE, 0),
        ANSWERS("answers", Token.RULE, 0), SEEN("seen", Token.RULE, 0),
        FROM("from", Token.NAME, 0), KIND("kind", Token.NAME, 1), AGE("age", Token.NAME, 2),
        KNOWN("known", Token.NAME, 3), SUM("sum", Token.NAME, 4), MANY("many", Token.NAME, 5),
        MINE("mine", Token.NAME, 6),
        OR("or", Token.JOINT, 1), AND("and", Token.JOINT, 2), NOT("not", Token.PLAIN, 3),
        LESS("<", Token.JOINT, Token.COMPARING), AT_MOST("<=", Token.JOINT, Token.COMPARING),
        EQUAL("=", Token.JOINT, Token.COMPARING), UNLIKE("<>", Token.JOINT, Token.COMPARING),
        AT_LEAST(">=", Token.JOINT, Token.COMPARING), MORE(">", Token.JOINT, Token.COMPARING),
        PLUS("+", Token.JOINT, 5), MINUS("-", Token.JOINT, 5);

        private static final int PLAIN = 0;
        private static final int RULE = 1;
        private static final int NAME = 2;
        private static final int JOINT = 3;
        private static final int COMPARING = 4;
        private static final Token[] EACH = values();

        private final String spelling;
        private final int part;
        /** Of a name its place among the facts; of what joins or turns, how tightly it binds. */
        private final int rank;

        Token(String spelling, int part, int rank) {
            this.spelling = spelling;
            this.part = part;
            this.rank = rank;
        }
    }

    /** A text that stands: the rules of reading and the lines of answer and round. */
    private static final class Habits {
        private final Token[] rule = new Token[WRITERS];
        /** The writers whose rule was told. */
        private int ruled;
        private int lines;
        private final boolean[] round = new boolean[MOST_HABITS];
        private final int[] who = new int[MOST_HABITS];
        private final int[] begin = new int[MOST_HABITS];
        private final int[] end = new int[MOST_HABITS];
        private int count;
        /** The knots of all lines, each behind what it joins. */
        private final Token[] code = new Token[MOST_KNOTS];
        private final int[] worth = new int[MOST_KNOTS];
        private int codeLength;
        private int knots;
        private final int[] values = new int[MOST_KNOTS];

        void clear() {
            ruled = 0;
            lines = 0;
            count = 0;
            codeLength = 0;
            knots = 0;
        }

        Token ruleOf(int writer) {
            return isIn(ruled, writer) ? rule[writer] : Token.COMES;
        }

        void addRule(Token told, int writers) {
            for (int w = 0; w < WRITERS; w++) {
                if (isIn(writers, w)) {
                    rule[w] = told;
                }
            }
            ruled |= writers;
            lines++;
        }

        void addHabit(boolean toAll, int writers, int codeBegin) {
            if (count >= MOST_HABITS) {
                return;
            }
            round[count] = toAll;
            who[count] = writers;
            begin[count] = codeBegin;
            end[count] = codeLength;
            count++;
            lines++;
        }

        void addKnot(Token token, int number) {
            if (codeLength >= MOST_KNOTS) {
                return;
            }
            code[codeLength] = token;
            worth[codeLength] = number;
            codeLength++;
        }

        boolean holds(int line, int[] facts) {
            if (line < 0 || line >= count) {
                return false;
            }
            int top = 0;
            for (int k = begin[line]; k < end[line]; k++) {
                top = workOut(k, top, facts);
            }
            return top == 1 && values[0] != 0;
        }

        /** Works out one knot on the first `top` values: how many there are then. */
        private int workOut(int k, int top, int[] facts) {
            Token token = code[k];
            if (token == null) {
                return top;
            }
            if (token == Token.NUMBER || token.part == Token.NAME) {
                if (top >= MOST_KNOTS || token.rank >= facts.length) {
                    return top;
                }
                values[top] = token == Token.NUMBER ? worth[k] : facts[token.rank];
                return top + 1;
            }
            if (token == Token.NOT) {
                if (top >= 1) {
                    values[top - 1] = truth(values[top - 1] == 0);
                }
                return top;
            }
            if (top < 2) {
                return top;
            }
            values[top - 2] = joined(token, values[top - 2], values[top - 1]);
            return top - 1;
        }

        private static int joined(Token token, int a, int b) {
            switch (token) {
                case OR: return truth(a != 0 || b != 0);
                case AND: return truth(a != 0 && b != 0);
                case LESS: return truth(a < b);
                case AT_MOST: return truth(a <= b);
                case EQUAL: return truth(a == b);
                case UNLIKE: return truth(a != b);
                case AT_LEAST: return truth(a >= b);
                case MORE: return truth(a > b);
                case PLUS: return a + b;
                default: return a - b;
            }
        }
    }

    /** The tokens of a text, cut from the tape. */
    private static final class Scanner {
        private final int[] bytes;
        private int length;
        private final Token[] token = new Token[TAPE + 1];
        private final int[] place = new int[TAPE + 1];
        private final int[] worth = new int[TAPE + 1];
        private int count;

        Scanner(int[] bytes) {
            this.bytes = bytes;
        }

        void cut(int n) {
            length = Math.min(n, bytes.length);
            count = 0;
            for (int at = 0; at < length; at = Math.max(at + 1, endOf(at))) {
                if (isDigit(bytes[at])) {
                    put(Token.NUMBER, at, worthOf(at));
                } else if (bytes[at] != 10 && bytes[at] != 32) {
                    put(spelled(at, endOf(at)), at, 0);
                }
            }
            put(Token.END, length, 0);
        }

        private void put(Token what, int where, int number) {
            if (count < token.length) {
                token[count] = what;
                place[count] = where;
                worth[count] = number;
                count++;
            }
        }

        private int endOf(int at) {
            int end = at + 1;
            if (isSmallLetter(bytes[at])) {
                while (end < length && isSmallLetter(bytes[end])) {
                    end++;
                }
            } else if (isDigit(bytes[at])) {
                while (end < length && isDigit(bytes[end])) {
                    end++;
                }
            } else if (end < length && isOneSign(bytes[at], bytes[end])) {
                end++;
            }
            return end;
        }

        /** The number that begins here; what is too much stays one more than the most. */
        private int worthOf(int at) {
            int number = 0;
            for (int k = at; k < length && isDigit(bytes[k]); k++) {
                number = Math.min(MOST_NUMBER + 1, number * 10 + bytes[k] - '0');
            }
            return number;
        }

        private static boolean isDigit(int c) {
            return c >= '0' && c <= '9';
        }

        private static boolean isSmallLetter(int c) {
            return c >= 'a' && c <= 'z';
        }

        private static boolean isOneSign(int c, int next) {
            return (c == '<' || c == '>') && next == '=' || c == '<' && next == '>';
        }

        private Token spelled(int from, int to) {
            for (Token each : Token.EACH) {
                if (spells(each.spelling, from, to)) {
                    return each;
                }
            }
            return Token.BAD;
        }

        private boolean spells(String word, int from, int to) {
            if (word.length() != to - from) {
                return false;
            }
            for (int k = from; k < to; k++) {
                if (word.charAt(k - from) != bytes[k]) {
                    return false;
                }
            }
            return true;
        }
    }

    /** Reads a text into a draft; the first fault along the text ends the reading. */
    private static final class TextReader {
        private static final int CANT_STAND = 1;
        private static final int TOO_MUCH = 2;
        private static final int TWICE = 3;

        private final Scanner scanner;
        private int at;
        private Token token = Token.END;
        private int worth;
        private int fault;
        private int faultPlace = NONE;
        private Habits draft;
        /** What joins or turns and waits for its right side, with the open brackets between. */
        private final Token[] pending = new Token[MOST_KNOTS + MOST_OPEN];
        private int pendingCount;
        private int open;
        /** Of each bracket level, whether the comparison it may have was seen. */
        private final boolean[] compared = new boolean[MOST_OPEN + 1];
        private boolean valueDue;
        private boolean notMayStand;

        TextReader(int[] bytes, Habits into) {
            scanner = new Scanner(bytes);
            draft = into;
        }

        boolean takes(int n, Habits into) {
            scanner.cut(n);
            draft = into;
            draft.clear();
            fault = 0;
            faultPlace = NONE;
            stepTo(0);
            for (int line = 0; line < scanner.count && fault == 0 && token != Token.END; line++) {
                if (token == Token.READ) {
                    takeRule();
                } else if (token == Token.ANSWER || token == Token.ROUND) {
                    takeHabit();
                } else {
                    fail(CANT_STAND);
                }
            }
            return fault == 0;
        }

        private void stepTo(int next) {
            if (next >= 0 && next < scanner.count) {
                at = next;
                Token found = scanner.token[next];
                token = found == null ? Token.END : found;
                worth = scanner.worth[next];
            }
        }

        private void fail(int which) {
            fault = which;
            faultPlace = scanner.place[at];
        }

        private void takeRule() {
            stepTo(at + 1);
            Token rule = token;
            if (rule.part != Token.RULE) {
                fail(CANT_STAND);
                return;
            }
            stepTo(at + 1);
            int told = takeWriters(draft.ruled);
            if (fault != 0) {
                return;
            }
            if (token != Token.SEMICOLON) {
                fail(CANT_STAND);
            } else if (told == 0 && draft.ruled != 0) {
                fail(TWICE);
            } else {
                draft.addRule(rule, told == 0 ? EVERYBODY : told);
                stepTo(at + 1);
            }
        }

        private void takeHabit() {
            boolean toAll = token == Token.ROUND;
            if (draft.count >= MOST_HABITS) {
                fail(TOO_MUCH);
                return;
            }
            int codeBegin = draft.codeLength;
            stepTo(at + 1);
            takeExpression();
            int told = fault == 0 ? takeBy() : 0;
            if (fault != 0) {
                return;
            }
            if (token != Token.SEMICOLON) {
                fail(CANT_STAND);
                return;
            }
            draft.addHabit(toAll, told == 0 ? EVERYBODY : told, codeBegin);
            stepTo(at + 1);
        }

        private int takeBy() {
            if (token != Token.BY) {
                return 0;
            }
            stepTo(at + 1);
            if (token != Token.NUMBER) {
                fail(CANT_STAND);
                return 0;
            }
            return takeWriters(0);
        }

        /** The writers in a row from here on, as bits; none of those taken already may be among them. */
        private int takeWriters(int taken) {
            int told = 0;
            for (int k = 0; k <= WRITERS && token == Token.NUMBER && fault == 0; k++) {
                if (worth >= WRITERS) {
                    fail(TOO_MUCH);
                } else if (isIn(taken | told, worth)) {
                    fail(TWICE);
                } else {
                    told |= bit(worth);
                    stepTo(at + 1);
                }
            }
            return told;
        }

        private void takeExpression() {
            pendingCount = 0;
            open = 0;
            compared[0] = false;
            valueDue = true;
            notMayStand = true;
            for (int k = 0; k < scanner.count && fault == 0; k++) {
                if (valueDue) {
                    takeValue();
                } else if (token == Token.CLOSE && open > 0) {
                    closeBracket();
                } else if (token.part == Token.JOINT) {
                    takeJoint();
                } else {
                    break;
                }
            }
            if (fault == 0 && open > 0) {
                fail(CANT_STAND);
            }
            settle(0);
        }

        private void takeValue() {
            if (token == Token.NUMBER || token.part == Token.NAME) {
                if (worth > MOST_NUMBER || draft.knots >= MOST_KNOTS) {
                    fail(TOO_MUCH);
                    return;
                }
                draft.knots++;
                draft.addKnot(token, worth);
                valueDue = false;
                stepTo(at + 1);
            } else if (token == Token.OPEN) {
                openBracket();
            } else if (token == Token.NOT && notMayStand) {
                takePending();
            } else {
                fail(CANT_STAND);
            }
        }

        private void openBracket() {
            if (open >= MOST_OPEN) {
                fail(TOO_MUCH);
                return;
            }
            open++;
            compared[open] = false;
            notMayStand = true;
            pend();
            stepTo(at + 1);
        }

        private void closeBracket() {
            settle(0);
            if (pendingCount > 0) {
                pendingCount--;
            }
            open--;
            stepTo(at + 1);
        }

        private void takeJoint() {
            boolean comparing = token.rank == Token.COMPARING;
            if (comparing && compared[open]) {
                fail(CANT_STAND);
                return;
            }
            if (token.rank <= Token.COMPARING) {
                compared[open] = comparing;
            }
            // A `not` begins what `and`, `or` or a bracket leads to, and stands in no sum.
            notMayStand = token.rank < Token.COMPARING;
            valueDue = true;
            settle(token.rank);
            takePending();
        }

        private void takePending() {
            if (draft.knots >= MOST_KNOTS) {
                fail(TOO_MUCH);
                return;
            }
            draft.knots++;
            pend();
            stepTo(at + 1);
        }

        private void pend() {
            if (pendingCount < pending.length) {
                pending[pendingCount] = token;
                pendingCount++;
            }
        }

        /** Puts down what waits behind the latest open bracket and binds at least so tightly. */
        private void settle(int rank) {
            for (int k = pendingCount; k > 0 && pendingCount > 0; k--) {
                Token top = pending[pendingCount - 1];
                if (top == null || top == Token.OPEN || top.rank < rank) {
                    return;
                }
                draft.addKnot(top, 0);
                pendingCount--;
            }
        }
    }

    /** The letters, with what was before each of them as bits of letters. */
    private static final class Ledger {
        private final int[] writer = new int[LETTERS];
        private final int[] day = new int[LETTERS];
        private final int[] kind = new int[LETTERS];
        private final int[] goesTo = new int[LETTERS];
        private final int[] one = new int[LETTERS];
        private final int[] other = new int[LETTERS];
        /** What its writer had written or read ahead of it. */
        private final int[] known = new int[LETTERS];
        private final int[] past = new int[LETTERS];
        /** What it answers, and what those answer, and so on. */
        private final int[] cited = new int[LETTERS];
        private final int[] ends = new int[LETTERS];
        /** Its list, and the lists of those, and so on. */
        private final int[] listed = new int[LETTERS];
        private final int[] sum = new int[LETTERS];
        private final int[] by = new int[WRITERS];
        private final int[] sentTo = new int[WRITERS];
        private final int[] ring = new int[LETTERS];
        private int size;
        private int left;

        boolean isLetter(int letter) {
            return letter >= 0 && letter < size;
        }

        boolean areTwo(int a, int b) {
            return isLetter(a) && isLetter(b) && a != b;
        }

        boolean isLeft(int letter) {
            return isLetter(letter) && isIn(left, letter);
        }

        boolean isSet(int set) {
            return set >= 0 && (set & ~(bit(size) - 1)) == 0;
        }

        int add(int from, int today, int what, int to, int answers, int answersToo, int knownThen) {
            if (size >= LETTERS || !isWriter(from)) {
                return NONE;
            }
            int letter = size;
            writer[letter] = from;
            day[letter] = today;
            kind[letter] = what;
            goesTo[letter] = to;
            one[letter] = answers;
            other[letter] = answersToo;
            known[letter] = knownThen;
            past[letter] = knownThen | allOf(knownThen, past);
            cited[letter] = answered(letter) | allOf(answered(letter), cited);
            ends[letter] = past[letter] & ~allOf(past[letter], past);
            listed[letter] = ends[letter] | allOf(ends[letter], listed);
            sum[letter] = 1 + greatestSum(past[letter]);
            by[from] |= bit(letter);
            for (int v = 0; v < WRITERS; v++) {
                if (isIn(to, v)) {
                    sentTo[v] |= bit(letter);
                }
            }
            left |= bit(letter);
            size++;
            return letter;
        }

        /** What a row tells of the letters of a set, all of it together. */
        private int allOf(int set, int[] row) {
            int all = 0;
            for (int l = 0; l < size; l++) {
                if (isIn(set, l)) {
                    all |= row[l];
                }
            }
            return all;
        }

        private int greatestSum(int set) {
            int greatest = 0;
            for (int l = 0; l < size; l++) {
                if (isIn(set, l)) {
                    greatest = Math.max(greatest, sum[l]);
                }
            }
            return greatest;
        }

        /** What a letter answers, as bits. */
        int answered(int letter) {
            int bits = 0;
            if (one[letter] != NONE) {
                bits |= bit(one[letter]);
            }
            if (other[letter] != NONE) {
                bits |= bit(other[letter]);
            }
            return bits;
        }

        int numberFor(int letter, int v) {
            return Integer.bitCount((past[letter] | bit(letter)) & by[v]);
        }

        int numberOfNumber(int letter, int u, int v) {
            int greatest = 0;
            int looked = (past[letter] | bit(letter)) & by[v];
            for (int l = 0; l <= letter; l++) {
                if (isIn(looked, l)) {
                    greatest = Math.max(greatest, numberFor(l, u));
                }
            }
            return greatest;
        }

        boolean isTold(int a, int b, int bearing) {
            switch (bearing) {
                case 0: return isIn(cited[b], a);
                case 1: return sum[a] < sum[b];
                case 2: return numberFor(b, writer[a]) >= numberFor(a, writer[a]);
                default: return isIn(listed[b], a);
            }
        }

        int toldWrongly(int bearing) {
            int wrong = 0;
            for (int a = 0; a < size; a++) {
                for (int b = 0; b < size; b++) {
                    if (a != b && isTold(a, b, bearing) != isIn(past[b], a)) {
                        wrong++;
                    }
                }
            }
            return wrong;
        }

        int onShortestWay(int a, int b, int k) {
            int steps = ringsRound(b, a);
            if (steps == NONE || k > steps) {
                return NONE;
            }
            int here = a;
            for (int d = 1; d <= k && here != NONE; d++) {
                here = firstThatKnew(here, ring[steps - d]);
            }
            return here;
        }

        /** Puts into ring d those that reach b by d steps and no fewer, till a is among them: its d. */
        private int ringsRound(int b, int a) {
            int seen = bit(b);
            ring[0] = seen;
            for (int d = 1; d < LETTERS; d++) {
                ring[d] = allOf(ring[d - 1], known) & ~seen;
                seen |= ring[d];
                if (isIn(ring[d], a)) {
                    return d;
                }
            }
            return NONE;
        }

        private int firstThatKnew(int letter, int set) {
            for (int l = 0; l < size; l++) {
                if (isIn(set, l) && isIn(known[l], letter)) {
                    return l;
                }
            }
            return NONE;
        }

        boolean citesThroughLeft(int b, int a) {
            int reached = bit(b);
            // What is answered bears a lesser number, so one walk down meets every letter in time.
            for (int l = b; l > a; l--) {
                if (isIn(reached, l)) {
                    reached |= answered(l) & left;
                }
            }
            return isIn(reached, a);
        }

        boolean isTakenBack(int letter) {
            for (int l = 0; l < size; l++) {
                if (kind[l] == TAKES_BACK && one[l] == letter) {
                    return true;
                }
            }
            return false;
        }

        int hanging(int letter, boolean byAnswers) {
            int hang = 0;
            for (int l = 0; l < size; l++) {
                if (isIn(byAnswers ? cited[l] : past[l], letter)) {
                    hang |= bit(l);
                }
            }
            return hang;
        }

        /** How many letters of v were written by the end of a day. */
        int writtenBy(int v, int lastDay) {
            int many = 0;
            for (int l = 0; l < size; l++) {
                if (writer[l] == v && day[l] <= lastDay) {
                    many++;
                }
            }
            return many;
        }

        /** The k-th letter of v, counted from 1 on. */
        int ofWriter(int v, int k) {
            int many = 0;
            for (int l = 0; l < size; l++) {
                if (writer[l] == v) {
                    many++;
                    if (many == k) {
                        return l;
                    }
                }
            }
            return NONE;
        }
    }

    /** The ways, the split, and the copies with their days. */
    private static final class Post {
        private final int[][] way = new int[WRITERS][WRITERS];
        /** The least sums of ways. */
        private final int[][] least = new int[WRITERS][WRITERS];
        private int half;
        private int splitFrom;
        private int splitTo;
        private final int[] letter = new int[COPIES];
        private final int[] sender = new int[COPIES];
        private final int[] reader = new int[COPIES];
        private final int[] day = new int[COPIES];
        private final int[] state = new int[COPIES];
        private int size;

        Post() {
            for (int a = 0; a < WRITERS; a++) {
                for (int b = 0; b < WRITERS; b++) {
                    way[a][b] = a == b ? 0 : FIRST_WAY;
                    least[a][b] = way[a][b];
                }
            }
        }

        boolean isCopy(int number) {
            return number >= 0 && number < size;
        }

        boolean isUnderWay(int number) {
            return isCopy(number) && state[number] == UNDER_WAY;
        }

        void setWay(int a, int b, int days) {
            way[a][b] = days;
            way[b][a] = days;
            for (int u = 0; u < WRITERS; u++) {
                System.arraycopy(way[u], 0, least[u], 0, WRITERS);
            }
            for (int by = 0; by < WRITERS; by++) {
                shortenBy(by);
            }
        }

        private void shortenBy(int by) {
            for (int u = 0; u < WRITERS; u++) {
                for (int v = 0; v < WRITERS; v++) {
                    least[u][v] = Math.min(least[u][v], least[u][by] + least[by][v]);
                }
            }
        }

        void setSplit(int bits, int from, int to) {
            half = bits;
            splitFrom = from;
            splitTo = to;
        }

        int send(int what, int from, int to, int today) {
            if (size >= COPIES || !isWriter(from) || !isWriter(to)) {
                return NONE;
            }
            int number = size;
            letter[number] = what;
            sender[number] = from;
            reader[number] = to;
            day[number] = throughSplit(from, to, today + way[from][to]);
            state[number] = UNDER_WAY;
            size++;
            return number;
        }

        int delay(int number, int days) {
            if (day[number] + days > LAST_DAY) {
                return NONE;
            }
            day[number] = throughSplit(sender[number], reader[number], day[number] + days);
            return day[number];
        }

        private int throughSplit(int from, int to, int comes) {
            boolean between = isIn(half, from) != isIn(half, to);
            return between && comes >= splitFrom && comes <= splitTo ? splitTo + 1 : comes;
        }

        int howManyUnderWay() {
            int many = 0;
            for (int c = 0; c < size; c++) {
                many += truth(state[c] == UNDER_WAY);
            }
            return many;
        }

        /** The letters of which a copy to a writer is under way. */
        int onTheWayTo(int to) {
            int letters = 0;
            for (int c = 0; c < size; c++) {
                if (state[c] == UNDER_WAY && reader[c] == to) {
                    letters |= bit(letter[c]);
                }
            }
            return letters;
        }
    }

    /** What each writer holds, in the order in which it came, and what he has read on which day. */
    private static final class Desks {
        private final int[][] row = new int[WRITERS][LETTERS];
        private final int[] count = new int[WRITERS];
        private final int[] held = new int[WRITERS];
        private final int[] read = new int[WRITERS];
        private final int[][] readDay = new int[WRITERS][LETTERS];

        boolean holds(int writer, int letter) {
            return isWriter(writer) && isIn(held[writer], letter);
        }

        int letterAt(int writer, int k) {
            return isWriter(writer) && k >= 0 && k < LETTERS ? row[writer][k] : NONE;
        }

        void put(int writer, int letter) {
            if (!isWriter(writer) || count[writer] >= LETTERS) {
                return;
            }
            row[writer][count[writer]] = letter;
            count[writer]++;
            held[writer] |= bit(letter);
        }

        void take(int writer, int letter, int today) {
            if (!holds(writer, letter)) {
                return;
            }
            int kept = 0;
            for (int k = 0; k < count[writer]; k++) {
                if (row[writer][k] != letter) {
                    row[writer][kept] = row[writer][k];
                    kept++;
                }
            }
            count[writer] = kept;
            held[writer] &= ~bit(letter);
            read[writer] |= bit(letter);
            readDay[writer][letter] = today;
        }

        int allHeld() {
            int many = 0;
            for (int w = 0; w < WRITERS; w++) {
                many += count[w];
            }
            return many;
        }

        int allRead() {
            int many = 0;
            for (int w = 0; w < WRITERS; w++) {
                many += Integer.bitCount(read[w]);
            }
            return many;
        }
    }

    /** Who could have known what, by the days and the ways. */
    private static final class Doubts {
        private static final int FITS = 0;
        private static final int TOO_MUCH = 1;
        private static final int LACKS = 2;
        private static final int GOES_BACK = 3;

        private final Ledger ledger;
        private final Post post;

        Doubts(Ledger ledger, Post post) {
            this.ledger = ledger;
            this.post = post;
        }

        boolean mayHaveKnown(int a, int b) {
            int from = ledger.writer[a];
            int to = ledger.writer[b];
            if (from == to) {
                return a < b;
            }
            return ledger.day[b] - ledger.day[a] >= post.least[from][to];
        }

        int verdict(int w, int day, int list) {
            if (isTooMuch(w, day, list)) {
                return TOO_MUCH;
            }
            if (doesLack(w, day, list)) {
                return LACKS;
            }
            return goesBack(w, day, list) ? GOES_BACK : FITS;
        }

        private static int numberIn(int list, int v) {
            return list >> 5 * v & 31;
        }

        private boolean isTooMuch(int w, int day, int list) {
            for (int v = 0; v < WRITERS; v++) {
                int most = ledger.writtenBy(v, day - post.least[v][w]) + truth(v == w);
                if (numberIn(list, v) > most) {
                    return true;
                }
            }
            return false;
        }

        private boolean doesLack(int w, int day, int list) {
            for (int v = 0; v < WRITERS; v++) {
                int letter = ledger.ofWriter(v, numberIn(list, v));
                // The forger's own next one may stand there by a later day: it binds nothing.
                boolean looked = letter != NONE && (v != w || ledger.day[letter] <= day);
                if (looked && bearsMore(letter, list)) {
                    return true;
                }
            }
            return false;
        }

        private boolean goesBack(int w, int day, int list) {
            int latest = ledger.ofWriter(w, ledger.writtenBy(w, day));
            return latest != NONE && bearsMore(latest, list);
        }

        private boolean bearsMore(int letter, int list) {
            for (int u = 0; u < WRITERS; u++) {
                if (ledger.numberFor(letter, u) > numberIn(list, u)) {
                    return true;
                }
            }
            return false;
        }
    }

    /** The fewest rows that cover a set: as many as letters that no other one is put behind. */
    private static final class Chains {
        private final Ledger ledger;
        private final int[] next = new int[LETTERS];
        private final int[] previous = new int[LETTERS];
        private final int[] reachedFrom = new int[LETTERS];
        private final int[] queue = new int[LETTERS];

        Chains(Ledger ledger) {
            this.ledger = ledger;
        }

        int fewest(int set) {
            for (int l = 0; l < LETTERS; l++) {
                next[l] = NONE;
                previous[l] = NONE;
            }
            int fewest = Integer.bitCount(set);
            for (int l = 0; l < ledger.size; l++) {
                if (isIn(set, l)) {
                    fewest -= truth(putOneBehind(l, set));
                }
            }
            return fewest;
        }

        /** Puts a letter behind this one, moving others over to other rows where it must. */
        private boolean putOneBehind(int from, int set) {
            int waiting = 1;
            int reached = 0;
            queue[0] = from;
            for (int k = 0; k < waiting && k < LETTERS; k++) {
                for (int l = 0; l < ledger.size; l++) {
                    if (isIn(set & ~reached, l) && isIn(ledger.past[l], queue[k])) {
                        reached |= bit(l);
                        reachedFrom[l] = queue[k];
                        if (previous[l] == NONE) {
                            moveOver(l);
                            return true;
                        }
                        if (waiting < LETTERS) {
                            queue[waiting] = previous[l];
                            waiting++;
                        }
                    }
                }
            }
            return false;
        }

        private void moveOver(int free) {
            int l = free;
            for (int k = 0; k < LETTERS && l != NONE; k++) {
                int from = reachedFrom[l];
                int left = next[from];
                next[from] = l;
                previous[l] = from;
                l = left;
            }
        }
    }

    /** The orders of a set, counted by which of its letters stand already. */
    private static final class Orders {
        private final Ledger ledger;
        private final int[] toldAhead = new int[MOST_TOLD];
        private final int[] toldBehind = new int[MOST_TOLD];
        private int told;
        private final int[] member = new int[MOST_ORDERED];
        /** Of each member the members that must stand ahead of it, as bits of their places. */
        private final int[] need = new int[MOST_ORDERED];
        private int size;
        /** In how many ways those that don't stand yet can follow those that do. */
        private final int[] rest = new int[1 << MOST_ORDERED];
        /** In how many ways those that stand can have come there. */
        private final int[] begun = new int[1 << MOST_ORDERED];
        private final int[][] aheadIn = new int[MOST_ORDERED][MOST_ORDERED];

        Orders(Ledger ledger) {
            this.ledger = ledger;
        }

        void tell(int a, int b) {
            if (told < MOST_TOLD) {
                toldAhead[told] = a;
                toldBehind[told] = b;
                told++;
            }
        }

        /** Whether b must stand ahead of a. */
        boolean goesAgainst(int a, int b) {
            int behind = bit(b);
            for (int turn = 0; turn < LETTERS; turn++) {
                for (int l = 0; l < ledger.size; l++) {
                    if ((ledger.past[l] & behind) != 0) {
                        behind |= bit(l);
                    }
                }
                for (int t = 0; t < told; t++) {
                    if (isIn(behind, toldAhead[t])) {
                        behind |= bit(toldBehind[t]);
                    }
                }
            }
            return isIn(behind, a);
        }

        boolean takesSet(int set) {
            if (!ledger.isSet(set) || Integer.bitCount(set) > MOST_ORDERED) {
                return false;
            }
            size = 0;
            for (int l = 0; l < ledger.size; l++) {
                if (isIn(set, l) && size < MOST_ORDERED) {
                    member[size] = l;
                    size++;
                }
            }
            for (int i = 0; i < size; i++) {
                need[i] = placesOf(ledger.past[member[i]]);
            }
            for (int t = 0; t < told; t++) {
                if (isIn(set, toldAhead[t]) && isIn(set, toldBehind[t])) {
                    demand(toldAhead[t], toldBehind[t]);
                }
            }
            return true;
        }

        private int placesOf(int letters) {
            int places = 0;
            for (int i = 0; i < size; i++) {
                if (isIn(letters, member[i])) {
                    places |= bit(i);
                }
            }
            return places;
        }

        /** From now on this set has a ahead of b. */
        void demand(int a, int b) {
            for (int i = 0; i < size; i++) {
                if (member[i] == b) {
                    need[i] |= placesOf(bit(a));
                }
            }
        }

        private boolean mayFollow(int i, int standing) {
            return !isIn(standing, i) && (need[i] & ~standing) == 0;
        }

        int howMany() {
            int full = bit(size) - 1;
            rest[full] = 1;
            for (int standing = full - 1; standing >= 0; standing--) {
                int ways = 0;
                for (int i = 0; i < size; i++) {
                    if (mayFollow(i, standing)) {
                        ways += rest[standing | bit(i)];
                    }
                }
                rest[standing] = ways;
            }
            return rest[0];
        }

        int letterAt(int k, int place) {
            if (k >= howMany()) {
                return NONE;
            }
            int standing = 0;
            int skipped = k;
            int letter = NONE;
            for (int p = 0; p <= place && p < size; p++) {
                int i = memberAt(standing, skipped);
                if (i == NONE) {
                    return NONE;
                }
                skipped -= waysAhead(standing, i);
                standing |= bit(i);
                letter = member[i];
            }
            return letter;
        }

        /** The place of the member that follows those that stand in the k-th of the ways to go on. */
        private int memberAt(int standing, int k) {
            for (int i = 0; i < size; i++) {
                if (mayFollow(i, standing) && k < waysAhead(standing, i) + rest[standing | bit(i)]) {
                    return i;
                }
            }
            return NONE;
        }

        /** How many of the ways to go on begin with a lesser member than the i-th. */
        private int waysAhead(int standing, int i) {
            int ways = 0;
            for (int j = 0; j < i; j++) {
                if (mayFollow(j, standing)) {
                    ways += rest[standing | bit(j)];
                }
            }
            return ways;
        }

        int bestQuestion() {
            if (size < 2) {
                return NONE;
            }
            int total = howMany();
            countAhead();
            int best = NONE;
            int most = NONE;
            for (int i = 0; i < size; i++) {
                for (int j = i + 1; j < size; j++) {
                    int fewer = Math.min(aheadIn[i][j], total - aheadIn[i][j]);
                    if (fewer > most) {
                        most = fewer;
                        best = 32 * member[i] + member[j];
                    }
                }
            }
            return best;
        }

        /** In how many orders each member stands ahead of each other one. */
        private void countAhead() {
            for (int i = 0; i < size; i++) {
                for (int j = 0; j < size; j++) {
                    aheadIn[i][j] = 0;
                }
            }
            int full = bit(size) - 1;
            for (int standing = 0; standing <= full; standing++) {
                begun[standing] = standing == 0 ? 1 : 0;
            }
            for (int standing = 0; standing < full; standing++) {
                if (begun[standing] != 0) {
                    goOnFrom(standing);
                }
            }
        }

        private void goOnFrom(int standing) {
            for (int i = 0; i < size; i++) {
                if (mayFollow(i, standing)) {
                    int grown = standing | bit(i);
                    begun[grown] += begun[standing];
                    int ways = begun[standing] * rest[grown];
                    for (int j = 0; j < size; j++) {
                        if (!isIn(grown, j)) {
                            aheadIn[i][j] += ways;
                        }
                    }
                }
            }
        }
    }
}
