import java.util.Arrays;
import java.util.NoSuchElementException;

/** An office's letters, made from the clauses of an edition by the facts of a case. */
public final class LetterDesk {
    public static final int NONE = -1;

    private static final int REFUSED = -1;
    private static final int OTHER_FACTS = -2;

    private static final int LAST_DAY = 9999;
    private static final int MOST_SIGNS = 2400;
    private static final int MOST_EDITIONS = 6;
    private static final int MOST_FACTS = 8;
    private static final int MOST_CLAUSES = 12;
    private static final int MOST_LINKS = 8;
    private static final int MOST_ITEMS = 20;
    private static final int MOST_WORLDS = 2000;
    private static final int MOST_NESTED = 5;
    private static final int MOST_FREE_DAYS = 40;
    private static final int GREATEST_NUMBER = 99;
    private static final int LONGEST_WORD = 10;
    private static final int LONGEST_NUMBER = 4;

    private static final int QUARREL_MISSING = 1;
    private static final int QUARREL_BARRED = 2;
    private static final int QUARREL_REFERENCE = 3;
    private static final int QUARREL_EMPTY = 4;

    private final byte[] tape = new byte[MOST_SIGNS];
    private int tapeLength;
    private final Edition[] editions = new Edition[MOST_EDITIONS];
    private int editionCount;
    private Edition inHand;
    private final Case facts = new Case();
    private final Calendar calendar = new Calendar();
    private final Letter latest = new Letter();
    private boolean anyMade;
    private final Survey survey = new Survey();

    public LetterDesk() {
    }

    public int feed(long a, long b, long c) {
        feedBytes(a);
        feedBytes(b);
        feedBytes(c);
        return tapeLength;
    }

    public int edition(int day) {
        int length = tapeLength;
        tapeLength = 0;
        if (!isDay(day) || editionCount >= MOST_EDITIONS || day <= latestStart()) {
            return REFUSED;
        }
        Edition read = new Edition(editionCount, day);
        int fault = new Reader(tape, length, read).fillEdition();
        if (fault != 0) {
            return fault;
        }
        editions[editionCount] = read;
        editionCount++;
        takeInHand(read);
        return 0;
    }

    public boolean take(int edition) {
        Edition asked = editionAt(edition);
        if (asked == null) {
            return false;
        }
        takeInHand(asked);
        return true;
    }

    public int inForce(int day) {
        if (!isDay(day)) {
            return NONE;
        }
        for (int i = editionCount - 1; i >= 0; i--) {
            Edition candidate = editionAt(i);
            if (candidate != null && candidate.startDay <= day) {
                takeInHand(candidate);
                return i;
            }
        }
        return NONE;
    }

    public boolean fact(int k, int v) {
        if (inHand == null || !inHand.hasFact(k) || v < inHand.least[k] || v > inHand.greatest[k]) {
            return false;
        }
        facts.numbers[k] = v;
        return true;
    }

    public boolean world(int w) {
        if (inHand == null || w < 0 || w >= inHand.worlds) {
            return false;
        }
        facts.setWorld(inHand, w);
        return true;
    }

    public boolean free(int day, boolean yes) {
        if (!isDay(day)) {
            return false;
        }
        boolean changes = yes ? calendar.addFree(day) : calendar.removeFree(day);
        if (changes) {
            survey.forgetComparison();
        }
        return changes;
    }

    public int make(int day) {
        if (inHand == null || !isDay(day)) {
            return REFUSED;
        }
        anyMade = true;
        latest.compose(inHand, facts, day, calendar);
        return latest.quarrel;
    }

    public int letter(int what) {
        if (!anyMade) {
            return NONE;
        }
        switch (what) {
            case 0:
                return latest.length;
            case 1:
                return latest.partCount;
            case 2:
                return latest.who;
            case 3:
                return latest.whom;
            default:
                return NONE;
        }
    }

    public int out(int i) {
        if (i < 0 || i >= latest.length) {
            return NONE;
        }
        return latest.signs[i];
    }

    public int part(int i) {
        if (i < 1 || i > latest.partCount) {
            return NONE;
        }
        return latest.parts[i - 1];
    }

    public int working(int from, int to) {
        if (!isDay(from) || !isDay(to) || from > to) {
            return NONE;
        }
        return calendar.workingDays(from, to);
    }

    public int judge(int kind, int what) {
        if (inHand == null || kind < QUARREL_MISSING || kind > QUARREL_EMPTY || what < 0 || what > 1) {
            return NONE;
        }
        survey.judgeWorlds(inHand);
        return what == 0 ? inHand.quarrelWorlds[kind] : inHand.quarrelLeast[kind];
    }

    public int changed(int a, int b, int day, int what) {
        Edition one = editionAt(a);
        Edition other = editionAt(b);
        if (one == null || other == null || !isDay(day) || what < 0 || what > 1) {
            return NONE;
        }
        if (!one.hasFactsOf(other)) {
            return OTHER_FACTS;
        }
        survey.compareWorlds(one, other, day, calendar);
        return what == 0 ? survey.differing : survey.leastDiffering;
    }

    public int look(int what) {
        if (inHand == null) {
            return NONE;
        }
        switch (what) {
            case 0:
                return inHand.number;
            case 1:
                return inHand.factCount;
            case 2:
                return inHand.clauseCount;
            case 3:
                return inHand.worlds;
            case 4:
                return inHand.startDay;
            case 5:
                return facts.worldOf(inHand);
            default:
                return NONE;
        }
    }

    public int told(int k, int what) throws NoSuchElementException {
        if (inHand == null || !inHand.hasFact(k) || what < 0 || what > 2) {
            throw new NoSuchElementException("no such fact, or nothing such of it");
        }
        if (what == 0) {
            return inHand.least[k];
        }
        return what == 1 ? inHand.greatest[k] : facts.numbers[k];
    }

    public int count(int what) {
        switch (what) {
            case 0:
                return editionCount;
            case 1:
                return tapeLength;
            case 2:
                return calendar.freeCount;
            default:
                return NONE;
        }
    }

    private void feedBytes(long bytes) {
        for (int shift = 56; shift >= 0; shift -= 8) {
            int sign = (int) (bytes >>> shift) & 255;
            boolean fits = sign == 10 || sign >= 32 && sign <= 126;
            if (fits && tapeLength < MOST_SIGNS) {
                tape[tapeLength] = (byte) sign;
                tapeLength++;
            }
        }
    }

    private void takeInHand(Edition edition) {
        inHand = edition;
        facts.setWorld(edition, 0);
    }

    private Edition editionAt(int number) {
        return number < 0 || number >= editionCount ? null : editions[number];
    }

    private int latestStart() {
        Edition last = editionAt(editionCount - 1);
        return last == null ? NONE : last.startDay;
    }

    private static boolean isDay(int day) {
        return day >= 0 && day <= LAST_DAY;
    }

    /** Working days, reckoned by whole weeks, so that no call walks from day to day. */
    private static final class Calendar {
        private static final int WEEK = 7;
        private static final int WORKING_IN_WEEK = 5;

        /** Ascending: a due day is found by one walk over it. */
        private final int[] freeDays = new int[MOST_FREE_DAYS];
        private int freeCount;

        boolean addFree(int day) {
            int at = firstNotBelow(day);
            if (freeCount >= MOST_FREE_DAYS || at < freeCount && freeDays[at] == day) {
                return false;
            }
            for (int i = freeCount; i > at; i--) {
                freeDays[i] = freeDays[i - 1];
            }
            freeDays[at] = day;
            freeCount++;
            return true;
        }

        boolean removeFree(int day) {
            int at = firstNotBelow(day);
            if (at >= freeCount || freeDays[at] != day) {
                return false;
            }
            for (int i = at + 1; i < freeCount; i++) {
                freeDays[i - 1] = freeDays[i];
            }
            freeCount--;
            return true;
        }

        int workingDays(int from, int to) {
            int days = weekdaysUpTo(to) - weekdaysUpTo(from);
            for (int i = 0; i < freeCount; i++) {
                if (freeDays[i] > from && freeDays[i] <= to && isWeekday(freeDays[i])) {
                    days--;
                }
            }
            return days;
        }

        int dueDay(int start, int days) {
            if (days < 1) {
                return start;
            }
            int wanted = weekdaysUpTo(start) + days;
            for (int i = 0; i < freeCount && weekdaysUpTo(freeDays[i]) <= wanted; i++) {
                // Each free weekday on the way puts the due day off by one weekday.
                if (freeDays[i] > start && isWeekday(freeDays[i])) {
                    wanted++;
                }
            }
            int due = (wanted - 1) / WORKING_IN_WEEK * WEEK + (wanted - 1) % WORKING_IN_WEEK;
            return Math.min(due, LAST_DAY);
        }

        private int firstNotBelow(int day) {
            int at = 0;
            while (at < freeCount && freeDays[at] < day) {
                at++;
            }
            return at;
        }

        private static int weekdaysUpTo(int day) {
            return (day + 1) / WEEK * WORKING_IN_WEEK + Math.min((day + 1) % WEEK, WORKING_IN_WEEK);
        }

        private static boolean isWeekday(int day) {
            return day % WEEK < WORKING_IN_WEEK;
        }
    }

    /** A number for each fact, with the room in which formulas are reckoned. */
    private static final class Case {
        /** Each level of ( ) leaves two values open at most: a comparison's left side and a sum. */
        private static final int MOST_OPEN = 2 * MOST_NESTED + 2;

        private final int[] numbers = new int[MOST_FACTS];
        private final int[] open = new int[MOST_OPEN];

        void setWorld(Edition edition, int world) {
            int rest = world;
            for (int k = edition.factCount - 1; k >= 0; k--) {
                int span = edition.spanOf(k);
                numbers[k] = edition.least[k] + rest % span;
                rest /= span;
            }
        }

        int worldOf(Edition edition) {
            int world = 0;
            for (int k = 0; k < edition.factCount; k++) {
                world = world * edition.spanOf(k) + numbers[k] - edition.least[k];
            }
            return world;
        }
    }

    /** An E: its operations, values ahead of what joins them. */
    private static final class Formula {
        private static final int NOTHING = 0;
        private static final int PUSH_NUMBER = 1;
        private static final int PUSH_FACT = 2;
        private static final int ADD = 3;
        private static final int SUBTRACT = 4;
        private static final int LESS = 5;
        private static final int SAME = 6;

        /** How many kinds of operation there is room for in one number, its operand above. */
        private static final int KINDS = 8;

        private final int[] operations;

        Formula(int[] operations) {
            this.operations = operations;
        }

        int reckon(Case facts) {
            int[] open = facts.open;
            int top = 0;
            for (int i = 0; i < operations.length; i++) {
                int kind = operations[i] % KINDS;
                if (kind == PUSH_NUMBER || kind == PUSH_FACT) {
                    if (top >= open.length) {
                        return 0;
                    }
                    int operand = operations[i] / KINDS;
                    open[top] = kind == PUSH_NUMBER ? operand : facts.numbers[operand];
                    top++;
                } else {
                    if (top < 2) {
                        return 0;
                    }
                    top--;
                    open[top - 1] = join(kind, open[top - 1], open[top]);
                }
            }
            return top < 1 ? 0 : open[0];
        }

        private static int join(int kind, int left, int right) {
            switch (kind) {
                case ADD:
                    return left + right;
                case SUBTRACT:
                    return left - right;
                case LESS:
                    return left < right ? 1 : 0;
                default:
                    return left == right ? 1 : 0;
            }
        }
    }

    /** What a clause says at one place; its kind is its first token's. */
    private static final class Item {
        private final int kind;
        private final long word;
        private final int target;
        private final Formula formula;

        Item(int kind, long word, int target, Formula formula) {
            this.kind = kind;
            this.word = word;
            this.target = target;
            this.formula = formula;
        }
    }

    private static final class Clause {
        private final long name;
        private final int at;
        private final boolean must;
        private final Formula when;
        private final int[] needs = new int[MOST_LINKS];
        private int needCount;
        private final int[] bars = new int[MOST_LINKS];
        private int barCount;
        private final Item[] items = new Item[MOST_ITEMS];
        private int itemCount;

        Clause(long name, int at, boolean must, Formula when) {
            this.name = name;
            this.at = at;
            this.must = must;
            this.when = when;
        }

        boolean hasAllLinks() {
            return needCount + barCount >= MOST_LINKS;
        }

        boolean hasAllItems() {
            return itemCount >= MOST_ITEMS;
        }

        void addNeed(int clause) {
            needs[needCount] = clause;
            needCount++;
        }

        void addBar(int clause) {
            bars[barCount] = clause;
            barCount++;
        }

        void addItem(Item item) {
            items[itemCount] = item;
            itemCount++;
        }
    }

    private static final class Edition {
        private final int number;
        private final int startDay;
        private int factCount;
        private final long[] factNames = new long[MOST_FACTS];
        private final int[] least = new int[MOST_FACTS];
        private final int[] greatest = new int[MOST_FACTS];
        private int worlds = 1;
        private int clauseCount;
        private final Clause[] clauses = new Clause[MOST_CLAUSES];
        /** The clauses' numbers as they follow one another in a letter. */
        private final int[] order = new int[MOST_CLAUSES];
        private boolean judged;
        private final int[] quarrelWorlds = new int[QUARREL_EMPTY + 1];
        private final int[] quarrelLeast = new int[QUARREL_EMPTY + 1];

        Edition(int number, int startDay) {
            this.number = number;
            this.startDay = startDay;
        }

        boolean hasFact(int k) {
            return k >= 0 && k < factCount;
        }

        int spanOf(int k) {
            return Math.max(1, greatest[k] - least[k] + 1);
        }

        int factNamed(long name) {
            for (int k = 0; k < factCount; k++) {
                if (factNames[k] == name) {
                    return k;
                }
            }
            return NONE;
        }

        boolean hasClauseNamed(long name) {
            for (int c = 0; c < clauseCount; c++) {
                if (clauses[c].name == name) {
                    return true;
                }
            }
            return false;
        }

        void addFact(long name, int from, int to) {
            factNames[factCount] = name;
            least[factCount] = from;
            greatest[factCount] = to;
            worlds *= spanOf(factCount);
            factCount++;
        }

        void addClause(Clause clause) {
            int place = clauseCount;
            while (place > 0 && clauses[order[place - 1]].at > clause.at) {
                order[place] = order[place - 1];
                place--;
            }
            order[place] = clauseCount;
            clauses[clauseCount] = clause;
            clauseCount++;
        }

        boolean hasFactsOf(Edition other) {
            if (factCount != other.factCount) {
                return false;
            }
            for (int k = 0; k < factCount; k++) {
                boolean same = factNames[k] == other.factNames[k]
                        && least[k] == other.least[k] && greatest[k] == other.greatest[k];
                if (!same) {
                    return false;
                }
            }
            return true;
        }
    }

    /** A text's tokens, one of them in hand. A sign's kind is the sign itself. */
    private static final class Tokens {
        private static final int FACT = 0;
        private static final int TO = 1;
        private static final int CLAUSE = 2;
        private static final int AT = 3;
        private static final int MUST = 4;
        private static final int WHEN = 5;
        private static final int NEEDS = 6;
        private static final int BARS = 7;
        private static final int SAYS = 8;
        private static final int REF = 9;
        private static final int DAY = 10;
        private static final int NAME = 11;
        private static final int NUMBER = 12;
        private static final int NO_TOKEN = 13;
        private static final int END = 14;

        /** In the order of their kinds, each with a blank behind it. */
        private static final String RESERVED = "fact to clause at must when needs bars says ref day ";
        private static final String SIGNS = "()<=+-;";

        private final byte[] text;
        private final int textLength;
        private final long[] reserved = new long[NAME];
        private final int[] kinds;
        private final int[] places;
        /** A word's letters, packed, or a number. */
        private final long[] values;
        private int tokenCount;
        private int nextIndex;
        private int kind = END;
        private int place;
        private long value;

        Tokens(byte[] text, int textLength) {
            this.text = text;
            this.textLength = textLength;
            this.kinds = new int[textLength + 1];
            this.places = new int[textLength + 1];
            this.values = new long[textLength + 1];
        }

        /** Finds all tokens, since clauses may be named ahead of where they stand. */
        void cutText() {
            packReserved();
            int at = 0;
            for (int n = 0; n < textLength && at < textLength; n++) {
                int sign = text[at];
                if (sign == 10 || sign == 32) {
                    at++;
                } else if (isLetter(sign)) {
                    at = cutLetters(at);
                } else if (isDigit(sign)) {
                    at = cutDigits(at);
                } else {
                    keep(SIGNS.indexOf((char) sign) < 0 ? NO_TOKEN : sign, at, 0);
                    at++;
                }
            }
            keep(END, textLength, 0);
            toNext();
        }

        void toNext() {
            if (nextIndex < tokenCount) {
                kind = kinds[nextIndex];
                place = places[nextIndex];
                value = values[nextIndex];
                nextIndex++;
            }
        }

        /** Whether a token is a word right behind the word clause. */
        boolean tellsClause(int token) {
            return token >= 1 && token < tokenCount && kinds[token] <= NAME && kinds[token - 1] == CLAUSE;
        }

        private void keep(int foundKind, int foundPlace, long foundValue) {
            if (tokenCount < kinds.length) {
                kinds[tokenCount] = foundKind;
                places[tokenCount] = foundPlace;
                values[tokenCount] = foundValue;
                tokenCount++;
            }
        }

        private int cutLetters(int from) {
            long word = 0;
            int at = from;
            while (at < textLength && isLetter(text[at])) {
                word = packLetter(word, text[at]);
                at++;
            }
            keep(at - from > LONGEST_WORD ? NO_TOKEN : kindOfWord(word), from, word);
            return at;
        }

        private int cutDigits(int from) {
            int number = 0;
            int at = from;
            while (at < textLength && isDigit(text[at])) {
                number = number * 10 + text[at] - '0';
                at++;
            }
            keep(at - from > LONGEST_NUMBER ? NO_TOKEN : NUMBER, from, number);
            return at;
        }

        private int kindOfWord(long word) {
            for (int known = 0; known < NAME; known++) {
                if (reserved[known] == word) {
                    return known;
                }
            }
            return NAME;
        }

        private void packReserved() {
            long word = 0;
            int known = 0;
            for (int i = 0; i < RESERVED.length() && known < NAME; i++) {
                if (RESERVED.charAt(i) == ' ') {
                    reserved[known] = word;
                    known++;
                    word = 0;
                } else {
                    word = packLetter(word, RESERVED.charAt(i));
                }
            }
        }

        /** Five bits a letter, so that a word of ten letters is one number. */
        private static long packLetter(long packed, int letter) {
            return packed * 32 + letter - 'a' + 1;
        }

        private static boolean isLetter(int sign) {
            return sign >= 'a' && sign <= 'z';
        }

        private static boolean isDigit(int sign) {
            return sign >= '0' && sign <= '9';
        }
    }

    /** Reads a text as an edition, up to the first token that is wrong. */
    private static final class Reader {
        private static final int CANNOT_STAND = 1;
        private static final int NOT_TOLD = 2;
        private static final int TOLD_TWICE = 3;
        private static final int WRONG_NUMBER = 4;
        private static final int TOO_MANY = 5;
        private static final int FAULT_KINDS = 16;

        /** The word clause and a blank: each name told takes that much of the text at least. */
        private static final int SHORTEST_TELLING = 7;

        private final Tokens tokens;
        private final Edition edition;
        private final long[] toldNames;
        private int toldCount;
        private final int[] operations;
        private int operationCount;
        /** For each level of ( ): the operation that waits for a part, and that for a sum. */
        private final int[] waitingJoins = new int[MOST_NESTED + 1];
        private final int[] waitingComparisons = new int[MOST_NESTED + 1];
        private int fault;

        Reader(byte[] text, int textLength, Edition edition) {
            this.tokens = new Tokens(text, textLength);
            this.edition = edition;
            this.toldNames = new long[textLength / SHORTEST_TELLING + 1];
            this.operations = new int[textLength];
        }

        /** Answers 0, or the fault that stopped it. */
        int fillEdition() {
            tokens.cutText();
            findToldNames();
            try {
                for (int n = 0; n <= MOST_FACTS && tokens.kind == Tokens.FACT; n++) {
                    readFact();
                }
                for (int n = 0; n <= MOST_CLAUSES && tokens.kind == Tokens.CLAUSE; n++) {
                    readClause();
                }
                require(Tokens.END);
            } catch (IllegalStateException stopped) {
                return fault;
            }
            return 0;
        }

        private void fail(int kind) {
            fault = kind + FAULT_KINDS * tokens.place;
            throw new IllegalStateException("the token in hand is wrong");
        }

        private void require(int kind) {
            if (tokens.kind != kind) {
                fail(CANNOT_STAND);
            }
        }

        private void pass(int kind) {
            require(kind);
            tokens.toNext();
        }

        private int requireNumber(int least) {
            require(Tokens.NUMBER);
            if (tokens.value < least || tokens.value > GREATEST_NUMBER) {
                fail(WRONG_NUMBER);
            }
            return (int) tokens.value;
        }

        private void findToldNames() {
            for (int token = 1; token < tokens.tokenCount; token++) {
                if (tokens.tellsClause(token) && toldCount < toldNames.length) {
                    toldNames[toldCount] = tokens.values[token];
                    toldCount++;
                }
            }
        }

        private void readFact() {
            if (edition.factCount >= MOST_FACTS) {
                fail(TOO_MANY);
            }
            tokens.toNext();
            require(Tokens.NAME);
            long name = tokens.value;
            if (edition.factNamed(name) != NONE) {
                fail(TOLD_TWICE);
            }
            tokens.toNext();
            int from = requireNumber(0);
            tokens.toNext();
            pass(Tokens.TO);
            int to = requireNumber(from);
            if (edition.worlds * (to - from + 1) > MOST_WORLDS) {
                fail(TOO_MANY);
            }
            tokens.toNext();
            pass(';');
            edition.addFact(name, from, to);
        }

        private void readClause() {
            if (edition.clauseCount >= MOST_CLAUSES) {
                fail(TOO_MANY);
            }
            tokens.toNext();
            require(Tokens.NAME);
            long name = tokens.value;
            if (edition.hasClauseNamed(name)) {
                fail(TOLD_TWICE);
            }
            tokens.toNext();
            pass(Tokens.AT);
            int at = requireNumber(0);
            tokens.toNext();
            boolean must = tokens.kind == Tokens.MUST;
            if (must) {
                tokens.toNext();
            }
            pass(Tokens.WHEN);
            Clause clause = new Clause(name, at, must, readFormula());
            pass(';');
            readLinks(clause);
            pass(Tokens.SAYS);
            readItems(clause);
            pass(';');
            edition.addClause(clause);
        }

        private void readLinks(Clause clause) {
            for (int n = 0; n <= MOST_LINKS && tokens.kind == Tokens.NEEDS; n++) {
                clause.addNeed(readLink(clause));
            }
            for (int n = 0; n <= MOST_LINKS && tokens.kind == Tokens.BARS; n++) {
                clause.addBar(readLink(clause));
            }
        }

        private int readLink(Clause clause) {
            if (clause.hasAllLinks()) {
                fail(TOO_MANY);
            }
            tokens.toNext();
            int target = readTarget();
            pass(';');
            return target;
        }

        /** In a text that is right all through, the k-th name told is clause k's. */
        private int readTarget() {
            require(Tokens.NAME);
            for (int k = 0; k < toldCount; k++) {
                if (toldNames[k] == tokens.value) {
                    tokens.toNext();
                    return k;
                }
            }
            fail(NOT_TOLD);
            return NONE;
        }

        private void readItems(Clause clause) {
            for (int n = 0; n <= MOST_ITEMS && startsItem(); n++) {
                if (clause.hasAllItems()) {
                    fail(TOO_MANY);
                }
                clause.addItem(readItem());
            }
        }

        private boolean startsItem() {
            return tokens.kind == Tokens.NAME || tokens.kind == '='
                    || tokens.kind == Tokens.REF || tokens.kind == Tokens.DAY;
        }

        private Item readItem() {
            int kind = tokens.kind;
            long word = tokens.value;
            tokens.toNext();
            if (kind == Tokens.NAME) {
                return new Item(kind, word, NONE, null);
            }
            if (kind == Tokens.REF) {
                return new Item(kind, word, readTarget(), null);
            }
            return new Item(kind, word, NONE, readFormula());
        }

        /** Reads an E as: any (, a number or fact, any ), and, behind an operator, so on. */
        private Formula readFormula() {
            operationCount = 0;
            openLevel(0);
            int depth = 0;
            boolean goesOn = true;
            for (int n = 0; n < tokens.tokenCount && goesOn; n++) {
                depth = readOpenings(depth);
                readValue(depth);
                depth = readClosings(depth);
                goesOn = readOperator(depth);
            }
            if (depth > 0) {
                fail(CANNOT_STAND);
            }
            addOperation(waitingComparisons[0]);
            return new Formula(Arrays.copyOf(operations, operationCount));
        }

        private int readOpenings(int outerDepth) {
            int depth = outerDepth;
            for (int n = 0; n <= MOST_NESTED && tokens.kind == '('; n++) {
                if (depth >= MOST_NESTED) {
                    fail(TOO_MANY);
                }
                depth++;
                openLevel(depth);
                tokens.toNext();
            }
            return depth;
        }

        private void readValue(int depth) {
            boolean isFact = tokens.kind == Tokens.NAME;
            if (!isFact && tokens.kind != Tokens.NUMBER) {
                fail(CANNOT_STAND);
            }
            int operand = isFact ? edition.factNamed(tokens.value) : (int) tokens.value;
            if (operand == NONE) {
                fail(NOT_TOLD);
            }
            if (depth >= MOST_NESTED) {
                fail(TOO_MANY);
            }
            addOperation((isFact ? Formula.PUSH_FACT : Formula.PUSH_NUMBER) + Formula.KINDS * operand);
            addOperation(waitingJoins[depth]);
            tokens.toNext();
        }

        private int readClosings(int innerDepth) {
            int depth = innerDepth;
            for (int n = 0; n < MOST_NESTED && depth > 0 && tokens.kind == ')'; n++) {
                addOperation(waitingComparisons[depth]);
                depth--;
                addOperation(waitingJoins[depth]);
                tokens.toNext();
            }
            return depth;
        }

        private boolean readOperator(int depth) {
            boolean joins = tokens.kind == '+' || tokens.kind == '-';
            boolean compares = tokens.kind == '<' || tokens.kind == '=';
            if (joins) {
                waitingJoins[depth] = tokens.kind == '+' ? Formula.ADD : Formula.SUBTRACT;
            } else if (compares && waitingComparisons[depth] == Formula.NOTHING) {
                waitingComparisons[depth] = tokens.kind == '<' ? Formula.LESS : Formula.SAME;
                waitingJoins[depth] = Formula.NOTHING;
            } else {
                return false;
            }
            tokens.toNext();
            return true;
        }

        private void openLevel(int depth) {
            waitingJoins[depth] = Formula.NOTHING;
            waitingComparisons[depth] = Formula.NOTHING;
        }

        private void addOperation(int operation) {
            if (operation != Formula.NOTHING && operationCount < operations.length) {
                operations[operationCount] = operation;
                operationCount++;
            }
        }
    }

    /** What an edition makes of a case on a day: parts and signs, or a quarrel. */
    private static final class Letter {
        /** Each part: its number and its items, each of a word's length at most, with blanks. */
        private static final int MOST_PRINTED = MOST_CLAUSES * (MOST_ITEMS + 1) * (LONGEST_WORD + 1);
        private static final int MOST_DIGITS = 10;

        private final boolean[] inside = new boolean[MOST_CLAUSES];
        private final int[] parts = new int[MOST_CLAUSES];
        private final int[] partNumbers = new int[MOST_CLAUSES];
        private int partCount;
        private final byte[] signs = new byte[MOST_PRINTED];
        private int length;
        private int quarrel;
        private int who = NONE;
        private int whom = NONE;

        void compose(Edition edition, Case facts, int day, Calendar calendar) {
            partCount = 0;
            length = 0;
            settle(edition, facts);
            if (quarrel == 0) {
                numberParts(edition);
                printParts(edition, facts, day, calendar);
            }
        }

        /** Which clauses are in the letter, and whether they quarrel. */
        void settle(Edition edition, Case facts) {
            for (int c = 0; c < edition.clauseCount; c++) {
                inside[c] = edition.clauses[c].when.reckon(facts) != 0;
            }
            boolean grows = true;
            for (int round = 0; round < edition.clauseCount && grows; round++) {
                grows = addNeeded(edition);
            }
            findQuarrel(edition);
        }

        boolean readsLike(Letter other) {
            if (quarrel != other.quarrel || who != other.who || whom != other.whom || length != other.length) {
                return false;
            }
            for (int i = 0; i < length; i++) {
                if (signs[i] != other.signs[i]) {
                    return false;
                }
            }
            return true;
        }

        private boolean addNeeded(Edition edition) {
            boolean grows = false;
            for (int c = 0; c < edition.clauseCount; c++) {
                Clause clause = edition.clauses[c];
                for (int n = 0; inside[c] && n < clause.needCount; n++) {
                    int needed = clause.needs[n];
                    if (!inside[needed]) {
                        inside[needed] = true;
                        grows = true;
                    }
                }
            }
            return grows;
        }

        private void findQuarrel(Edition edition) {
            quarrel = 0;
            who = NONE;
            whom = NONE;
            boolean found = findMissing(edition) || findBarred(edition) || findBadReference(edition);
            if (!found && isEmpty(edition)) {
                quarrel = QUARREL_EMPTY;
            }
        }

        private boolean findMissing(Edition edition) {
            for (int c = 0; c < edition.clauseCount; c++) {
                if (edition.clauses[c].must && !inside[c]) {
                    quarrel = QUARREL_MISSING;
                    who = c;
                    return true;
                }
            }
            return false;
        }

        private boolean findBarred(Edition edition) {
            for (int c = 0; c < edition.clauseCount; c++) {
                Clause clause = edition.clauses[c];
                for (int n = 0; inside[c] && n < clause.barCount; n++) {
                    int barred = clause.bars[n];
                    if (barred != c && inside[barred]) {
                        quarrel = QUARREL_BARRED;
                        who = c;
                        whom = barred;
                        return true;
                    }
                }
            }
            return false;
        }

        private boolean findBadReference(Edition edition) {
            for (int c = 0; c < edition.clauseCount; c++) {
                Clause clause = edition.clauses[c];
                for (int n = 0; inside[c] && n < clause.itemCount; n++) {
                    Item item = clause.items[n];
                    if (item.kind == Tokens.REF && !inside[item.target]) {
                        quarrel = QUARREL_REFERENCE;
                        who = c;
                        whom = item.target;
                        return true;
                    }
                }
            }
            return false;
        }

        private boolean isEmpty(Edition edition) {
            for (int c = 0; c < edition.clauseCount; c++) {
                if (inside[c]) {
                    return false;
                }
            }
            return true;
        }

        private void numberParts(Edition edition) {
            for (int i = 0; i < edition.clauseCount; i++) {
                int c = edition.order[i];
                if (inside[c]) {
                    parts[partCount] = c;
                    partCount++;
                    partNumbers[c] = partCount;
                }
            }
        }

        private void printParts(Edition edition, Case facts, int day, Calendar calendar) {
            for (int p = 0; p < partCount; p++) {
                Clause clause = edition.clauses[parts[p]];
                printNumber(p + 1);
                for (int n = 0; n < clause.itemCount; n++) {
                    Item item = clause.items[n];
                    if (item.kind == Tokens.NAME) {
                        printWord(item.word);
                    } else if (item.kind == Tokens.REF) {
                        printNumber(partNumbers[item.target]);
                    } else {
                        int value = item.formula.reckon(facts);
                        printNumber(item.kind == Tokens.DAY ? calendar.dueDay(day, value) : value);
                    }
                }
            }
        }

        private void printWord(long word) {
            printBlankBetween();
            for (int shift = 5 * (LONGEST_WORD - 1); shift >= 0; shift -= 5) {
                int letter = (int) (word >>> shift) & 31;
                if (letter != 0) {
                    printSign('a' - 1 + letter);
                }
            }
        }

        private void printNumber(int number) {
            printBlankBetween();
            if (number < 0) {
                printSign('-');
            }
            int rest = Math.abs(number);
            int unit = 1;
            for (int n = 1; n < MOST_DIGITS && rest / unit >= 10; n++) {
                unit *= 10;
            }
            for (; unit >= 1; unit /= 10) {
                printSign('0' + rest / unit % 10);
            }
        }

        private void printBlankBetween() {
            if (length > 0) {
                printSign(' ');
            }
        }

        private void printSign(int sign) {
            if (length < signs.length) {
                signs[length] = (byte) sign;
                length++;
            }
        }
    }

    /** Goes through all worlds; what was found is kept, as callers ask for its two sides apart. */
    private static final class Survey {
        private final Case tried = new Case();
        private final Letter letterOfOne = new Letter();
        private final Letter letterOfOther = new Letter();
        private Edition comparedOne;
        private Edition comparedOther;
        private int comparedDay;
        private int differing;
        private int leastDiffering;

        void judgeWorlds(Edition edition) {
            if (edition.judged) {
                return;
            }
            edition.judged = true;
            Arrays.fill(edition.quarrelLeast, NONE);
            for (int w = 0; w < edition.worlds; w++) {
                tried.setWorld(edition, w);
                letterOfOne.settle(edition, tried);
                int quarrel = letterOfOne.quarrel;
                if (edition.quarrelWorlds[quarrel] == 0) {
                    edition.quarrelLeast[quarrel] = w;
                }
                edition.quarrelWorlds[quarrel]++;
            }
        }

        void compareWorlds(Edition one, Edition other, int day, Calendar calendar) {
            if (comparedOne == one && comparedOther == other && comparedDay == day) {
                return;
            }
            comparedOne = one;
            comparedOther = other;
            comparedDay = day;
            differing = 0;
            leastDiffering = NONE;
            for (int w = 0; w < one.worlds; w++) {
                tried.setWorld(one, w);
                letterOfOne.compose(one, tried, day, calendar);
                letterOfOther.compose(other, tried, day, calendar);
                if (!letterOfOne.readsLike(letterOfOther)) {
                    leastDiffering = differing == 0 ? w : leastDiffering;
                    differing++;
                }
            }
        }

        /** Due days may fall otherwise once the calendar has changed. */
        void forgetComparison() {
            comparedOne = null;
            comparedOther = null;
        }
    }
}
