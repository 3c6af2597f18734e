import java.util.ArrayList;
import java.util.HashMap;
import java.util.List;
import java.util.Map;
import java.util.NoSuchElementException;
import java.util.TreeSet;
import java.util.function.ToIntFunction;
import java.util.regex.Matcher;
import java.util.regex.Pattern;

/** The document once more, as slow and plain as can be, to hold LetterDesk against. */
final class NaiveDesk {
    private static final List<String> RESERVED = List.of(
            "fact", "to", "clause", "at", "must", "when", "needs", "bars", "says", "ref", "day");
    private static final Pattern TOKEN = Pattern.compile("[a-z]+|[0-9]+|[^a-z0-9 \\n]");

    record Token(String text, int place) {
        boolean isWord() {
            return text.matches("[a-z]{1,10}");
        }

        boolean isName() {
            return isWord() && !RESERVED.contains(text);
        }

        boolean isNumber() {
            return text.matches("[0-9]{1,4}");
        }
    }

    record Fact(String name, int least, int greatest) {
    }

    record Item(String kind, String name, ToIntFunction<int[]> value) {
    }

    static final class Clause {
        String name;
        int at;
        boolean must;
        ToIntFunction<int[]> when;
        final List<String> needs = new ArrayList<>();
        final List<String> bars = new ArrayList<>();
        final List<Item> items = new ArrayList<>();
    }

    static final class Book {
        int day;
        final List<Fact> facts = new ArrayList<>();
        final List<Clause> clauses = new ArrayList<>();

        int worlds() {
            int worlds = 1;
            for (Fact f : facts) {
                worlds *= f.greatest - f.least + 1;
            }
            return worlds;
        }

        int[] world(int w) {
            int[] numbers = new int[facts.size()];
            for (int k = 0; k < numbers.length; k++) {
                numbers[k] = facts.get(k).least;
            }
            for (int n = 0; n < w; n++) {
                int k = numbers.length - 1;
                while (numbers[k] == facts.get(k).greatest) {
                    numbers[k] = facts.get(k).least;
                    k--;
                }
                numbers[k]++;
            }
            return numbers;
        }

        int clauseNumber(String name) {
            for (int c = 0; c < clauses.size(); c++) {
                if (clauses.get(c).name.equals(name)) {
                    return c;
                }
            }
            throw new IllegalStateException(name);
        }
    }

    record Made(int quarrel, int who, int whom, List<Integer> parts, String text) {
    }

    static final class Wrong extends RuntimeException {
        private static final long serialVersionUID = 1;
        final int fault;

        Wrong(int fault) {
            this.fault = fault;
        }
    }

    private String tape = "";
    private final List<Book> books = new ArrayList<>();
    private int hand = -1;
    private int[] numbers = new int[0];
    private final TreeSet<Integer> free = new TreeSet<>();
    private Made made;

    int feed(long a, long b, long c) {
        for (long v : new long[] {a, b, c}) {
            for (int i = 7; i >= 0; i--) {
                int sign = (int) (v >> 8 * i & 255);
                if ((sign == 10 || sign >= 32 && sign < 127) && tape.length() < 2400) {
                    tape += (char) sign;
                }
            }
        }
        return tape.length();
    }

    int edition(int day) {
        String text = tape;
        tape = "";
        if (noDay(day) || books.size() == 6 || !books.isEmpty() && books.get(books.size() - 1).day >= day) {
            return -1;
        }
        try {
            Book book = new Parser(text).parse();
            book.day = day;
            books.add(book);
        } catch (Wrong e) {
            return e.fault;
        }
        take(books.size() - 1);
        return 0;
    }

    boolean take(int edition) {
        if (edition < 0 || edition >= books.size()) {
            return false;
        }
        hand = edition;
        numbers = books.get(edition).world(0);
        return true;
    }

    int inForce(int day) {
        int found = -1;
        for (int i = 0; i < books.size(); i++) {
            if (!noDay(day) && books.get(i).day <= day) {
                found = i;
            }
        }
        take(found);
        return found;
    }

    boolean fact(int k, int v) {
        if (hand < 0 || k < 0 || k >= numbers.length) {
            return false;
        }
        Fact f = books.get(hand).facts.get(k);
        if (v < f.least || v > f.greatest) {
            return false;
        }
        numbers[k] = v;
        return true;
    }

    boolean world(int w) {
        if (hand < 0 || w < 0 || w >= books.get(hand).worlds()) {
            return false;
        }
        numbers = books.get(hand).world(w);
        return true;
    }

    boolean free(int day, boolean yes) {
        if (noDay(day) || free.contains(day) == yes || yes && free.size() == 40) {
            return false;
        }
        return yes ? free.add(day) : free.remove(day);
    }

    int make(int day) {
        if (hand < 0 || noDay(day)) {
            return -1;
        }
        made = made(books.get(hand), numbers, day);
        return made.quarrel;
    }

    int letter(int what) {
        if (made == null) {
            return -1;
        }
        return what == 0 ? made.text.length() : what == 1 ? made.parts.size()
                : what == 2 ? made.who : what == 3 ? made.whom : -1;
    }

    int out(int i) {
        return made == null || i < 0 || i >= made.text.length() ? -1 : made.text.charAt(i);
    }

    int part(int i) {
        return made == null || i < 1 || i > made.parts.size() ? -1 : made.parts.get(i - 1);
    }

    int working(int from, int to) {
        if (noDay(from) || noDay(to) || from > to) {
            return -1;
        }
        int days = 0;
        for (int d = from + 1; d <= to; d++) {
            days += isWorking(d) ? 1 : 0;
        }
        return days;
    }

    int judge(int kind, int what) {
        if (hand < 0 || kind < 1 || kind > 4 || what < 0 || what > 1) {
            return -1;
        }
        List<Integer> found = new ArrayList<>();
        for (int w = 0; w < books.get(hand).worlds(); w++) {
            if (made(books.get(hand), books.get(hand).world(w), 0).quarrel == kind) {
                found.add(w);
            }
        }
        return what == 0 ? found.size() : found.isEmpty() ? -1 : found.get(0);
    }

    int changed(int a, int b, int day, int what) {
        if (a < 0 || b < 0 || a >= books.size() || b >= books.size() || noDay(day) || what < 0 || what > 1) {
            return -1;
        }
        Book one = books.get(a);
        Book other = books.get(b);
        if (!one.facts.equals(other.facts)) {
            return -2;
        }
        List<Integer> found = new ArrayList<>();
        for (int w = 0; w < one.worlds(); w++) {
            Made m = made(one, one.world(w), day);
            Made n = made(other, other.world(w), day);
            if (m.quarrel != n.quarrel || m.who != n.who || m.whom != n.whom || !m.text.equals(n.text)) {
                found.add(w);
            }
        }
        return what == 0 ? found.size() : found.isEmpty() ? -1 : found.get(0);
    }

    int look(int what) {
        if (hand < 0 || what < 0 || what > 5) {
            return -1;
        }
        Book book = books.get(hand);
        int w = 0;
        while (!java.util.Arrays.equals(book.world(w), numbers)) {
            w++;
        }
        return new int[] {hand, book.facts.size(), book.clauses.size(), book.worlds(), book.day, w}[what];
    }

    int told(int k, int what) {
        if (hand < 0 || k < 0 || k >= numbers.length || what < 0 || what > 2) {
            throw new NoSuchElementException();
        }
        Fact f = books.get(hand).facts.get(k);
        return new int[] {f.least, f.greatest, numbers[k]}[what];
    }

    int count(int what) {
        return what == 0 ? books.size() : what == 1 ? tape.length() : what == 2 ? free.size() : -1;
    }

    private static boolean noDay(int day) {
        return day < 0 || day > 9999;
    }

    private boolean isWorking(int day) {
        return day % 7 != 5 && day % 7 != 6 && !free.contains(day);
    }

    private int due(int day, int days) {
        int left = days;
        int d = day;
        while (left > 0 && d < 9999) {
            d++;
            left -= isWorking(d) ? 1 : 0;
        }
        return d;
    }

    private Made made(Book book, int[] facts, int day) {
        TreeSet<Integer> in = new TreeSet<>();
        for (int c = 0; c < book.clauses.size(); c++) {
            if (book.clauses.get(c).when.applyAsInt(facts) != 0) {
                addWithNeeds(book, c, in);
            }
        }
        for (int c = 0; c < book.clauses.size(); c++) {
            if (book.clauses.get(c).must && !in.contains(c)) {
                return new Made(1, c, -1, List.of(), "");
            }
        }
        for (int c : in) {
            for (String name : book.clauses.get(c).bars) {
                int barred = book.clauseNumber(name);
                if (barred != c && in.contains(barred)) {
                    return new Made(2, c, barred, List.of(), "");
                }
            }
        }
        for (int c : in) {
            for (Item item : book.clauses.get(c).items) {
                if (item.kind.equals("ref") && !in.contains(book.clauseNumber(item.name))) {
                    return new Made(3, c, book.clauseNumber(item.name), List.of(), "");
                }
            }
        }
        if (in.isEmpty()) {
            return new Made(4, -1, -1, List.of(), "");
        }
        List<Integer> parts = new ArrayList<>(in);
        parts.sort((x, y) -> Integer.compare(book.clauses.get(x).at, book.clauses.get(y).at));
        return new Made(0, -1, -1, parts, text(book, parts, facts, day));
    }

    private static void addWithNeeds(Book book, int c, TreeSet<Integer> in) {
        if (in.add(c)) {
            for (String name : book.clauses.get(c).needs) {
                addWithNeeds(book, book.clauseNumber(name), in);
            }
        }
    }

    private String text(Book book, List<Integer> parts, int[] facts, int day) {
        List<String> pieces = new ArrayList<>();
        for (int c : parts) {
            pieces.add(String.valueOf(parts.indexOf(c) + 1));
            for (Item item : book.clauses.get(c).items) {
                switch (item.kind) {
                    case "name" -> pieces.add(item.name);
                    case "ref" -> pieces.add(String.valueOf(parts.indexOf(book.clauseNumber(item.name)) + 1));
                    case "=" -> pieces.add(String.valueOf(item.value.applyAsInt(facts)));
                    default -> pieces.add(String.valueOf(due(day, item.value.applyAsInt(facts))));
                }
            }
        }
        return String.join(" ", pieces);
    }

    private static final class Parser {
        private final List<Token> tokens = new ArrayList<>();
        private final List<String> told = new ArrayList<>();
        private final Map<String, Integer> facts = new HashMap<>();
        private final Book book = new Book();
        private int at;

        Parser(String text) {
            Matcher m = TOKEN.matcher(text);
            while (m.find()) {
                tokens.add(new Token(m.group(), m.start()));
            }
            tokens.add(new Token("", text.length()));
            for (int i = 0; i + 1 < tokens.size(); i++) {
                if (tokens.get(i).text.equals("clause") && tokens.get(i + 1).isWord()) {
                    told.add(tokens.get(i + 1).text);
                }
            }
        }

        Book parse() {
            while (is("fact")) {
                fact();
            }
            while (is("clause")) {
                clause();
            }
            if (!is("")) {
                throw wrong(1);
            }
            return book;
        }

        private boolean is(String text) {
            return tokens.get(at).text.equals(text);
        }

        private Token now() {
            return tokens.get(at);
        }

        private Wrong wrong(int kind) {
            return new Wrong(kind + 16 * now().place);
        }

        private void word(String text) {
            if (!is(text)) {
                throw wrong(1);
            }
            at++;
        }

        private String name() {
            if (!now().isName()) {
                throw wrong(1);
            }
            return now().text;
        }

        private int number() {
            if (!now().isNumber()) {
                throw wrong(1);
            }
            return Integer.parseInt(now().text);
        }

        private void fact() {
            if (book.facts.size() == 8) {
                throw wrong(5);
            }
            at++;
            String name = name();
            if (facts.containsKey(name)) {
                throw wrong(3);
            }
            at++;
            int least = number();
            if (least > 99) {
                throw wrong(4);
            }
            at++;
            word("to");
            int greatest = number();
            if (greatest > 99 || greatest < least) {
                throw wrong(4);
            }
            if (book.worlds() * (greatest - least + 1) > 2000) {
                throw wrong(5);
            }
            at++;
            word(";");
            facts.put(name, book.facts.size());
            book.facts.add(new Fact(name, least, greatest));
        }

        private void clause() {
            if (book.clauses.size() == 12) {
                throw wrong(5);
            }
            at++;
            Clause clause = new Clause();
            clause.name = name();
            if (book.clauses.stream().anyMatch(c -> c.name.equals(clause.name))) {
                throw wrong(3);
            }
            at++;
            word("at");
            clause.at = number();
            if (clause.at > 99) {
                throw wrong(4);
            }
            at++;
            if (is("must")) {
                clause.must = true;
                at++;
            }
            word("when");
            clause.when = formula(0);
            word(";");
            while (is("needs") || is("bars")) {
                if (is("needs") && !clause.bars.isEmpty()) {
                    throw wrong(1);
                }
                if (clause.needs.size() + clause.bars.size() == 8) {
                    throw wrong(5);
                }
                List<String> links = is("needs") ? clause.needs : clause.bars;
                at++;
                links.add(toldName());
                word(";");
            }
            word("says");
            while (!is(";")) {
                item(clause);
            }
            at++;
            book.clauses.add(clause);
        }

        private String toldName() {
            String name = name();
            if (!told.contains(name)) {
                throw wrong(2);
            }
            at++;
            return name;
        }

        private void item(Clause clause) {
            String kind = now().text;
            if (!List.of("=", "ref", "day").contains(kind)) {
                name();
            }
            if (clause.items.size() == 20) {
                throw wrong(5);
            }
            at++;
            if (kind.equals("ref")) {
                clause.items.add(new Item(kind, toldName(), null));
            } else if (kind.equals("=") || kind.equals("day")) {
                clause.items.add(new Item(kind, null, formula(0)));
            } else {
                clause.items.add(new Item("name", kind, null));
            }
        }

        private ToIntFunction<int[]> formula(int depth) {
            ToIntFunction<int[]> left = sum(depth);
            if (is("<")) {
                at++;
                ToIntFunction<int[]> right = sum(depth);
                return f -> left.applyAsInt(f) < right.applyAsInt(f) ? 1 : 0;
            }
            if (is("=")) {
                at++;
                ToIntFunction<int[]> right = sum(depth);
                return f -> left.applyAsInt(f) == right.applyAsInt(f) ? 1 : 0;
            }
            return left;
        }

        private ToIntFunction<int[]> sum(int depth) {
            ToIntFunction<int[]> value = part(depth);
            while (is("+") || is("-")) {
                int sign = is("+") ? 1 : -1;
                at++;
                ToIntFunction<int[]> left = value;
                ToIntFunction<int[]> right = part(depth);
                value = f -> left.applyAsInt(f) + sign * right.applyAsInt(f);
            }
            return value;
        }

        private ToIntFunction<int[]> part(int depth) {
            if (!is("(") && !now().isNumber()) {
                name();
                if (!facts.containsKey(now().text)) {
                    throw wrong(2);
                }
            }
            if (depth == 5) {
                throw wrong(5);
            }
            Token token = now();
            at++;
            if (token.text.equals("(")) {
                ToIntFunction<int[]> inner = formula(depth + 1);
                word(")");
                return inner;
            }
            if (token.isNumber()) {
                int number = Integer.parseInt(token.text);
                return f -> number;
            }
            int fact = facts.get(token.text);
            return f -> f[fact];
        }
    }
}
