import java.util.ArrayList;
import java.util.List;
import java.util.Random;

/** Edition texts by chance: most nearly right, some at a limit, some spoilt. */
final class RandomTexts {
    private static final String[] WORDS = {
        "fact", "to", "clause", "at", "must", "when", "needs", "bars", "says", "ref", "day",
        "a", "b", "c", "d", "abcdefghij", "abcdefghijk", "0", "1", "7", "99", "100", "9999", "00001",
        "(", ")", "<", "=", "+", "-", ";", "*", "A", ":", "@"
    };
    private static final String[] NAMES = {"a", "b", "c", "d", "e", "f", "g", "h", "i", "j", "kl", "abcdefghij", "facts"};

    private final Random chance;
    private final List<String> tokens = new ArrayList<>();
    private final List<String> facts = new ArrayList<>();
    private int clauseCount;

    RandomTexts(Random chance) {
        this.chance = chance;
    }

    /** The head makes editions of one run have the same facts now and then. */
    String text(String head) {
        tokens.clear();
        facts.clear();
        boolean wild = chance.nextInt(4) == 0;
        int factCount = head != null ? 0 : wild ? chance.nextInt(11) : chance.nextInt(4);
        if (head != null) {
            String[] parts = head.split(" ");
            for (int i = 0; i < parts.length; i++) {
                tokens.add(parts[i]);
                if (i > 0 && parts[i - 1].equals("fact")) {
                    facts.add(parts[i]);
                }
            }
        }
        for (int k = 0; k < factCount; k++) {
            fact(wild, factCount);
        }
        clauseCount = wild ? chance.nextInt(15) : 1 + chance.nextInt(6);
        for (int c = 0; c < clauseCount; c++) {
            clause(c, wild);
        }
        int spoils = chance.nextInt(3) == 0 ? 1 + chance.nextInt(2) : 0;
        for (int n = 0; n < spoils && !tokens.isEmpty(); n++) {
            spoil();
        }
        return joined();
    }

    String headOf(String text) {
        int end = text.indexOf("clause");
        String head = (end < 0 ? text : text.substring(0, end)).replaceAll("([a-z]+|[0-9]+|[^a-z0-9 \n])", " $1 ")
                .replaceAll("[ \n]+", " ").trim();
        return head.isEmpty() ? null : head;
    }

    private void add(String... more) {
        tokens.addAll(List.of(more));
    }

    private void fact(boolean wild, int factCount) {
        String name = facts.size() < NAMES.length && chance.nextInt(40) != 0
                ? NAMES[facts.size()] : NAMES[chance.nextInt(NAMES.length)];
        int least = chance.nextInt(wild && chance.nextInt(20) == 0 ? 110 : 3);
        int span = wild ? chance.nextInt(factCount > 4 ? 3 : 14) : chance.nextInt(5);
        if (wild && chance.nextInt(12) == 0) {
            span = chance.nextInt(104) - 2;
        }
        add("fact", name, String.valueOf(least), "to", String.valueOf(Math.max(0, least + span)), ";");
        facts.add(name);
    }

    private String clauseName() {
        int bound = chance.nextInt(60) == 0 ? NAMES.length : Math.max(1, Math.min(clauseCount, NAMES.length));
        return NAMES[chance.nextInt(bound)];
    }

    private void clause(int c, boolean wild) {
        add("clause", c < NAMES.length && chance.nextInt(50) != 0 ? NAMES[c] : clauseName());
        add("at", String.valueOf(chance.nextInt(wild && chance.nextInt(30) == 0 ? 120 : 5)));
        if (chance.nextInt(5) == 0) {
            add("must");
        }
        add("when");
        formula(0);
        add(";");
        int needs = wild && chance.nextInt(10) == 0 ? chance.nextInt(10) : Math.max(0, chance.nextInt(4) - 1);
        for (int n = 0; n < needs; n++) {
            add("needs", clauseName(), ";");
        }
        int bars = wild && chance.nextInt(10) == 0 ? chance.nextInt(10) : Math.max(0, chance.nextInt(5) - 3);
        for (int n = 0; n < bars; n++) {
            add("bars", clauseName(), ";");
        }
        add("says");
        int items = wild && chance.nextInt(10) == 0 ? 18 + chance.nextInt(4) : chance.nextInt(6);
        for (int n = 0; n < items; n++) {
            item();
        }
        add(";");
    }

    private void item() {
        switch (chance.nextInt(5)) {
            case 0, 1 -> add(NAMES[chance.nextInt(NAMES.length)]);
            case 2 -> {
                add("=");
                formula(0);
            }
            case 3 -> add("ref", clauseName());
            default -> {
                add("day");
                formula(0);
            }
        }
    }

    private void formula(int depth) {
        sum(depth);
        if (chance.nextInt(3) == 0) {
            add(chance.nextBoolean() ? "<" : "=");
            sum(depth);
        }
    }

    private void sum(int depth) {
        part(depth);
        while (chance.nextInt(3) == 0) {
            add(chance.nextBoolean() ? "+" : "-");
            part(depth);
        }
    }

    private void part(int depth) {
        int kind = chance.nextInt(depth > 5 ? 6 : 8);
        if (kind < 3 && !facts.isEmpty()) {
            add(facts.get(chance.nextInt(facts.size())));
        } else if (kind < 6) {
            add(String.valueOf(chance.nextInt(20) == 0 ? chance.nextInt(10000) : chance.nextInt(4)));
        } else {
            add("(");
            formula(depth + 1);
            add(")");
        }
    }

    private void spoil() {
        int i = chance.nextInt(tokens.size());
        String other = WORDS[chance.nextInt(WORDS.length)];
        switch (chance.nextInt(4)) {
            case 0 -> tokens.remove(i);
            case 1 -> tokens.set(i, other);
            case 2 -> tokens.add(i, other);
            default -> tokens.subList(i, tokens.size()).clear();
        }
    }

    private String joined() {
        StringBuilder text = new StringBuilder();
        boolean tight = chance.nextBoolean();
        for (int i = 0; i < tokens.size(); i++) {
            boolean mustPart = i > 0 && Character.isLetterOrDigit(tokens.get(i).charAt(0))
                    && Character.isLetterOrDigit(tokens.get(i - 1).charAt(tokens.get(i - 1).length() - 1));
            boolean letterBehindNumber = mustPart && Character.isDigit(tokens.get(i - 1).charAt(0))
                    != Character.isDigit(tokens.get(i).charAt(0));
            if (mustPart && !(tight && letterBehindNumber) || !tight || chance.nextInt(30) == 0) {
                text.append(chance.nextInt(15) == 0 ? "\n" : " ");
            }
            text.append(tokens.get(i));
        }
        return text.toString();
    }
}
