/** How much there may be of facts, clauses and what is in them. */
final class LimitEdges {
    private final Edges edges;

    LimitEdges(Edges edges) {
        this.edges = edges;
    }

    void run() {
        factNumbers();
        at();
        facts();
        clauses();
        links();
        items();
        worlds();
        editions();
    }

    static String facts(int count, String numbers) {
        StringBuilder text = new StringBuilder();
        for (int k = 0; k < count; k++) {
            text.append("fact f").append((char) ('a' + k)).append(" ").append(numbers).append(" ; ");
        }
        return text.toString();
    }

    static String clauses(int count, String rest) {
        StringBuilder text = new StringBuilder();
        for (int c = 0; c < count; c++) {
            text.append("clause c").append((char) ('a' + c)).append(" at 1 when 1 ; ").append(rest).append(" ");
        }
        return text.toString();
    }

    private static String head(String rest) {
        return "clause a at 1 when 1 ; " + rest;
    }

    private void factNumbers() {
        edges.words("A FACT's numbers are 0 to 99, the first not above the second;");
        int[][] right = {{0, 0}, {0, 1}, {0, 99}, {98, 99}, {99, 99}, {7, 7}, {7, 8}};
        for (int[] row : right) {
            LetterDesk desk = new LetterDesk();
            String text = "fact a " + row[0] + " to " + row[1] + " ;";
            edges.inside(text, Desks.edition(desk, 0, text), 0);
            edges.inside(text + " least", desk.told(0, 0), row[0]);
            edges.inside(text + " greatest", desk.told(0, 1), row[1]);
            edges.inside(text + " worlds", desk.look(3), row[1] - row[0] + 1);
        }
        edges.faults(4, "fact a ^100 to 100 ;");
        edges.faults(4, "fact a ^100 to 99 ;");
        edges.faults(4, "fact a ^9999 to 99 ;");
        edges.faults(4, "fact a 0 to ^100 ;");
        edges.faults(4, "fact a 99 to ^100 ;");
        edges.faults(4, "fact a 0 to ^9999 ;");
        edges.faults(4, "fact a 1 to ^0 ;");
        edges.faults(4, "fact a 99 to ^98 ;");
        edges.faults(4, "fact a 99 to ^0 ;");
        edges.reads("fact a 0000 to 0099 ;");
        edges.faults(4, "fact a 0 to ^0100 ;");
    }

    private void at() {
        edges.words("at is 0 to 99.");
        edges.makes("clause a at 99 when 1 ; says a ; clause b at 0 when 1 ; says b ; clause c at 98 when 1 ; says c ; "
                + "clause d at 1 when 1 ; says d ;", "1 b 2 d 3 c 4 a");
        edges.reads("clause a at 0099 when 1 ; says ;");
        edges.faults(4, "clause a at ^100 when 1 ; says ;");
        edges.faults(4, "clause a at ^0100 when 1 ; says ;");
        edges.faults(4, "clause a at ^9999 must when 1 ; says ;");
        edges.faults(1, "clause a at ^- 1 when 1 ; says ;");
    }

    private void facts() {
        edges.words("At most 8 FACTS,");
        String eight = facts(8, "0 to 1");
        LetterDesk desk = new LetterDesk();
        edges.inside("8 facts", Desks.edition(desk, 0, eight + "clause a at 1 when 1 ; says = fa + fh ;"), 0);
        edges.inside("look(1) of 8 facts", desk.look(1), 8);
        edges.inside("the eighth's number", desk.fact(7, 1), true);
        edges.inside("its world", desk.look(5), 1);
        edges.inside("its letter", Desks.make(desk, 0), "1 1");
        edges.reads(facts(7, "0 to 1"));
        edges.faults(5, eight + "^fact x 0 to 0 ;");
        edges.faults(5, eight + "^fact");
    }

    private void clauses() {
        edges.words("12 CLAUSES,");
        String twelve = clauses(12, "says ;");
        LetterDesk desk = new LetterDesk();
        edges.inside("12 clauses", Desks.edition(desk, 0, twelve), 0);
        edges.inside("look(2) of 12 clauses", desk.look(2), 12);
        edges.inside("their letter", Desks.make(desk, 0), "1 2 3 4 5 6 7 8 9 10 11 12");
        edges.inside("part(12)", desk.part(12), 11);
        edges.reads(clauses(11, "says ;"));
        edges.faults(5, twelve + "^clause x at 1 when 1 ; says ;");
        edges.faults(5, twelve + "^clause");
        edges.faults(5, clauses(12, "needs x ; says ;") + "^clause x at 1 when 1 ; says ;");
        edges.reads(facts(8, "0 to 1") + twelve);
    }

    private void links() {
        edges.words("8 needs and bars of one together,");
        for (int needs = 0; needs <= 8; needs++) {
            String eight = "needs a ; ".repeat(needs) + "bars a ; ".repeat(8 - needs);
            edges.reads(head(eight + "says ;"));
            edges.faults(5, head(eight + "^bars a ; says ;"));
        }
        for (int needs = 0; needs <= 7; needs++) {
            edges.reads(head("needs a ; ".repeat(needs) + "bars a ; ".repeat(7 - needs) + "says ;"));
        }
        edges.faults(5, head("needs a ; ".repeat(8) + "^needs a ; says ;"));
        // Each clause has eight of its own.
        String eight = "needs a ; ".repeat(4) + "bars a ; ".repeat(4) + "says ; ";
        edges.reads(head(eight) + "clause b at 1 when 1 ; " + eight);
        edges.faults(5, head(eight) + "clause b at 1 when 1 ; " + eight.replace("says", "^bars a ; says"));
        // The eighth of each counts as much as the first.
        edges.makes("clause a at 1 when 1 ; " + "needs a ; ".repeat(7)
                + "needs b ; says ; clause b at 1 when 0 ; says x ;", "1 2 x");
        edges.makes("clause a at 1 when 1 ; " + "bars a ; ".repeat(7)
                + "bars b ; says ; clause b at 1 when 1 ; says x ;", "2: 0 1");
    }

    private void items() {
        edges.words("20 ITEMS of one;");
        edges.makes(head("says " + "x ".repeat(19) + ";"), "1" + " x".repeat(19));
        edges.makes(head("says " + "x ".repeat(20) + ";"), "1" + " x".repeat(20));
        edges.faults(5, head("says " + "x ".repeat(20) + "^x ;"));
        for (String item : new String[] {"x", "= 1 < 2", "ref a", "day 1 < 2"}) {
            edges.reads(head("says " + (item + " ").repeat(20) + ";"));
            edges.faults(5, head("says " + "x ".repeat(20) + "^" + item + " ;"));
        }
        edges.makes(head("says " + "x ".repeat(19) + "= 1 = 1 ;"), "1" + " x".repeat(19) + " 1");
        edges.faults(5, head("says " + "x ".repeat(19) + "= 1 = 1 ^= 1 ;"));
        edges.makes(clauses(2, "says " + "x ".repeat(20) + ";"), "1" + " x".repeat(20) + " 2" + " x".repeat(20));
        edges.makes(head("says " + "x ".repeat(19) + "ref a ;"), "1" + " x".repeat(19) + " 1");
        edges.makes(head("says " + "x ".repeat(19) + "ref b ; clause b at 1 when 0 ; says ;"), "3: 0 1");
    }

    private void worlds() {
        edges.words("all worlds (the product of how many numbers each FACT has) 2000 at most.");
        int[][] inside = {{100, 20, 1}, {20, 100, 1}, {2, 27, 37}, {50, 40, 1}, {1, 1, 100}, {10, 10, 20}};
        for (int[] row : inside) {
            String text = spans(row);
            LetterDesk desk = new LetterDesk();
            edges.inside(text, Desks.edition(desk, 0, text), 0);
            edges.inside(text + " look(3)", desk.look(3), row[0] * row[1] * row[2]);
            edges.inside(text + " last world", desk.world(row[0] * row[1] * row[2] - 1), true);
            edges.outside(text + " one more", desk.world(row[0] * row[1] * row[2]), false);
        }
        // 2001 = 3 * 23 * 29
        edges.faults(5, "fact a 1 to 3 ; fact b 1 to 23 ; fact c 1 to ^29 ;");
        edges.reads("fact a 1 to 3 ; fact b 1 to 23 ; fact c 1 to 28 ;");
        edges.faults(5, "fact a 0 to 99 ; fact b 0 to ^20 ;");
        edges.faults(5, "fact a 0 to 99 ; fact b 0 to 19 ; fact c 0 to ^1 ;");
        edges.reads("fact a 0 to 99 ; fact b 0 to 19 ; fact c 5 to 5 ; fact d 99 to 99 ;");
        edges.faults(5, "fact a 0 to 99 ; fact b 0 to ^99 ;");
        edges.reads(facts(6, "0 to 2") + "fact x 0 to 1 ;");
        edges.faults(5, facts(6, "0 to 2") + "fact x 0 to ^2 ;");
    }

    private static String spans(int[] spans) {
        StringBuilder text = new StringBuilder();
        for (int k = 0; k < spans.length; k++) {
            text.append("fact ").append((char) ('a' + k)).append(" 0 to ").append(spans[k] - 1).append(" ; ");
        }
        return text.toString();
    }

    private void editions() {
        edges.words("EDITIONS, 6 at most, come from");
        LetterDesk desk = new LetterDesk();
        for (int n = 0; n < 6; n++) {
            edges.inside("edition " + n, Desks.edition(desk, n, "fact a " + n + " to 9 ;"), 0);
            edges.inside("is in hand", desk.look(0), n);
        }
        edges.outside("a seventh", Desks.edition(desk, 6, "fact a 6 to 9 ;"), -1);
        edges.outside("six are there", desk.count(0), 6);
        edges.outside("the sixth is in hand", desk.told(0, 0), 5);
        for (int n = 0; n < 6; n++) {
            edges.inside("take(" + n + ")", desk.take(n), true);
            edges.inside("its fact", desk.told(0, 0), n);
        }
        edges.outside("take(6)", desk.take(6), false);
    }
}
