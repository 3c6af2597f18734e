/** Who is in a letter, its quarrels, its parts, and what is printed. */
final class LetterEdges {
    private final Edges edges;

    LetterEdges(Edges edges) {
        this.edges = edges;
    }

    void run() {
        notZero();
        needed();
        firstQuarrel();
        missing();
        barred();
        badReference();
        noneInIt();
        parts();
        printedParts();
        printedNames();
        printedNumbers();
        printedReferences();
        blanks();
    }

    private static String clause(String name, String when, String rest) {
        return "clause " + name + " at 1 when " + when + " ; " + rest + " ; ";
    }

    private void notZero() {
        edges.words("THE LETTER of a case: in it are the CLAUSES whose E is not 0,");
        for (String in : new String[] {"1", "0 - 1", "2", "9999", "0 - 9999", "1 < 2", "1 = 1", "5 - 4", "( 0 = 0 )"}) {
            edges.makes(clause("a", in, "says a"), "1 a");
        }
        for (String notIn : new String[] {"0", "0000", "1 - 1", "2 < 1", "1 < 1", "1 = 2", "9999 - 9999", "( 1 = 0 )"}) {
            edges.makesOutside(clause("a", notIn, "says a"), "4: -1 -1");
            edges.makesOutside(clause("a", notIn, "says a") + clause("b", "1", "says b"), "1 b");
        }
        LetterDesk desk = Desks.with("fact k 0 to 2 ; " + clause("a", "k - 1", "says a"));
        edges.inside("k - 1 with 0", Desks.make(desk, 0), "1 a");
        desk.fact(0, 1);
        edges.outside("k - 1 with 1", Desks.make(desk, 0), "4: -1 -1");
        desk.fact(0, 2);
        edges.inside("k - 1 with 2", Desks.make(desk, 0), "1 a");
    }

    private void needed() {
        edges.words("and what they need, and what these need, and so on.");
        StringBuilder forward = new StringBuilder();
        StringBuilder backward = new StringBuilder();
        for (int c = 0; c < 12; c++) {
            String name = "c" + (char) ('a' + c);
            String next = "needs c" + (char) ('a' + (c + 1) % 12) + " ; says";
            String last = "needs c" + (char) ('a' + (c + 11) % 12) + " ; says";
            forward.append(clause(name, c == 0 ? "1" : "0", next));
            backward.append(clause(name, c == 11 ? "1" : "0", last));
        }
        edges.makes(forward.toString(), "1 2 3 4 5 6 7 8 9 10 11 12");
        edges.makes(backward.toString(), "1 2 3 4 5 6 7 8 9 10 11 12");
        edges.makes(clause("a", "1", "needs b ; says a") + clause("b", "0", "says b"), "1 a 2 b");
        edges.makes(clause("a", "1", "needs a ; says a"), "1 a");
        edges.makes(clause("a", "1", "needs c ; needs b ; says a") + clause("b", "0", "says b") + clause("c", "0",
                "says c"), "1 a 2 b 3 c");
        edges.makesOutside(clause("a", "0", "needs b ; says a") + clause("b", "0", "says b") + clause("c", "1",
                "says c"), "1 c");
        edges.makesOutside(clause("a", "0", "needs b ; says a") + clause("b", "1", "says b"), "1 b");
        edges.makesOutside(clause("a", "0", "needs b ; says a") + clause("b", "0", "needs a ; says b"), "4: -1 -1");
    }

    private void firstQuarrel() {
        edges.words("QUARRELS, the first that holds:");
        String must = "clause m at 1 must when 0 ; says ; ";
        String bars = clause("b", "1", "bars c ; says") + clause("c", "1", "says");
        String refers = clause("r", "1", "says ref z") + clause("z", "0", "says");
        edges.makes(refers + bars + must, "1: 4 -1");
        edges.makes(refers + must, "1: 2 -1");
        edges.makes(bars + must, "1: 2 -1");
        edges.makes(must, "1: 0 -1");
        edges.makes(refers + bars, "2: 2 3");
        edges.makes(refers, "3: 0 1");
        edges.makes(clause("z", "0", "says"), "4: -1 -1");
        edges.makesOutside(clause("z", "1", "says"), "1");
    }

    private void missing() {
        edges.words("1 a must CLAUSE is not in it (the first by numbers);");
        edges.makes("clause a at 0 must when 0 ; says ;", "1: 0 -1");
        edges.makes("clause a at 9 when 1 ; says ; clause b at 9 must when 0 ; says ; clause c at 0 must when 0 ; says ;", "1: 1 -1");
        edges.makes("clause a at 9 must when 1 ; says ; clause b at 9 must when 1 ; says ; clause c at 0 must when 0 ; says ;", "1: 2 -1");
        edges.makes(LimitEdges.clauses(11, "says ;") + "clause x at 0 must when 0 ; says ;", "1: 11 -1");
        edges.makesOutside("clause a at 0 must when 1 ; says ;", "1");
        edges.makesOutside("clause a at 0 must when 0 - 1 ; says ;", "1");
        edges.makesOutside("clause a at 0 must when 0 ; says a ; clause b at 0 when 1 ; needs a ; says ;", "1 a 2");
        edges.makesOutside("clause a at 0 when 0 ; says ; clause b at 1 must when 1 ; says ;", "1");
    }

    private void barred() {
        edges.words("2 one in it bars another one in it (the first that bars, then its first that is barred, by what it tells);");
        String b = clause("b", "1", "says");
        String c = clause("c", "1", "says");
        edges.makes(clause("a", "1", "bars b ; says") + b, "2: 0 1");
        edges.makes(b + clause("a", "1", "bars b ; says"), "2: 1 0");
        edges.makes(clause("a", "1", "bars c ; bars b ; says") + b + c, "2: 0 2");
        edges.makes(clause("a", "1", "bars b ; bars c ; says") + b + c, "2: 0 1");
        edges.makes(clause("a", "1", "bars d ; bars c ; says") + b + c + clause("d", "0", "says"), "2: 0 2");
        edges.makes(clause("a", "1", "bars a ; bars b ; says") + b, "2: 0 1");
        edges.makes("clause a at 9 when 1 ; bars b ; says ; clause b at 1 when 1 ; bars a ; says ;", "2: 0 1");
        edges.makes(clause("a", "0", "bars b ; says") + clause("b", "1", "bars c ; says") + c, "2: 1 2");
        edges.makes(clause("a", "1", "needs b ; bars b ; says") + clause("b", "0", "says"), "2: 0 1");
        edges.makesOutside(clause("a", "1", "bars a ; says x"), "1 x");
        edges.makesOutside(clause("a", "1", "bars b ; says x") + clause("b", "0", "says"), "1 x");
        edges.makesOutside(clause("a", "0", "bars b ; says x") + b, "1");
        edges.makesOutside(clause("a", "0", "bars b ; says x") + clause("b", "0", "bars a ; says x"), "4: -1 -1");
    }

    private void badReference() {
        edges.words("3 one in it refers to one that is not (the first, its first);");
        String b = clause("b", "0", "says");
        String c = clause("c", "0", "says");
        edges.makes(clause("a", "1", "says ref b") + b, "3: 0 1");
        edges.makes(b + clause("a", "1", "says ref b"), "3: 1 0");
        edges.makes(clause("a", "1", "says ref c ref b") + b + c, "3: 0 2");
        edges.makes(clause("a", "1", "says ref a x = 1 ref b ref c") + b + c, "3: 0 1");
        edges.makes(clause("a", "0", "says ref b") + b + clause("c", "1", "says ref a ref b"), "3: 2 0");
        edges.makes("clause a at 9 when 1 ; says ref c ; clause b at 0 when 1 ; says ref c ; clause c at 1 when 0 ; says ;", "3: 0 2");
        edges.makesOutside(clause("a", "1", "says ref a"), "1 1");
        edges.makesOutside(clause("a", "1", "says ref b") + clause("b", "1", "says"), "1 2 2");
        edges.makesOutside(clause("a", "1", "needs b ; says ref b") + b, "1 2 2");
        edges.makesOutside(clause("a", "0", "says ref b") + b + clause("d", "1", "says"), "1");
        edges.makesOutside(clause("a", "1", "says b") + b, "1 b");
    }

    private void noneInIt() {
        edges.words("4 none is in it.");
        edges.makes("", "4: -1 -1");
        edges.makes("fact a 0 to 1 ;", "4: -1 -1");
        edges.makes(LimitEdges.clauses(12, "says ;").replace("when 1", "when 0"), "4: -1 -1");
        edges.makes(clause("a", "0", "needs a ; bars a ; says ref a"), "4: -1 -1");
        edges.makesOutside(clause("a", "1", "says"), "1");
        edges.makesOutside(clause("b", "0", "says") + clause("a", "1", "says"), "1");
        edges.makesOutside(clause("a", "1", "says") + clause("b", "0", "says"), "1");
    }

    private void parts() {
        edges.words("CLAUSES in it are its PARTS, numbered from 1, by at, of one at by numbers.");
        edges.makes("clause a at 2 when 1 ; says a ; clause b at 1 when 1 ; says b ;", "1 b 2 a");
        edges.makes("clause a at 1 when 1 ; says a ; clause b at 1 when 1 ; says b ;", "1 a 2 b");
        edges.makes("clause b at 1 when 1 ; says b ; clause a at 1 when 1 ; says a ;", "1 b 2 a");
        edges.makes("clause a at 99 when 1 ; says a ; clause b at 0 when 1 ; says b ; clause c at 99 when 1 ; says c ; "
                + "clause d at 0 when 1 ; says d ; clause e at 10 when 1 ; says e ; clause f at 9 when 1 ; says f ;",
                "1 b 2 d 3 f 4 e 5 a 6 c");
        edges.makesOutside("clause a at 2 when 1 ; says a ; clause b at 1 when 0 ; says b ; clause c at 0 when 1 ; says c ;", "1 c 2 a");
        StringBuilder falling = new StringBuilder();
        for (int c = 0; c < 12; c++) {
            falling.append("clause c").append((char) ('a' + c)).append(" at ").append(11 - c).append(" when 1 ; says ; ");
        }
        LetterDesk desk = Desks.with(falling.toString());
        edges.inside("twelve, the last first", Desks.make(desk, 0), "1 2 3 4 5 6 7 8 9 10 11 12");
        for (int part = 1; part <= 12; part++) {
            edges.inside("part(" + part + ")", desk.part(part), 12 - part);
        }
        edges.outside("part(0)", desk.part(0), -1);
        edges.outside("part(13)", desk.part(13), -1);
    }

    private void printedParts() {
        edges.words("PRINTED: for each PART its number, and behind it its ITEMS:");
        edges.makes(clause("a", "1", "says"), "1");
        edges.makes(clause("a", "1", "says x y") + clause("b", "1", "says") + clause("c", "1", "says z"), "1 x y 2 3 z");
        edges.makes(LimitEdges.clauses(12, "says x ;"), "1 x 2 x 3 x 4 x 5 x 6 x 7 x 8 x 9 x 10 x 11 x 12 x");
        edges.makesOutside(clause("a", "1", "says x") + clause("b", "0", "says y"), "1 x");
        edges.makesOutside("clause a at 1 must when 0 ; says x ; clause b at 1 when 1 ; says y ;", "1: 0 -1");
    }

    private void printedNames() {
        edges.words("a NAME as it is;");
        edges.makes(clause("a", "1", "says a z abcdefghij zzzzzzzzzz jihgfedcba b"),
                "1 a z abcdefghij zzzzzzzzzz jihgfedcba b");
        edges.makes("fact k 3 to 4 ; " + clause("a", "1", "says k a"), "1 k a");
        edges.makesOutside("fact k 3 to 4 ; " + clause("a", "1", "says = k ref a"), "1 3 1");
        StringBuilder longest = new StringBuilder();
        StringBuilder due = new StringBuilder();
        for (int c = 0; c < 9; c++) {
            longest.append("clause ").append((char) ('a'
                    + c)).append(" at 1when 1;says").append(" abcdefghij".repeat(20)).append(";");
            due.append(c == 0 ? "" : " ").append(c + 1).append(" abcdefghij".repeat(20));
        }
        edges.makes(longest.toString(), due.toString());
    }

    private void printedNumbers() {
        edges.words("= E: the number;");
        String[][] due = {{"0", "0"}, {"1", "1"}, {"9", "9"}, {"10", "10"}, {"99", "99"}, {"100", "100"}, {"9999", "9999"},
            {"9999 + 1", "10000"}, {"0 - 1", "-1"}, {"0 - 9", "-9"}, {"0 - 10", "-10"}, {"0 - 9999 - 1", "-10000"},
            {"0000", "0"}, {"0010", "10"}, {"1 < 2", "1"}, {"2 < 1", "0"}, {"1 - 1", "0"}, {"0 - 0", "0"},
            {"0 - 1 < 0", "1"}, {"0 < 0 - 1", "0"}, {"0 - 2 < 0 - 1", "1"}, {"0 - 1 = 0 - 1", "1"}};
        for (String[] row : due) {
            edges.makes(clause("a", "1", "says = " + row[0]), "1 " + row[1]);
        }
        // The greatest and the least that a tape of 2,400 signs can tell.
        edges.makes("clause a at 1when 1;says=9999" + "+9999".repeat(474) + ";", "1 " + 9999 * 475);
        edges.makes("clause a at 1when 1;says=0" + "-9999".repeat(474) + ";", "1 -" + 9999 * 474);
        edges.makesOutside(clause("a", "1", "says = 1 = 1"), "1 1");
        edges.makesOutside(clause("a", "0", "says = 1") + clause("b", "1", "says"), "1");
    }

    private void printedReferences() {
        edges.words("ref: the number of that PART;");
        edges.makes("clause a at 9 when 1 ; says ref b ref a ; clause b at 1 when 1 ; says ref a ;", "1 2 2 1 2");
        edges.makes(LimitEdges.clauses(12, "says ref cl ref ca ref cj ref ci ;"),
                "1 12 1 10 9 2 12 1 10 9 3 12 1 10 9 4 12 1 10 9 "
                + "5 12 1 10 9 6 12 1 10 9 7 12 1 10 9 8 12 1 10 9 9 12 1 10 9 10 12 1 10 9 11 12 1 10 9 12 12 1 10 9");
        // Not the clause's number: one ahead of it is not in the letter.
        edges.makesOutside(clause("z", "0", "says") + clause("a", "1", "says ref b") + clause("b", "1", "says"), "1 2 2");
        LetterDesk desk = Desks.with("fact k 0 to 1 ; " + clause("z", "k", "says") + clause("a", "1", "says ref a"));
        edges.inside("without z", Desks.make(desk, 0), "1 1");
        desk.fact(0, 1);
        edges.inside("with z", Desks.make(desk, 0), "1 2 2");
    }

    private void blanks() {
        edges.words("All with one blank between, without one at the ends.");
        LetterDesk desk = Desks.with(clause("a", "1", "says x = 0 - 5 ref b day 0") + clause("b", "1", "says")
                + clause("c", "1", "says y"));
        edges.inside("make", desk.make(0), 0);
        String printed = Desks.printed(desk);
        edges.inside("printed", printed, "1 x -5 2 0 2 3 y");
        edges.outside("a blank at the left end", printed.charAt(0) == ' ', false);
        edges.outside("a blank at the right end", printed.charAt(printed.length() - 1) == ' ', false);
        edges.outside("two blanks", printed.contains("  "), false);
        LetterDesk one = Desks.with(clause("a", "1", "says"));
        one.make(0);
        edges.inside("signs of one part without items", one.letter(0), 1);
        LetterDesk two = Desks.with(clause("a", "1", "says") + clause("b", "1", "says"));
        two.make(0);
        edges.inside("signs of two parts without items", two.letter(0), 3);
        edges.inside("the blank between", two.out(1), 32);
        edges.makes(clause("a", "1", "says\n\nx\n  y"), "1 x y");
    }
}
