/** Promises 9 to 12: make, letter, out, part. */
final class MadeEdges {
    private static final String CHILD = "fact k 0 to 3 ; clause a at 5 must when k < 3 ; says a = k ; "
            + "clause b at 1 when k ; bars c ; says b ref d ; clause c at 1 when k = 2 ; says ; clause d at 0 when k < 1 ; says ;";

    private final Edges edges;

    MadeEdges(Edges edges) {
        this.edges = edges;
    }

    void run() {
        make();
        makeRefused();
        fromNowOn();
        signs();
        parts();
        quarrel();
        noneAhead();
        out();
        part();
    }

    private void make() {
        edges.words("The LETTER of the case in hand on a day: 0, the QUARREL;");
        LetterDesk desk = Desks.with(CHILD);
        int[] due = {0, 3, 2, 1};
        for (int k = 0; k < 4; k++) {
            desk.fact(0, k);
            if (due[k] == 0) {
                edges.inside("make with " + k, desk.make(0), 0);
            } else {
                edges.outside("make with " + k, desk.make(0), due[k]);
            }
        }
        edges.outside("make of nothing", Desks.with("").make(0), 4);
        LetterDesk days = Desks.with("clause a at 1 when 1 ; says day 0 day 1 ;");
        edges.inside("the first day", Desks.make(days, 0), "1 0 1");
        edges.inside("the last day", Desks.make(days, 9999), "1 9999 9999");
        edges.inside("the day ahead of it", Desks.make(days, 9998), "1 9998 9999");
        LetterDesk later = new LetterDesk();
        Desks.edition(later, 50, "clause a at 1 when 1 ; says day 0 ;");
        edges.inside("a day ahead of that from which it is in force", Desks.make(later, 49), "1 49");
    }

    private void makeRefused() {
        edges.words("-1: none in hand, no such day.");
        LetterDesk none = new LetterDesk();
        edges.outside("none in hand", none.make(0), -1);
        edges.outside("none in hand, no such day", none.make(-1), -1);
        Desks.edition(none, 0, "?");
        edges.outside("none in hand behind a fault", none.make(0), -1);
        LetterDesk desk = Desks.with("clause a at 1 when 1 ; says ;");
        edges.inside("make(0)", desk.make(0), 0);
        edges.inside("make(9999)", desk.make(9999), 0);
        for (int day : new int[] {-1, 10000, Integer.MIN_VALUE, Integer.MAX_VALUE}) {
            edges.outside("make(" + day + ")", desk.make(day), -1);
        }
    }

    private void fromNowOn() {
        edges.words("(What is told of a LETTER below is of this one from now on.)");
        LetterDesk desk = Desks.with(CHILD, "clause x at 1 when 1 ; says other letter ;");
        desk.take(0);
        desk.make(0);
        edges.inside("the letter", Desks.printed(desk), "1 2 a 0");
        desk.fact(0, 3);
        desk.take(1);
        desk.free(1, true);
        desk.judge(1, 0);
        desk.changed(1, 1, 0, 0);
        desk.changed(0, 0, 5, 1);
        Desks.edition(desk, 7, "");
        Desks.edition(desk, 8, "?");
        edges.outside("what is no make() leaves it", Desks.printed(desk), "1 2 a 0");
        edges.outside("and its parts", desk.part(1), 3);
        edges.outside("a refused make", desk.make(10000), -1);
        edges.outside("leaves it, too", Desks.printed(desk), "1 2 a 0");
        desk.take(1);
        desk.make(0);
        edges.inside("the next letter", Desks.printed(desk), "1 other letter");
        edges.inside("its parts", desk.letter(1), 1);
        edges.outside("a part of the one ahead", desk.part(2), -1);
        desk.take(0);
        desk.fact(0, 2);
        desk.make(0);
        edges.inside("a quarrel", desk.letter(2), 1);
        edges.outside("no sign of the one ahead", desk.out(0), -1);
        edges.outside("no part of the one ahead", desk.part(1), -1);
        desk.take(1);
        desk.make(0);
        edges.outside("no quarrel of the one ahead", desk.letter(2), -1);
        edges.outside("nor its other clause", desk.letter(3), -1);
    }

    private void signs() {
        edges.words("Of the latest make(), what 0: signs PRINTED (0 with a QUARREL),");
        LetterDesk desk = Desks.with(CHILD);
        desk.make(0);
        edges.inside("1 2 a 0", desk.letter(0), 7);
        for (int k = 1; k <= 3; k++) {
            desk.fact(0, k);
            desk.make(0);
            edges.outside("with a quarrel, " + k, desk.letter(0), 0);
        }
        desk = Desks.with("");
        desk.make(0);
        edges.outside("with none in it", desk.letter(0), 0);
        desk = Desks.with("clause a at 1 when 1 ; says ;");
        desk.make(0);
        edges.inside("the shortest letter", desk.letter(0), 1);
        StringBuilder days = new StringBuilder();
        for (int c = 0; c < 12; c++) {
            days.append("clause ").append((char) ('a'
                    + c)).append(" at 1when 1;says ").append("day9999".repeat(20)).append(";");
        }
        desk = Desks.with(days.toString());
        desk.make(0);
        edges.inside("240 items in 12 parts", desk.letter(0), 240 * 5 + 9 + 3 * 2 + 11);
        edges.inside("its last sign", desk.out(240 * 5 + 9 + 3 * 2 + 10), '9');
        edges.outside("the one behind it", desk.out(240 * 5 + 9 + 3 * 2 + 11), -1);
    }

    private void parts() {
        edges.words("1: PARTS,");
        LetterDesk desk = Desks.with(CHILD);
        desk.make(0);
        edges.inside("two parts", desk.letter(1), 2);
        for (int k = 1; k <= 3; k++) {
            desk.fact(0, k);
            desk.make(0);
            edges.outside("none with a quarrel, " + k, desk.letter(1), 0);
        }
        LetterDesk twelve = Desks.with(LimitEdges.clauses(12, "says ;"));
        twelve.make(0);
        edges.inside("twelve parts", twelve.letter(1), 12);
        LetterDesk none = Desks.with("");
        none.make(0);
        edges.outside("no parts", none.letter(1), 0);
    }

    private void quarrel() {
        edges.words("2, 3: the CLAUSES of the QUARREL (of 1, 4: NONE for what is not told;"
                + " 2: who bars, who is barred; 3: who refers, to whom);");
        LetterDesk desk = Desks.with(CHILD);
        int[][] due = {{-1, -1}, {1, 3}, {1, 2}, {0, -1}};
        for (int k = 0; k < 4; k++) {
            desk.fact(0, k);
            desk.make(0);
            edges.inside("letter(2) with " + k, desk.letter(2), due[k][0]);
            if (due[k][1] < 0) {
                edges.outside("letter(3) with " + k, desk.letter(3), -1);
            } else {
                edges.inside("letter(3) with " + k, desk.letter(3), due[k][1]);
            }
        }
        desk = Desks.with("");
        desk.make(0);
        edges.outside("letter(2) of 4", desk.letter(2), -1);
        edges.outside("letter(3) of 4", desk.letter(3), -1);
        desk = Desks.with(LimitEdges.clauses(12, "bars ca ; says ;"));
        desk.make(0);
        edges.inside("not who bars itself", desk.letter(2), 1);
        edges.inside("the first clause is barred", desk.letter(3), 0);
        desk = Desks.with("clause a at 1 when 0 ; says ; clause b at 1 when 1 ; says ref a ;");
        desk.make(0);
        edges.inside("who refers", desk.letter(2), 1);
        edges.inside("to the first clause", desk.letter(3), 0);
    }

    private void noneAhead() {
        edges.words("NONE ahead of any, for another what.");
        LetterDesk desk = new LetterDesk();
        for (int what = -1; what <= 4; what++) {
            edges.outside("a new desk's letter(" + what + ")", desk.letter(what), -1);
        }
        Desks.edition(desk, 0, "clause a at 1 when 1 ; says ;");
        desk.make(-1);
        desk.judge(1, 0);
        for (int what = 0; what <= 3; what++) {
            edges.outside("letter(" + what + ") behind a refused make", desk.letter(what), -1);
        }
        desk.make(0);
        edges.inside("letter(0)", desk.letter(0), 1);
        edges.inside("letter(1)", desk.letter(1), 1);
        edges.inside("letter(3)", desk.letter(3), -1);
        for (int what : new int[] {-1, 4, 5, Integer.MIN_VALUE, Integer.MAX_VALUE}) {
            edges.outside("letter(" + what + ")", desk.letter(what), -1);
        }
    }

    private void out() {
        edges.words("Sign i that was PRINTED; NONE.");
        LetterDesk desk = new LetterDesk();
        edges.outside("ahead of any", desk.out(0), -1);
        Desks.edition(desk, 0, "clause a at 1 when 1 ; says xy = 0 - 7 ;");
        edges.outside("ahead of make", desk.out(0), -1);
        desk.make(0);
        String due = "1 xy -7";
        for (int i = 0; i < due.length(); i++) {
            edges.inside("out(" + i + ")", desk.out(i), due.charAt(i));
        }
        for (int i : new int[] {-1, due.length(), 2400, 2772, Integer.MIN_VALUE, Integer.MAX_VALUE}) {
            edges.outside("out(" + i + ")", desk.out(i), -1);
        }
        LetterDesk quarrel = Desks.with("");
        quarrel.make(0);
        edges.outside("with a quarrel", quarrel.out(0), -1);
    }

    private void part() {
        edges.words("The CLAUSE of PART i (1 the first) of the latest make(); NONE.");
        LetterDesk desk = new LetterDesk();
        edges.outside("ahead of any", desk.part(1), -1);
        Desks.edition(desk, 0, "clause a at 9 when 1 ; says ; clause b at 5 when 0 ; says ; clause c at 1 when 1 ; says ;");
        edges.outside("ahead of make", desk.part(1), -1);
        desk.make(0);
        edges.inside("part(1)", desk.part(1), 2);
        edges.inside("part(2)", desk.part(2), 0);
        for (int i : new int[] {0, 3, -1, 12, 13, Integer.MIN_VALUE, Integer.MAX_VALUE}) {
            edges.outside("part(" + i + ")", desk.part(i), -1);
        }
        LetterDesk twelve = Desks.with(LimitEdges.clauses(12, "says ;"));
        twelve.make(0);
        edges.inside("part(12)", twelve.part(12), 11);
        edges.outside("part(13)", twelve.part(13), -1);
        edges.outside("part(0)", twelve.part(0), -1);
    }
}
