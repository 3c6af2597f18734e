/** All worlds gone through: promises 14 and 15, judge and changed. */
final class WorldEdges {
    private static final String WIDE = "fact a 0 to 99 ; fact b 0 to 19 ; ";
    private static final String FEW = "fact a 0 to 1 ; fact b 3 to 5 ; ";

    private final Edges edges;

    WorldEdges(Edges edges) {
        this.edges = edges;
    }

    void run() {
        judged();
        judge();
        judgeRefused();
        sameFacts();
        signBySign();
        likeQuarrels();
        changed();
        changedRefused();
        otherFacts();
    }

    private void judgedInside(LetterDesk desk, int kind, int count, int least) {
        edges.inside("judge(" + kind + ", 0)", desk.judge(kind, 0), count);
        edges.inside("judge(" + kind + ", 1)", desk.judge(kind, 1), least);
    }

    private void judgedOutside(LetterDesk desk, int kind) {
        edges.outside("judge(" + kind + ", 0)", desk.judge(kind, 0), 0);
        edges.outside("judge(" + kind + ", 1)", desk.judge(kind, 1), -1);
    }

    private static LetterDesk wide(String clauses) {
        return Desks.with(WIDE + clauses);
    }

    private void judged() {
        edges.words("JUDGED: for a kind of QUARREL, how many worlds have it as their first, and the least of these.");
        judgedInside(wide("clause x at 1 must when a + b < 118 ; says ;"), 1, 1, 1999);
        judgedOutside(wide("clause x at 1 must when a + b < 119 ; says ;"), 1);
        judgedInside(wide("clause x at 1 must when 0 < a + b ; says ;"), 1, 1, 0);
        judgedInside(wide("clause x at 1 must when 0 ; says ;"), 1, 2000, 0);
        judgedInside(wide("clause x at 1 when a ; says ;"), 4, 20, 0);
        judgedInside(wide("clause x at 1 when 99 - a ; says ;"), 4, 20, 1980);
        judgedInside(wide("clause x at 1 when 1 ; bars y ; says ; clause y at 1 when b = 19 ; says ;"), 2, 100, 19);
        judgedInside(wide("clause x at 1 when 1 ; says ref y ; clause y at 1 when b < 19 ; says ;"), 3, 100, 19);
        // All four, each the first in some worlds alone: a must clause hides all others.
        LetterDesk desk = Desks.with("fact a 0 to 1 ; fact b 0 to 1 ; fact c 0 to 1 ; clause m at 1 must when 1 - a ; says ; "
                + "clause n at 1 when b ; bars m ; says ; clause o at 1 when c ; says ref n ;");
        judgedInside(desk, 1, 4, 4);
        judgedInside(desk, 2, 2, 2);
        judgedInside(desk, 3, 1, 1);
        judgedOutside(desk, 4);
        judgedInside(Desks.with(""), 4, 1, 0);
        judgedOutside(Desks.with(""), 1);
        judgedOutside(Desks.with("clause a at 1 when 1 ; says ;"), 4);
    }

    private void judge() {
        edges.words("JUDGED by the EDITION in hand, what 0: how many worlds, 1: the least;");
        LetterDesk desk = Desks.with("fact k 0 to 4 ; clause a at 1 must when k < 3 ; says ;",
                "fact k 0 to 4 ; clause a at 1 must when k < 4 ; says ;", "");
        judgedInside(desk, 4, 1, 0);
        judgedOutside(desk, 1);
        desk.take(0);
        desk.world(2);
        judgedInside(desk, 1, 2, 3);
        judgedOutside(desk, 4);
        edges.inside("the case stays", desk.look(5), 2);
        desk.inForce(1);
        judgedInside(desk, 1, 1, 4);
        desk.take(0);
        judgedInside(desk, 1, 2, 3);
        Desks.edition(desk, 9, "?");
        judgedInside(desk, 1, 2, 3);
        desk.free(1, true);
        judgedInside(desk, 1, 2, 3);
        edges.outside("what 2", desk.judge(1, 2), -1);
    }

    private void judgeRefused() {
        edges.words("NONE: none in hand, no such kind (1 .. 4), what, no such world.");
        for (int kind = 0; kind <= 5; kind++) {
            edges.outside("none in hand", new LetterDesk().judge(kind, 0), -1);
            edges.outside("none in hand, what 1", new LetterDesk().judge(kind, 1), -1);
        }
        LetterDesk desk = Desks.with("");
        for (int kind : new int[] {0, 5, -1, Integer.MIN_VALUE, Integer.MAX_VALUE}) {
            edges.outside("judge(" + kind + ", 0)", desk.judge(kind, 0), -1);
            edges.outside("judge(" + kind + ", 1)", desk.judge(kind, 1), -1);
        }
        for (int what : new int[] {-1, 2, 3, Integer.MIN_VALUE, Integer.MAX_VALUE}) {
            edges.outside("judge(4, " + what + ")", desk.judge(4, what), -1);
            edges.outside("judge(1, " + what + ")", desk.judge(1, what), -1);
        }
        for (int kind = 1; kind <= 3; kind++) {
            edges.inside("how many: none", desk.judge(kind, 0), 0);
            edges.outside("no such world", desk.judge(kind, 1), -1);
        }
        edges.inside("one such world", desk.judge(4, 1), 0);
        LetterDesk right = Desks.with("clause a at 1 when 1 ; says ;");
        edges.outside("kind 0, though a world has no quarrel", right.judge(0, 0), -1);
        edges.outside("nor is it the least", right.judge(0, 1), -1);
    }

    private void changesInside(LetterDesk desk, int day, int count, int least) {
        edges.inside("changed(0, 1, " + day + ", 0)", desk.changed(0, 1, day, 0), count);
        edges.inside("changed(0, 1, " + day + ", 1)", desk.changed(0, 1, day, 1), least);
        edges.inside("changed(1, 0, " + day + ", 1)", desk.changed(1, 0, day, 1), least);
        edges.inside("changed(1, 0, " + day + ", 0)", desk.changed(1, 0, day, 0), count);
    }

    private void changesOutside(LetterDesk desk, int day) {
        edges.outside("changed(0, 1, " + day + ", 0)", desk.changed(0, 1, day, 0), 0);
        edges.outside("changed(0, 1, " + day + ", 1)", desk.changed(0, 1, day, 1), -1);
    }

    private void refusesFacts(String one, String other) {
        LetterDesk desk = Desks.with(one, other);
        for (int what = 0; what <= 1; what++) {
            edges.outside(one + " | " + other, desk.changed(0, 1, 0, what), -2);
            edges.outside(other + " | " + one, desk.changed(1, 0, 0, what), -2);
        }
    }

    private void sameFacts() {
        edges.words("CHANGED between two EDITIONS with the same FACTS (NAMES and numbers, in order):");
        String eight = LimitEdges.facts(8, "1 to 2");
        for (String facts : new String[] {"", "fact a 0 to 1 ;", FEW, WIDE, eight}) {
            LetterDesk desk = Desks.with(facts, facts);
            edges.inside(facts, desk.changed(0, 1, 0, 0), 0);
        }
        refusesFacts("", "fact a 0 to 0 ;");
        refusesFacts("fact a 0 to 1 ;", "fact b 0 to 1 ;");
        refusesFacts("fact a 0 to 1 ;", "fact aa 0 to 1 ;");
        refusesFacts("fact a 0 to 1 ;", "fact a 0 to 2 ;");
        refusesFacts("fact a 0 to 2 ;", "fact a 1 to 2 ;");
        refusesFacts("fact a 0 to 1 ;", "fact a 1 to 2 ;");
        refusesFacts("fact a 0 to 1 ; fact b 0 to 1 ;", "fact b 0 to 1 ; fact a 0 to 1 ;");
        refusesFacts("fact a 0 to 1 ; fact b 0 to 1 ;", "fact a 0 to 1 ;");
        refusesFacts("fact a 0 to 1 ; fact b 0 to 1 ;", "fact a 0 to 1 ; fact b 0 to 2 ;");
        refusesFacts(eight, eight.replace("fh", "fi"));
        refusesFacts(eight, LimitEdges.facts(7, "1 to 2"));
        refusesFacts(eight, LimitEdges.facts(7, "1 to 2") + "fact fh 1 to 3 ;");
        refusesFacts(eight, eight.replace("fact fa 1", "fact fa 0"));
        // Asked one behind the other, each pair has its own answer.
        LetterDesk four = Desks.with("clause a at 1 when 1 ; says x ;", "clause b at 1 when 1 ; says x ;",
                "clause a at 1 when 1 ; says y ;", FEW);
        int[][] due = {{0, 1, 0}, {2, 1, 1}, {0, 1, 0}, {0, 2, 1}, {0, 1, 0}, {3, 1, -2}, {0, 1, 0}, {0, 3, -2},
            {1, 1, 0}, {2, 1, 1}, {2, 2, 0}};
        for (int[] row : due) {
            int got = four.changed(row[0], row[1], 0, 0);
            if (row[2] == -2) {
                edges.outside("changed(" + row[0] + ", " + row[1] + ", 0, 0)", got, -2);
            } else {
                edges.inside("changed(" + row[0] + ", " + row[1] + ", 0, 0)", got, row[2]);
            }
        }
        edges.inside("the same by other digits", Desks.with("fact a 0 to 1 ;", "fact\na 00to0001;").changed(0, 1, 0, 0), 0);
    }

    private static LetterDesk saying(String one, String other) {
        return Desks.with("clause a at 1 when 1 ; says " + one + " ;", "clause a at 1 when 1 ; says " + other + " ;");
    }

    private void signBySign() {
        edges.words("in how many worlds the letters of a told day are not alike, sign by sign");
        changesOutside(saying("x", "x"), 0);
        changesOutside(saying("= 1 + 1", "= 2"), 0);
        changesOutside(saying("= 1", "ref a"), 0);
        changesOutside(saying("day 1", "= 1"), 0);
        changesInside(saying("day 1", "= 1"), 1, 1, 0);
        changesInside(saying("x", "y"), 0, 1, 0);
        changesInside(saying("x", "xx"), 0, 1, 0);
        changesInside(saying("xx", "x x"), 0, 1, 0);
        changesInside(saying("x", ""), 0, 1, 0);
        changesInside(saying("abcdefghij x", "abcdefghij y"), 0, 1, 0);
        changesInside(saying("ybcdefghij x", "abcdefghij x"), 0, 1, 0);
        changesInside(saying("= 12", "= 1"), 0, 1, 0);
        changesInside(saying("= 12", "= 21"), 0, 1, 0);
        // Other names, other at, and other clauses that are not there read alike.
        changesOutside(Desks.with("clause a at 1 when 1 ; says x ;",
                "clause b at 9 must when 5 ; says x ; clause c at 0 when 0 ; says y ;"), 0);
        // "1 2" may be one part that says 2, or two parts.
        changesOutside(Desks.with("clause a at 1 when 1 ; says = 2 ;",
                "clause a at 1 when 1 ; says ; clause b at 1 when 1 ; says ;"), 0);
        LetterDesk due = saying("day 5", "day 6");
        int[][] days = {{0, 1}, {9992, 0}, {9991, 1}, {9999, 0}, {1, 1}};
        for (int[] row : days) {
            edges.inside("changed(0, 1, " + row[0] + ", 0)", due.changed(0, 1, row[0], 0), row[1]);
        }
        changesInside(due, 0, 1, 0);
        changesInside(due, 9991, 1, 0);
        changesOutside(due, 9992);
        changesOutside(due, 9999);
        due.free(9998, true);
        changesOutside(due, 9991);
        due.free(9998, false);
        changesInside(due, 9991, 1, 0);
    }

    private void likeQuarrels() {
        edges.words("(one with a QUARREL is like one with the same kind and CLAUSES by numbers), and the least of these.");
        String missing = "clause a at 1 must when 0 ; says ; ";
        String bars = "clause a at 1 when 1 ; bars b ; says ; clause b at 1 when 1 ; says ; ";
        String refers = "clause a at 1 when 1 ; says ref b ; clause b at 1 when 0 ; says ; ";
        changesOutside(Desks.with(missing, "clause x at 9 must when 0 ; says y ;"), 0);
        changesOutside(Desks.with(bars, bars.replace("a ", "x ").replace("says", "says y")), 0);
        changesOutside(Desks.with(refers, refers.replace(" b", " z") + "clause y at 0 when 1 ; says ;"), 0);
        changesOutside(Desks.with("", "clause a at 1 when 0 ; says ;"), 0);
        changesInside(Desks.with(missing, "clause z at 1 when 1 ; says ; " + missing), 0, 1, 0);
        changesInside(Desks.with(bars, "clause z at 1 when 0 ; says ; " + bars), 0, 1, 0);
        changesInside(Desks.with(bars + "clause c at 1 when 1 ; says ;", bars.replace("bars b", "bars c")
                + "clause c at 1 when 1 ; says ;"), 0, 1, 0);
        changesInside(Desks.with(refers + "clause c at 1 when 0 ; says ;", refers.replace("ref b", "ref c")
                + "clause c at 1 when 0 ; says ;"), 0, 1, 0);
        changesInside(Desks.with(bars, refers), 0, 1, 0);
        changesInside(Desks.with(missing, "clause a at 1 when 0 ; says ;"), 0, 1, 0);
        changesInside(Desks.with(missing, "clause a at 1 when 1 ; says ;"), 0, 1, 0);
        changesInside(Desks.with("", "clause a at 1 when 1 ; says ;"), 0, 1, 0);
    }

    private void changed() {
        edges.words("CHANGED, what 0: how many worlds, 1: the least;");
        String says = "clause x at 1 when 1 ; says = a = 100 y ;";
        LetterDesk last = Desks.with(WIDE + says, WIDE + says.replace("= 100", "= 100 - ( a + b = 118 )"));
        changesInside(last, 0, 1, 99 * 20 + 19);
        LetterDesk first = Desks.with(WIDE + "clause x at 1 when 1 ; says y ;", WIDE
                + "clause x at 1 when a + b ; says y ;");
        changesInside(first, 0, 1, 0);
        LetterDesk all = Desks.with(WIDE + "clause x at 1 when 1 ; says y ;", WIDE + "clause x at 1 when 1 ; says z ;");
        changesInside(all, 9999, 2000, 0);
        LetterDesk few = Desks.with(FEW + "clause x at 1 when 1 ; says = b ;", FEW
                + "clause x at 1 when 1 ; says = b + a ;");
        changesInside(few, 0, 3, 3);
        few.take(0);
        few.world(4);
        few.make(0);
        changesInside(few, 0, 3, 3);
        edges.inside("in hand", few.look(0), 0);
        edges.inside("the case", few.look(5), 4);
        edges.inside("the letter", Desks.printed(few), "1 4");
        edges.outside("one with itself", few.changed(1, 1, 0, 0), 0);
        edges.outside("its least", few.changed(1, 1, 0, 1), -1);
    }

    private void changedRefused() {
        edges.words("NONE: no such EDITIONS, day, what, no such world;");
        edges.outside("no editions", new LetterDesk().changed(0, 0, 0, 0), -1);
        LetterDesk desk = Desks.with("", "clause a at 1 when 1 ; says ;");
        edges.inside("changed(0, 1, 0, 0)", desk.changed(0, 1, 0, 0), 1);
        edges.inside("changed(0, 1, 9999, 1)", desk.changed(0, 1, 9999, 1), 0);
        for (int edition : new int[] {-1, 2, 6, Integer.MIN_VALUE, Integer.MAX_VALUE}) {
            for (int what = 0; what <= 1; what++) {
                edges.outside("changed(" + edition + ", 0, 0, " + what + ")", desk.changed(edition, 0, 0, what), -1);
                edges.outside("changed(0, " + edition + ", 0, " + what + ")", desk.changed(0, edition, 0, what), -1);
                edges.outside("changed of twice " + edition, desk.changed(edition, edition, 0, what), -1);
            }
        }
        for (int day : new int[] {-1, 10000, Integer.MIN_VALUE, Integer.MAX_VALUE}) {
            edges.outside("day " + day, desk.changed(0, 1, day, 0), -1);
        }
        for (int what : new int[] {-1, 2, Integer.MIN_VALUE, Integer.MAX_VALUE}) {
            edges.outside("what " + what, desk.changed(0, 1, 0, what), -1);
        }
        edges.inside("no world", desk.changed(0, 0, 0, 0), 0);
        edges.outside("no such world", desk.changed(0, 0, 0, 1), -1);
        LetterDesk six = Desks.with("", "", "", "", "", "");
        edges.inside("changed(5, 0, 0, 0) of six", six.changed(5, 0, 0, 0), 0);
        edges.outside("changed(6, 0, 0, 0) of six", six.changed(6, 0, 0, 0), -1);
        edges.outside("changed(0, 6, 0, 0) of six", six.changed(0, 6, 0, 0), -1);
    }

    private void otherFacts() {
        edges.words("-2: they don't have the same FACTS.");
        LetterDesk desk = Desks.with("fact a 0 to 1 ;", "fact a 0 to 2 ;", "fact a 0 to 1 ;");
        edges.outside("changed(0, 1, 0, 0)", desk.changed(0, 1, 0, 0), -2);
        edges.outside("changed(0, 1, 9999, 1)", desk.changed(0, 1, 9999, 1), -2);
        edges.inside("changed(0, 2, 0, 0)", desk.changed(0, 2, 0, 0), 0);
        edges.inside("changed(0, 2, 0, 1)", desk.changed(0, 2, 0, 1), -1);
        edges.outside("no day goes ahead of it", desk.changed(0, 1, 10000, 0), -1);
        edges.outside("no what goes ahead of it", desk.changed(0, 1, 0, 2), -1);
    }
}
