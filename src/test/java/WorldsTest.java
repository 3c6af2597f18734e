/** Promises 14 and 15: judge, changed. */
public final class WorldsTest {
    private static final Check CHECK = new Check("WorldsTest");
    private static final String FACTS = "fact a 0 to 3 ; fact b 1 to 3 ; ";

    public static void main(String[] args) {
        judge();
        judgeOfOthers();
        manyWorlds();
        changed();
        changedQuarrels();
        changedDays();
        otherFacts();
        wrongAsks();
        caseStays();
        CHECK.finish();
    }

    private static void judged(LetterDesk desk, int kind, int count, int least) {
        CHECK.same("judge(" + kind + ", 0)", desk.judge(kind, 0), count);
        CHECK.same("judge(" + kind + ", 1)", desk.judge(kind, 1), least);
    }

    private static void changes(LetterDesk desk, int a, int b, int day, int count, int least) {
        String what = "changed(" + a + ", " + b + ", " + day + ", ";
        CHECK.same(what + "0)", desk.changed(a, b, day, 0), count);
        CHECK.same(what + "1)", desk.changed(a, b, day, 1), least);
    }

    private static void judge() {
        // Worlds are 3 * a + b - 1.
        LetterDesk desk = Desks.with(FACTS + "clause m at 1 must when 1 - ( a = 3 ) ; says ; "
                + "clause n at 1 when a = 2 ; bars m ; says ; clause o at 1 when b = 3 ; says ref n ;");
        desk.world(4);
        judged(desk, 1, 3, 9);
        judged(desk, 2, 3, 6);
        judged(desk, 3, 2, 2);
        judged(desk, 4, 0, -1);
        CHECK.same("the case stays", desk.look(5), 4);
        LetterDesk empty = Desks.with(FACTS + "clause m at 1 when 2 < b - a ; says ;");
        judged(empty, 4, 11, 0);
        judged(empty, 1, 0, -1);
        LetterDesk bare = Desks.with("");
        judged(bare, 4, 1, 0);
    }

    private static void judgeOfOthers() {
        LetterDesk desk = Desks.with("clause a at 1 must when 0 ; says ;", "", "clause a at 1 when 1 ; says ;");
        judged(desk, 1, 0, -1);
        judged(desk, 4, 0, -1);
        desk.take(0);
        judged(desk, 1, 1, 0);
        desk.take(1);
        judged(desk, 4, 1, 0);
        judged(desk, 1, 0, -1);
        desk.inForce(0);
        judged(desk, 1, 1, 0);
        desk.take(2);
        judged(desk, 1, 0, -1);
    }

    private static void manyWorlds() {
        LetterDesk desk = Desks.with("fact a 0 to 99 ; fact b 0 to 19 ; clause x at 1 must when a + b < 118 ; says ;",
                "fact a 0 to 99 ; fact b 0 to 19 ; clause x at 1 when a + b < 117 ; says ;");
        desk.take(0);
        judged(desk, 1, 1, 1999);
        desk.take(1);
        judged(desk, 4, 3, 98 * 20 + 19);
    }

    private static void changed() {
        LetterDesk desk = Desks.with(FACTS + "clause m at 1 when 1 ; says sum = a + b ;",
                FACTS + "clause other at 7 when 1 ; says sum = a + b + ( b = 2 ) ;",
                FACTS + "clause m at 1 when 1 ; says sum = a + b ; clause n at 2 when a = 3 ; says ;",
                FACTS + "clause m at 1 when a < 2 ; says sum = b + a ;");
        changes(desk, 0, 0, 0, 0, -1);
        changes(desk, 0, 1, 0, 4, 1);
        changes(desk, 1, 0, 0, 4, 1);
        changes(desk, 0, 2, 0, 3, 9);
        changes(desk, 0, 3, 0, 6, 6);
        changes(desk, 3, 3, 9999, 0, -1);
        changes(desk, 3, 2, 0, 6, 6);
        changes(desk, 0, 2, 0, 3, 9);
        changes(desk, 1, 2, 0, 6, 1);
        changes(desk, 0, 1, 0, 4, 1);
        LetterDesk signs = Desks.with("clause a at 1 when 1 ; says ab ;", "clause a at 1 when 1 ; says ac ;",
                "clause a at 1 when 1 ; says a b ;", "clause b at 1 when 1 ; says = 2 ;",
                "clause b at 1 when 1 ; says ; clause c at 1 when 1 ; says ;");
        changes(signs, 0, 1, 0, 1, 0);
        changes(signs, 0, 2, 0, 1, 0);
        // "1 2" is "1 2", whether the 2 is a sum or a part's number.
        changes(signs, 3, 4, 0, 0, -1);
    }

    private static void changedQuarrels() {
        LetterDesk desk = Desks.with("clause a at 1 must when 0 ; says ; clause b at 1 when 0 ; says ;",
                "clause x at 7 must when 0 ; says x ;",
                "clause a at 1 when 1 ; says ; clause b at 1 must when 0 ; says ;",
                "", "clause a at 1 when 1 ; bars b ; says ; clause b at 1 when 1 ; says ; clause c at 1 when 1 ; says ;",
                "clause a at 1 when 1 ; bars c ; says ; clause b at 1 when 1 ; says ; clause c at 1 when 1 ; says ;");
        changes(desk, 0, 1, 0, 0, -1);
        changes(desk, 0, 2, 0, 1, 0);
        changes(desk, 0, 3, 0, 1, 0);
        changes(desk, 4, 5, 0, 1, 0);
        changes(desk, 5, 3, 0, 1, 0);
        LetterDesk kinds = Desks.with("clause a at 1 when 1 ; bars b ; says ; clause b at 1 when 1 ; says ;",
                "clause a at 1 when 1 ; says ref b ; clause b at 1 when 0 ; says ;",
                "clause a at 1 when 1 ; says x ;");
        changes(kinds, 0, 1, 0, 1, 0);
        changes(kinds, 1, 2, 0, 1, 0);
    }

    private static void changedDays() {
        LetterDesk desk = Desks.with("fact k 0 to 9 ; clause a at 1 when 1 ; says day k ;",
                "fact k 0 to 9 ; clause a at 1 when 1 ; says day k + ( 5 < k ) ;",
                "fact k 0 to 9 ; clause a at 1 when 1 ; says = k ;");
        changes(desk, 0, 1, 0, 4, 6);
        // Behind 9990 there are 7 working days more, behind 9992 only 5.
        changes(desk, 0, 1, 9990, 1, 6);
        changes(desk, 0, 1, 9989, 2, 6);
        changes(desk, 0, 1, 9992, 0, -1);
        changes(desk, 0, 2, 0, 5, 5);
        changes(desk, 0, 2, 1, 10, 0);
        desk.free(1, true);
        changes(desk, 0, 2, 0, 9, 1);
        desk.free(1, false);
        changes(desk, 0, 2, 0, 5, 5);
        desk.free(20, false);
        changes(desk, 0, 2, 0, 5, 5);
    }

    private static void otherFacts() {
        LetterDesk desk = Desks.with("fact a 0 to 1 ; fact b 0 to 1 ;", "fact b 0 to 1 ; fact a 0 to 1 ;",
                "fact a 0 to 1 ; fact b 0 to 2 ;", "fact a 0 to 1 ;", "fact a 0 to 1 ; fact b 1 to 1 ;",
                "fact a 0 to 1 ; fact b 0 to 1 ;");
        for (int b = 1; b < 5; b++) {
            CHECK.same("changed(0, " + b + ", 0, 0)", desk.changed(0, b, 0, 0), -2);
            CHECK.same("changed(" + b + ", 0, 0, 1)", desk.changed(b, 0, 0, 1), -2);
        }
        changes(desk, 0, 5, 0, 0, -1);
        LetterDesk first = Desks.with("fact a 0 to 1 ;", "fact b 0 to 1 ;", "fact a 0 to 2 ;", "fact a 1 to 1 ;");
        for (int b = 1; b < 4; b++) {
            CHECK.same("changed(0, " + b + ", 0, 0) by the first fact", first.changed(0, b, 0, 0), -2);
        }
        StringBuilder eight = new StringBuilder();
        for (char name = 'a'; name <= 'h'; name++) {
            eight.append("fact ").append(name).append(" 1 to 2 ; ");
        }
        changes(Desks.with(eight.toString(), eight + "clause x at 1 when h = 2 ; says ;"), 0, 1, 0, 128, 1);
        CHECK.same("a wrong what goes ahead of other facts", desk.changed(0, 1, 0, 2), -1);
        CHECK.same("a wrong day, too", desk.changed(0, 1, 10000, 0), -1);
    }

    private static void wrongAsks() {
        LetterDesk desk = Desks.with("", "");
        int[][] wrong = {{-1, 0, 0, 0}, {0, -1, 0, 0}, {2, 0, 0, 0}, {0, 2, 0, 0}, {0, 1, -1, 0}, {0, 1, 10000, 0},
            {0, 1, 0, -1}, {0, 1, 0, 2}, {Integer.MAX_VALUE, 0, 0, 0}, {0, Integer.MIN_VALUE, 0, 0}};
        for (int[] row : wrong) {
            CHECK.same("changed of " + java.util.Arrays.toString(row), desk.changed(row[0], row[1], row[2], row[3]), -1);
        }
        int[][] kinds = {{0, 0}, {5, 0}, {-1, 0}, {4, 2}, {4, -1}, {Integer.MAX_VALUE, 0}, {4, Integer.MIN_VALUE}};
        for (int[] row : kinds) {
            CHECK.same("judge of " + java.util.Arrays.toString(row), desk.judge(row[0], row[1]), -1);
        }
    }

    private static void caseStays() {
        LetterDesk desk = Desks.with("fact k 0 to 9 ; clause a at 1 when 1 ; says = k ;",
                "fact k 0 to 9 ; clause a at 1 when 1 ; says = k + 1 ;");
        desk.take(0);
        desk.world(6);
        changes(desk, 0, 1, 3, 10, 0);
        CHECK.same("in hand", desk.look(0), 0);
        CHECK.same("its case", desk.look(5), 6);
        CHECK.same("no letter was made", desk.letter(0), -1);
        CHECK.same("its letter", Desks.make(desk, 0), "1 6");
    }
}
