/** Promises 9 to 12: make, letter, out, part. */
public final class LetterTest {
    private static final Check CHECK = new Check("LetterTest");

    public static void main(String[] args) {
        whoIsInIt();
        parts();
        printed();
        formulas();
        missing();
        barred();
        badReference();
        empty();
        whichQuarrelFirst();
        wrongAsks();
        latestStays();
        longLetters();
        CHECK.finish();
    }

    private static String made(String text) {
        return Desks.make(Desks.with(text), 0);
    }

    private static void whoIsInIt() {
        CHECK.same("needs of needs", made("clause a at 1 when 1 ; needs c ; says a ; clause b at 1 when 0 ; says b ; "
                + "clause c at 1 when 0 ; needs d ; says c ; clause d at 1 when 0 ; needs a ; says d ;"), "1 a 2 c 3 d");
        CHECK.same("needs told backwards", made("clause a at 1 when 0 ; says a ; clause b at 1 when 0 ; needs a ; says b ; "
                + "clause c at 1 when 1 ; needs b ; says c ;"), "1 a 2 b 3 c");
        CHECK.same("below 0 is not 0", made("clause a at 1 when 0 - 1 ; says a ;"), "1 a");
        CHECK.same("one not in it needs nothing", made("clause a at 1 when 0 ; needs b ; says a ; "
                + "clause b at 1 when 0 ; says b ; clause c at 1 when 1 ; says c ;"), "1 c");
        CHECK.same("a must clause may come by need", made("clause a at 1 must when 0 ; says a ; "
                + "clause b at 1 when 1 ; needs a ; says b ;"), "1 a 2 b");
    }

    private static void parts() {
        LetterDesk desk = Desks.with("clause a at 9 when 1 ; says ; clause b at 0 when 1 ; says ; "
                + "clause c at 5 when 0 ; says ; clause d at 9 when 1 ; says ; clause e at 0 when 1 ; says ;");
        CHECK.same("make", desk.make(0), 0);
        CHECK.same("letter(1)", desk.letter(1), 4);
        int[] due = {-1, 1, 4, 0, 3, -1};
        for (int i = 0; i < due.length; i++) {
            CHECK.same("part(" + i + ")", desk.part(i), due[i]);
        }
        CHECK.same("part(-1)", desk.part(-1), -1);
        CHECK.same("part(12)", desk.part(12), -1);
        CHECK.same("part(MAX)", desk.part(Integer.MAX_VALUE), -1);
        CHECK.same("part(MIN)", desk.part(Integer.MIN_VALUE), -1);
        CHECK.same("numbers alone are printed", Desks.printed(desk), "1 2 3 4");
    }

    private static void printed() {
        CHECK.same("words", made("clause a at 1 when 1 ; says abcdefghij klmnopqrst uvwxyz a z aa ;"),
                "1 abcdefghij klmnopqrst uvwxyz a z aa");
        CHECK.same("references by part", made("clause a at 9 when 1 ; says ref b ref a ; "
                + "clause b at 1 when 1 ; says ref a ;"), "1 2 2 1 2");
        CHECK.same("sums", made("clause a at 1 when 1 ; says = 0 = ( 0 ) = 0 - 7 = ( 1 ) x = 10 + 90 x = 9999 + 1 ;"),
                "1 1 0 x 100 x 10000");
        LetterDesk desk = Desks.with("clause a at 1 when 1 ; says x ;");
        desk.make(0);
        CHECK.same("letter(0)", desk.letter(0), 3);
        int[] due = {'1', ' ', 'x', -1};
        for (int i = 0; i < due.length; i++) {
            CHECK.same("out(" + i + ")", desk.out(i), due[i]);
        }
        CHECK.same("out(-1)", desk.out(-1), -1);
        CHECK.same("out(MAX)", desk.out(Integer.MAX_VALUE), -1);
        CHECK.same("out(MIN)", desk.out(Integer.MIN_VALUE), -1);
        CHECK.same("letter(2) without a quarrel", desk.letter(2), -1);
        CHECK.same("letter(3) without a quarrel", desk.letter(3), -1);
    }

    private static void formulas() {
        String[][] due = {{"1 - 2 - 3", "-4"}, {"1 - ( 2 - 3 )", "2"}, {"1 < 2", "1"}, {"2 < 1", "0"}, {"2 < 2", "0"},
            {"2 = 2", "1"}, {"1 + 1 = 3 - 1", "1"}, {"1 + ( 2 = 3 - 1 ) + 5", "7"}, {"( 1 < 2 ) = ( 3 < 4 )", "1"},
            {"0 - 5 < 0 - 4", "1"}, {"0009 + 1", "10"}, {"k", "7"}, {"k - k", "0"}, {"k + k < k", "0"},
            {"( ( ( ( k ) ) ) )", "7"}, {"10 - ( k - ( 3 - ( 1 = ( 1 ) ) ) )", "5"}, {"0 - 1", "-1"}, {"0 - 10", "-10"},
            {"1 - ( 1 < 3 - ( 4 = 4 ) ) - 1", "-1"}, {"9999 + 9999", "19998"},
            {"1 = 2 + ( 3 = 4 + ( 5 = 6 + ( 7 = 8 + ( 9 ) ) ) )", "0"},
            {"3 = 2 + ( 5 = 4 + ( 7 = 6 + ( 9 = 8 + 1 ) ) )", "1"},
            {"3 < 2 + ( 5 = 4 + ( 7 = 6 + ( 9 = 8 + 1 ) ) )", "0"}};
        for (String[] row : due) {
            LetterDesk desk = Desks.with("fact j 0 to 1 ; fact k 7 to 8 ; clause a at 1 when 1 ; says = " + row[0] + " ;");
            CHECK.same("= " + row[0], Desks.make(desk, 0), "1 " + row[1]);
        }
        String many = "clause a at 1 when 1 ; says = 0" + "-9999".repeat(470) + ";";
        CHECK.same("a long sum", made(many), "1 -" + 9999 * 470);
    }

    private static void missing() {
        CHECK.same("the first must clause", made("clause a at 9 when 1 ; says ; clause b at 9 must when 0 ; says ; "
                + "clause c at 0 must when 0 ; says ;"), "1: 1 -1");
        LetterDesk desk = Desks.with("fact k 0 to 1 ; clause a at 1 must when k ; says a ;");
        CHECK.same("not there", desk.make(0), 1);
        CHECK.same("letter(0) with a quarrel", desk.letter(0), 0);
        CHECK.same("letter(1) with a quarrel", desk.letter(1), 0);
        CHECK.same("out(0) with a quarrel", desk.out(0), -1);
        CHECK.same("part(1) with a quarrel", desk.part(1), -1);
        desk.fact(0, 1);
        CHECK.same("there", Desks.make(desk, 0), "1 a");
    }

    private static void barred() {
        CHECK.same("the first that bars, its first", made("clause a at 9 when 1 ; says ; "
                + "clause b at 8 when 1 ; bars d ; bars c ; bars a ; says ; clause c at 1 when 1 ; bars a ; says ; "
                + "clause d at 1 when 0 ; says ;"), "2: 1 2");
        CHECK.same("not itself", made("clause a at 9 when 1 ; bars a ; says x ;"), "1 x");
        CHECK.same("itself, then another", made("clause a at 9 when 1 ; bars a ; bars b ; says x ; "
                + "clause b at 1 when 1 ; says ;"), "2: 0 1");
        CHECK.same("one not in it bars nothing", made("clause a at 9 when 0 ; bars b ; says x ; "
                + "clause b at 1 when 1 ; says y ;"), "1 y");
        CHECK.same("needed and barred", made("clause a at 9 when 1 ; needs b ; bars b ; says x ; "
                + "clause b at 1 when 0 ; says y ;"), "2: 0 1");
    }

    private static void badReference() {
        CHECK.same("the first that refers, its first", made("clause a at 9 when 0 ; says ref b ; "
                + "clause b at 9 when 1 ; says ref c ref b ref d ref a ; clause c at 0 when 1 ; says ref a ; "
                + "clause d at 0 when 0 ; says ;"), "3: 1 3");
        CHECK.same("the first clause refers", made("clause a at 9 when 1 ; says ref b ; "
                + "clause b at 9 when 0 ; says ;"), "3: 0 1");
        CHECK.same("to itself", made("clause a at 9 when 1 ; says ref a ;"), "1 1");
    }

    private static void empty() {
        CHECK.same("no clauses", made(""), "4: -1 -1");
        CHECK.same("none in it", made("clause a at 1 when 0 ; needs a ; bars a ; says ref a ;"), "4: -1 -1");
        LetterDesk desk = Desks.with("");
        desk.make(0);
        CHECK.same("letter(0)", desk.letter(0), 0);
        CHECK.same("letter(1)", desk.letter(1), 0);
    }

    private static void whichQuarrelFirst() {
        String tail = "clause b at 1 when 1 ; bars c ; says ref d ; clause c at 1 when 1 ; says ; clause d at 1 when 0 ; says ;";
        CHECK.same("1 ahead of 2", made("clause a at 1 must when 0 ; says ; " + tail), "1: 0 -1");
        CHECK.same("1 ahead of 4", made("clause a at 1 must when 0 ; says ;"), "1: 0 -1");
        CHECK.same("2 ahead of 3", made("clause a at 1 when 1 ; says ref d ; " + tail), "2: 1 2");
    }

    private static void wrongAsks() {
        LetterDesk desk = Desks.with("clause a at 1 when 1 ; says x ;");
        for (int day : new int[] {-1, 10000, Integer.MIN_VALUE, Integer.MAX_VALUE}) {
            CHECK.same("make(" + day + ")", desk.make(day), -1);
        }
        CHECK.same("letter(0) ahead of any", desk.letter(0), -1);
        CHECK.same("letter(1) ahead of any", desk.letter(1), -1);
        CHECK.same("make(9999)", desk.make(9999), 0);
        CHECK.same("make(10000)", desk.make(10000), -1);
        CHECK.same("the letter made ahead stays", Desks.printed(desk), "1 x");
        CHECK.same("letter(-1)", desk.letter(-1), -1);
        CHECK.same("letter(4)", desk.letter(4), -1);
        CHECK.same("letter(MAX)", desk.letter(Integer.MAX_VALUE), -1);
    }

    /** A letter once made is not touched by what comes behind it, but for the next make. */
    private static void latestStays() {
        LetterDesk desk = Desks.with("fact k 0 to 3 ; clause a at 1 when 1 ; says = k day 1 ;",
                "fact k 0 to 3 ; clause b at 1 when k ; says other ; clause c at 2 must when k ; says ;");
        desk.take(0);
        CHECK.same("made", Desks.make(desk, 0), "1 0 1");
        desk.fact(0, 2);
        desk.free(1, true);
        desk.take(1);
        desk.judge(1, 0);
        desk.changed(0, 1, 3, 0);
        Desks.edition(desk, 9, "");
        CHECK.same("as it was", Desks.printed(desk), "1 0 1");
        CHECK.same("its parts", desk.letter(1), 1);
        CHECK.same("its clause", desk.part(1), 0);
        desk.take(1);
        CHECK.same("a quarrel now", Desks.make(desk, 0), "1: 1 -1");
        CHECK.same("no part now", desk.part(1), -1);
        desk.world(3);
        CHECK.same("and none with other facts", Desks.make(desk, 0), "1 other 2");
        CHECK.same("the quarrel is gone", desk.letter(2), -1);
    }

    private static void longLetters() {
        StringBuilder text = new StringBuilder();
        StringBuilder due = new StringBuilder();
        for (int c = 0; c < 9; c++) {
            text.append("clause ").append((char) ('a' + c)).append(" at 1when 1;says");
            due.append(c == 0 ? "" : " ").append(c + 1);
            for (int n = 0; n < 20; n++) {
                text.append(" abcdefghij");
                due.append(" abcdefghij");
            }
            text.append(";");
        }
        CHECK.same("a text that fits the tape", text.length() <= 2400, true);
        CHECK.same("a long letter", made(text.toString()), due.toString());
        StringBuilder days = new StringBuilder();
        StringBuilder dueDays = new StringBuilder();
        for (int c = 0; c < 12; c++) {
            days.append("clause ").append((char) ('a' + c)).append(" at 1when 1;says ").append("day9999".repeat(20)).append(";");
            dueDays.append(c == 0 ? "" : " ").append(c + 1).append(" 9999".repeat(20));
        }
        CHECK.same("a text of days that fits the tape", days.length() <= 2400, true);
        CHECK.same("a letter full of days", made(days.toString()), dueDays.toString());
    }
}
