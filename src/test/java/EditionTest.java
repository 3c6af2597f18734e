/** Promise 3: edition, with its faults, each told by the token that is wrong. */
public final class EditionTest {
    private static final Check CHECK = new Check("EditionTest");
    private static final String CLAUSE = "clause a at 1 when 1 ; says ;";

    public static void main(String[] args) {
        rightTexts();
        tokens();
        factFaults();
        clauseFaults();
        toldNames();
        formulaFaults();
        limits();
        days();
        afterFault();
        CHECK.finish();
    }

    /** The wrong token stands behind the sign ^, which is not fed. */
    private static void wrong(int kind, String marked) {
        int place = marked.indexOf('^');
        String text = marked.substring(0, place) + marked.substring(place + 1);
        CHECK.same(marked, Desks.edition(new LetterDesk(), 0, text), kind + 16 * place);
    }

    private static void right(String text) {
        CHECK.same(text, Desks.edition(new LetterDesk(), 0, text), 0);
    }

    private static String head(String rest) {
        return "clause a at 1 when 1 ; " + rest;
    }

    private static void rightTexts() {
        right("");
        right(" \n ");
        right("fact a 0 to 99 ; fact b 3 to 3 ;");
        right(CLAUSE);
        right("clause a at 99 must when 0 ; needs a ; needs a ; bars a ; says a ref a = 1 day 2 ;");
        right("fact a 0 to 1 ; clause a at 0 when a ; says a = a ref a ;");
        right(head("says = 1 = 2 = 3 = 4 = 5 < 6 x ;"));
        wrong(1, head("says = 1 = 2 = 3 = 4 ^< 5 x ;"));
        right("clause a at 1 when ( ( ( ( 1 ) ) ) ) ; says ;");
    }

    private static void tokens() {
        right("clause\na\nat\n1when(1)<2+3-4;says=1=2day3x;");
        right("fact a0to1;clause b at1when a=a;says;");
        right("fact abcdefghij 0000 to 0099 ;");
        wrong(1, "fact ^abcdefghijk 0 to 1 ;");
        wrong(1, "fact a ^00000 to 1 ;");
        wrong(1, "fact a 0 to ^12345 ;");
        wrong(1, "^Fact a 0 to 1 ;");
        wrong(1, "fact ^A 0 to 1 ;");
        wrong(1, "fact a 0 to 1 ^: ;");
        wrong(1, "fact a 0 to 1 ^, ;");
        wrong(1, "fact a^_b 0 to 1 ;");
        wrong(1, "^facta 0 to 1 ;");
        wrong(1, "fact a1^b 0 to 1;");
        wrong(1, "^~");
        wrong(1, head("says a ^{ ;"));
    }

    private static void factFaults() {
        wrong(1, "^;");
        wrong(1, "fact^");
        wrong(1, "fact  ^");
        wrong(1, "fact ^day 0 to 1 ;");
        wrong(1, "fact ^1 to 1 ;");
        wrong(1, "fact a ^to 1 ;");
        wrong(1, "fact a 0 ^1 ;");
        wrong(1, "fact a 0 to ^b ;");
        wrong(1, "fact a 0 to 1 ^fact");
        wrong(1, "fact a 0 to 1^");
        wrong(1, "fact a 0 to 1 ; ^;");
        wrong(3, "fact a 0 to 1 ; fact ^a ;");
        wrong(4, "fact a ^100 to 1 ;");
        wrong(4, "fact a 0 to ^100 ;");
        wrong(4, "fact a 5 to ^4 ;");
        wrong(4, "fact z 0 to 99 ; fact y 0 to 19 ; fact a 5 to ^4 ;");
        wrong(4, "fact z 0 to 99 ; fact y 0 to 19 ; fact a 5 to ^100 ;");
        wrong(5, "fact z 0 to 99 ; fact y 0 to 19 ; fact a 5 to ^6 ;");
        right("fact z 0 to 99 ; fact y 0 to 19 ; fact a 5 to 5 ;");
        wrong(5, "fact z 0 to 99 ; fact y 0 to ^20 ;");
        for (String word : "fact to clause at must when needs bars says ref day".split(" ")) {
            wrong(1, "fact ^" + word + " 0 to 1 ;");
            wrong(1, "clause ^" + word + " at 1 when 1 ; says ;");
        }
    }

    private static void clauseFaults() {
        wrong(1, "clause ^; at 1 when 1 ; says ;");
        wrong(1, "clause a ^1 when 1 ; says ;");
        wrong(1, "clause a at ^when 1 ; says ;");
        wrong(1, "clause a at 1 ^1 ; says ;");
        wrong(1, "clause a at 1 must ^must when 1 ; says ;");
        wrong(1, "clause a at 1 when 1 ^must ; says ;");
        wrong(1, "clause a at 1 when 1 ^says ;");
        wrong(1, head("^;"));
        wrong(1, head("needs ^; says ;"));
        wrong(1, head("needs ^must ; says ;"));
        wrong(1, head("needs a ^says ;"));
        wrong(1, head("bars a ; ^needs a ; says ;"));
        wrong(1, head("says ^needs a ;"));
        wrong(1, head("says ^1 ;"));
        wrong(1, head("says ^( 1 ) ;"));
        wrong(1, head("says ref ^ref ;"));
        wrong(1, head("says ref ^1 ;"));
        wrong(1, head("says day ^; ;"));
        wrong(1, head("says x^"));
        wrong(1, CLAUSE + " ^says ;");
        wrong(1, CLAUSE + " ^fact b 0 to 1 ;");
        wrong(4, "clause a at ^100 when 1 ; says ;");
        wrong(3, CLAUSE + " clause ^a at 1 when 1 ; says ;");
    }

    private static void toldNames() {
        right("clause a at 1 when 1 ; needs b ; bars b ; says ref b ; clause b at 1 when 1 ; says ;");
        wrong(2, head("needs ^b ; says ;"));
        wrong(2, head("needs a ; bars ^b ; says ;"));
        wrong(2, head("says ref ^b ;"));
        wrong(2, "fact b 0 to 1 ; " + head("says ref ^b ;"));
        wrong(2, head("says b ref ^b ;"));
        // What tells a clause is the word clause right ahead, even where nothing is right.
        wrong(1, head("needs b ; says ^clause b"));
        wrong(1, head("needs b ; ^* 12345clause b"));
        wrong(2, head("needs ^b ; says ; clause * b"));
        wrong(2, head("needs ^b ; says ; clause 1 b"));
        wrong(2, head("needs ^b ; says ; clauseb"));
        wrong(2, head("needs ^b ; says ; abcdefghijclause b"));
        wrong(1, head("needs b ; ^clause clause b"));
        wrong(2, "clause a at 1 when ^a ; says ;");
        wrong(2, "fact b 0 to 1 ; clause a at 1 when b + ^a ; says ;");
        wrong(2, "fact b 0 to 1 ; " + head("says = b day ^c ;"));
    }

    private static void formulaFaults() {
        wrong(1, "clause a at 1 when ^; says ;");
        wrong(1, "clause a at 1 when ^- 1 ; says ;");
        wrong(1, "clause a at 1 when ( ^) ; says ;");
        wrong(1, "clause a at 1 when ( 1 ^; says ;");
        wrong(1, "clause a at 1 when 1 ^) ; says ;");
        wrong(1, "clause a at 1 when 1 ^1 ; says ;");
        wrong(1, "clause a at 1 when 1 + ^+ 1 ; says ;");
        wrong(1, "clause a at 1 when 1 < ^; says ;");
        wrong(1, "clause a at 1 when 1 < 2 ^< 3 ; says ;");
        wrong(1, "clause a at 1 when 1 = 2 ^= 3 ; says ;");
        wrong(1, "clause a at 1 when ( 1 = 2 ^< 3 ) ; says ;");
        right("clause a at 1 when ( 1 = 2 ) < ( 3 = 4 ) ; says ;");
        wrong(1, "clause a at 1 when ^must ; says ;");
        wrong(1, head("says = 1 < 2 ^< 3 ;"));
        wrong(1, head("says = ^ref ;"));
        wrong(5, "clause a at 1 when ( ( ( ( ( ^1 ) ) ) ) ) ; says ;");
        wrong(5, "clause a at 1 when ( ( ( ( ( ^( 1 ; says ;");
        wrong(2, "clause a at 1 when ( ( ( ( ( ^x ; says ;");
        wrong(1, "clause a at 1 when ( ( ( ( ( ^) ; says ;");
        wrong(5, head("says = 1 - ( ( 2 ) + ( ( ( ( ^3"));
        right("clause a at 1 when ( ( ( ( 1 ) ) ) ) + ( ( ( ( 1 ) ) ) ) ; says ;");
    }

    private static void limits() {
        right("clause a at 1 when 1" + "+1".repeat(1186) + ";says;");
        wrong(1, "clause ^clause " + "clause ".repeat(340));
        StringBuilder facts = new StringBuilder();
        for (char name = 'a'; name <= 'h'; name++) {
            facts.append("fact ").append(name).append(" 0 to 1 ; ");
        }
        right(facts.toString());
        wrong(2, facts + "clause a at 1 when h + ^i ; says ;");
        wrong(5, facts + "^fact i 0 to 0 ;");
        wrong(5, facts + "^fact a");
        StringBuilder clauses = new StringBuilder();
        for (char name = 'a'; name <= 'l'; name++) {
            clauses.append("clause ").append(name).append(" at 1 when 1 ; says ; ");
        }
        right(clauses.toString());
        wrong(5, clauses + "^clause m at 1 when 1 ; says ;");
        wrong(5, clauses + "^clause");
        right(head("needs a ; ".repeat(8) + "says ;"));
        right(head("bars a ; ".repeat(8) + "says ;"));
        right(head("needs a ; ".repeat(3) + "bars a ; ".repeat(5) + "says ;"));
        wrong(5, head("needs a ; ".repeat(8) + "^needs x"));
        wrong(5, head("bars a ; ".repeat(8) + "^bars"));
        wrong(1, head("bars a ; ".repeat(8) + "^needs"));
        wrong(5, head("needs a ; ".repeat(3) + "bars a ; ".repeat(5) + "^bars a ;"));
        right(head("says " + "a ".repeat(20) + ";"));
        right(head("says " + "= 1 = 1 ".repeat(20) + ";"));
        for (String item : new String[] {"a", "ref a", "ref", "day 1", "= 1"}) {
            wrong(5, head("says " + "a ".repeat(20) + "^" + item + " ;"));
        }
        wrong(5, head("says " + "= 1 = 1 ".repeat(20) + "^= 1 ;"));
        wrong(1, head("says " + "a ".repeat(20) + "^must ;"));
        wrong(1, head("says " + "a ".repeat(20) + "^1 ;"));
    }

    private static void days() {
        LetterDesk desk = new LetterDesk();
        for (int day : new int[] {-1, 10000, Integer.MIN_VALUE, Integer.MAX_VALUE}) {
            Desks.feed(desk, CLAUSE);
            CHECK.same("edition(" + day + ")", desk.edition(day), -1);
            CHECK.same("the tape is empty then, too", desk.count(1), 0);
        }
        CHECK.same("edition(0)", Desks.edition(desk, 0, CLAUSE), 0);
        CHECK.same("edition(0) again", Desks.edition(desk, 0, CLAUSE), -1);
        CHECK.same("-1 goes ahead of a fault", Desks.edition(desk, 0, "?"), -1);
        CHECK.same("count(1)", desk.count(1), 0);
        CHECK.same("edition(7)", Desks.edition(desk, 7, CLAUSE), 0);
        CHECK.same("edition(6)", Desks.edition(desk, 6, CLAUSE), -1);
        CHECK.same("edition(8)", Desks.edition(desk, 8, CLAUSE), 0);
        CHECK.same("edition(9)", Desks.edition(desk, 9, CLAUSE), 0);
        CHECK.same("edition(9998)", Desks.edition(desk, 9998, ""), 0);
        CHECK.same("edition(9999)", Desks.edition(desk, 9999, ""), 0);
        CHECK.same("count(0)", desk.count(0), 6);

        LetterDesk six = Desks.with("", "", "", "", "", "");
        CHECK.same("a seventh", Desks.edition(six, 100, CLAUSE), -1);
        CHECK.same("the tape of a seventh", six.count(1), 0);
        CHECK.same("the sixth is in hand", six.look(0), 5);
    }

    private static void afterFault() {
        LetterDesk desk = Desks.with("fact a 2 to 4 ; clause a at 1 when 1 ; says = a ;");
        desk.fact(0, 3);
        CHECK.same("a faulty text", Desks.edition(desk, 5, "fact"), 1 + 16 * 4);
        CHECK.same("the tape was taken", desk.count(1), 0);
        CHECK.same("no edition came", desk.count(0), 1);
        CHECK.same("the old one is in hand", desk.look(0), 0);
        CHECK.same("a word at the end", Desks.edition(desk, 5, "facts"), 1);
        CHECK.same("a shorter one behind it", Desks.edition(desk, 5, "fact"), 1 + 16 * 4);
        CHECK.same("a number at the end", Desks.edition(desk, 5, "fact a 9 to 19"), 1 + 16 * 14);
        CHECK.same("a shorter number behind it", Desks.edition(desk, 5, "fact a 9 to 1"), 4 + 16 * 12);
        CHECK.same("a word at a full tape's end", Desks.edition(desk, 5, " ".repeat(2396) + "fact"), 1 + 16 * 2400);
        CHECK.same("a number there", Desks.edition(desk, 5, "fact a" + " ".repeat(2390) + "9999"), 4 + 16 * 2396);
        CHECK.same("a full tape of blanks", Desks.edition(desk, 5, " ".repeat(2399) + "?"), 1 + 16 * 2399);
        CHECK.same("with its case", desk.told(0, 2), 3);
        CHECK.same("the day is still to be had", Desks.edition(desk, 5, "fact b 1 to 9 ;"), 0);
        CHECK.same("the new one is in hand", desk.look(0), 1);
        CHECK.same("with its least", desk.told(0, 2), 1);
    }
}
