/** What may stand where in an edition's text. */
final class GrammarEdges {
    private static final String[] RESERVED = {
        "fact", "to", "clause", "at", "must", "when", "needs", "bars", "says", "ref", "day"};

    private final Edges edges;

    GrammarEdges(Edges edges) {
        this.edges = edges;
    }

    void run() {
        edition();
        fact();
        clause();
        item();
        formula();
        sum();
        part();
        leftOutAndMore();
        names();
        namesOfTheirOwn();
        clausesMeant();
        toldByTheWord();
    }

    /** A clause up to what comes behind its condition. */
    private static String head(String rest) {
        return "clause a at 1 when 1 ; " + rest;
    }

    private static String when(String formula) {
        return "clause a at 1 when " + formula + " ; says ;";
    }

    private static String says(String items) {
        return head("says " + items + " ;");
    }

    private void edition() {
        edges.words("EDITION: { FACT } { CLAUSE }.");
        edges.reads("");
        edges.reads(" ");
        edges.reads("fact a 0 to 1 ;");
        edges.reads(says(""));
        edges.reads("fact a 0 to 1 ; fact b 0 to 1 ; " + says("") + " clause b at 1 when 1 ; says ;");
        edges.faults(1, says("") + " ^fact a 0 to 1 ;");
        edges.faults(1, "fact a 0 to 1 ; " + says("") + " ^fact b 0 to 1 ;");
        for (String other : new String[] {"a", "1", ";", "to", "at", "must", "when", "needs", "bars", "says", "ref",
                "day", "="}) {
            edges.faults(1, "^" + other);
            edges.faults(1, "fact a 0 to 1 ; ^" + other);
            edges.faults(1, says("") + " ^" + other);
        }
    }

    private void fact() {
        edges.words("FACT: fact NAME N to N ;");
        edges.reads("fact a 0 to 1 ;");
        for (String marked : new String[] {"^a 0 to 1 ;", "fact ^0 to 1 ;", "fact a ^to 1 ;", "fact a 0 ^1 ;",
            "fact a 0 to ^;", "fact a 0 to 1^", "fact ^fact a 0 to 1 ;", "fact a ^a 0 to 1 ;", "fact a 0 ^0 to 1 ;",
            "fact a 0 to ^to 1 ;", "fact a 0 to 1 ^1 ;", "fact a 0 to 1 ; ^;", "fact a 0 to 1 ^fact b 0 to 1 ;",
            "fact^", "fact a^", "fact a 0^", "fact a 0 to^", "fact a ^( 0 ) to 1 ;", "fact a ^- 1 to 1 ;",
            "fact a 0 to ^a ;", "fact a 0 to 1 ^+ 1 ;"}) {
            edges.faults(1, marked);
        }
    }

    private void clause() {
        edges.words("CLAUSE: clause NAME at N [ must ] when E ; { needs NAME ; } { bars NAME ; } says { ITEM } ;");
        edges.reads("clause a at 1 when 1 ; says ;");
        edges.reads("clause a at 1 must when 1 ; needs a ; needs a ; bars a ; bars a ; says a a ;");
        for (String marked : new String[] {"^a at 1 when 1 ; says ;", "clause ^at 1 when 1 ; says ;",
            "clause a ^1 when 1 ; says ;", "clause a at ^when 1 ; says ;", "clause a at ^must when 1 ; says ;",
            "clause a at 1 ^1 ; says ;", "clause a at 1 must ^1 ; says ;", "clause a at 1 when ^; says ;",
            "clause a at 1 when 1 ^says ;", "clause a at 1 when 1 ^needs a ; says ;", "clause a at 1 when 1 ; ^;",
            "clause a at 1 when 1 ; ^a ;", "clause a at 1 when 1 ; needs ^; says ;",
            "clause a at 1 when 1 ; needs a ^says ;", "clause a at 1 when 1 ; needs a ^needs a ; says ;",
            "clause a at 1 when 1 ; needs a ^a ; says ;", "clause a at 1 when 1 ; bars ^; says ;",
            "clause a at 1 when 1 ; bars a ^says ;", "clause a at 1 when 1 ; bars a ; ^needs a ; says ;",
            "clause a at 1 when 1 ; needs a ; bars a ; ^needs a ; says ;", "clause a at 1 when 1 ; needs a ; ^;",
            "clause a at 1 when 1 ; says^", "clause a at 1 when 1 ; says a^", "clause a at 1 when 1 ; says ^says ;",
            "clause a at 1 when 1 ; says ; ^;", "clause a at 1 when 1 ; says ^needs a ;",
            "clause a at 1 when 1 ; says ; ^needs a ;", "clause a at 1 must ^must when 1 ; says ;",
            "clause a ^must at 1 when 1 ; says ;", "clause a at 1 when ^must 1 ; says ;",
            "clause a at 1 when 1 ^must ; says ;", "clause a at ^( 1 ) when 1 ; says ;", "clause ^1 at 1 when 1 ; says ;",
            "clause a at ^a when 1 ; says ;", "clause a at 1 ^at 1 when 1 ; says ;", "clause a at 1 when ^when 1 ; says ;",
            "clause^", "clause a^", "clause a at^", "clause a at 1^", "clause a at 1 must^", "clause a at 1 when^",
            "clause a at 1 when 1^", "clause a at 1 when 1 ;^", "clause a at 1 when 1 ; needs^",
            "clause a at 1 when 1 ; needs a^", "clause a at 1 when 1 ; needs a ;^", "clause a at 1 when 1 ; bars^",
            "clause a at 1 when 1 ; bars a^", "clause a at 1 when 1 ; bars a ;^"}) {
            edges.faults(1, marked);
        }
    }

    private void item() {
        edges.words("ITEM: NAME (a word that is printed), = E, ref NAME, day E.");
        edges.makes(says("b"), "1 b");
        edges.makes(says("= 7"), "1 7");
        edges.makes(says("ref a"), "1 1");
        edges.makes(says("day 1"), "1 1");
        edges.makes(says(""), "1");
        edges.makes(says("a = 2 ref a day 3 b"), "1 a 2 1 3 b");
        for (String other : new String[] {"1", "(", ")", "<", "+", "-", "to", "at", "must", "when", "says", "fact"}) {
            edges.faults(1, says("^" + other));
            edges.faults(1, says("x ^" + other));
        }
        edges.faults(1, says("= ^"));
        edges.faults(1, says("ref ^"));
        edges.faults(1, says("day ^"));
        edges.faults(1, says("ref ^= 1"));
        edges.faults(1, says("ref ^1"));
        edges.faults(1, says("= ^= 1"));
        edges.faults(1, says("day ^ref a"));
        edges.faults(1, says("= ^day 1"));
        edges.faults(2, says("= ^x"));
        edges.faults(2, says("day ^x"));
        edges.faults(2, says("ref ^x"));
    }

    private void formula() {
        edges.words("E: SUM [ < SUM or = SUM ].");
        edges.makes(says("= 1 = 2 = 1 < 2 = 2 = 2 = 2 < 2 = 1 + 1 < 3"), "1 0 1 1 0 1");
        edges.reads(when("1"));
        edges.reads(when("1 < 2"));
        edges.reads(when("1 = 2"));
        edges.reads(when("( 1 < 2 ) < 3"));
        edges.reads(when("1 = ( 2 = 3 )"));
        edges.faults(1, when("1 < 2 ^< 3"));
        edges.faults(1, when("1 < 2 ^= 3"));
        edges.faults(1, when("1 = 2 ^< 3"));
        edges.faults(1, when("1 = 2 ^= 3"));
        edges.faults(1, when("( 1 = 2 ^= 3 )"));
        edges.faults(1, when("1 = ( 1 < 2 ) + 1 ^< 3"));
        edges.faults(1, says("= 1 < 2 ^< 3"));
        edges.faults(1, says("day 1 = 2 = 1 < 2 ^< 3"));
        edges.faults(1, when("^< 1"));
        edges.faults(1, when("1 < ^"));
        edges.faults(1, when("1 = ^"));
        edges.faults(1, when("^"));
    }

    private void sum() {
        edges.words("SUM: PART { + or - PART }.");
        edges.makes(says("= 9 x = 9 - 3 x = 9 - 3 - 2 x = 9 - 3 + 2 x = 1 + 2 + 3 + 4 x = 0 - 1"),
                "1 9 x 6 x 4 x 8 x 10 x -1");
        edges.faults(1, says("= ^- 1"));
        edges.faults(1, says("= ^+ 1"));
        edges.faults(1, says("= 1 + ^"));
        edges.faults(1, says("= 1 - ^"));
        edges.faults(1, says("= 1 + ^- 1"));
        edges.faults(1, says("= 1 - ^< 1"));
        edges.faults(1, says("= 1 ^1"));
        edges.faults(1, says("= 1 ^( 1 )"));
        edges.faults(1, says("= ( 1 ) ^( 1 )"));
    }

    private void part() {
        edges.words("PART: N, a FACT's NAME, ( E ); 5 within one another.");
        edges.makes("fact k 7 to 8 ; " + says("= 3 x = k x = ( k = 7 )"), "1 3 x 7 x 1");
        edges.makes(says("= 1"), "1 1");
        edges.makes(says("= ( ( ( ( 1 ) ) ) )"), "1 1");
        edges.makes(says("= 1 - ( 2 - ( 3 - ( 4 - ( 5 - 6 ) ) ) )"), "1 -3");
        edges.makes(says("= ( ( ( ( 1 ) ) ) ) - ( ( ( ( 3 ) ) ) ) = 0 - 2"), "1 1");
        // As much as can be left open: a comparison and a sum on each level.
        edges.makes(says("= 0 = 1 + ( 2 = 3 + ( 4 = 5 + ( 6 = 7 + ( 8 = 3 + 4 ) ) ) )"), "1 0");
        edges.makes(says("= 2 = 1 + ( 4 = 3 + ( 6 = 5 + ( 8 = 7 + ( 9 = 4 + 5 ) ) ) )"), "1 1");
        edges.makes(says("= 2 < 3 - ( 4 < 5 - ( 6 < 7 - ( 8 < 9 - ( 9 < 4 + 6 ) ) ) )"), "1 1");
        edges.faults(5, says("= ( ( ( ( ( ^1 ) ) ) ) )"));
        edges.faults(5, "fact k 7 to 8 ; " + says("= ( ( ( ( ( ^k ) ) ) ) )"));
        edges.faults(5, says("= ( ( ( ( ( ^( 1 ) ) ) ) ) )"));
        edges.faults(5, says("= 1 - ( 2 - ( 3 - ( 4 - ( 5 - ( ^6 ) ) ) ) )"));
        edges.faults(5, when("1 < ( 1 < ( 1 < ( 1 < ( 1 < ( ^1 ) ) ) ) )"));
        edges.faults(1, says("= ( ^)"));
        edges.faults(1, says("= ( 1 ^"));
        edges.faults(1, says("= 1 ^)"));
        edges.faults(1, says("= ( 1 ) ^)"));
        edges.faults(1, says("= ( ( 1 ) ^"));
        edges.faults(1, says("= ( ^;"));
        edges.faults(1, says("= ( 1 ^x )"));
    }

    private void leftOutAndMore() {
        edges.words("(What stands in [ ] may be left out, { } are for \"any more\".)");
        edges.reads("clause a at 1 when 1 ; says ;");
        edges.reads("clause a at 1 must when 1 < 1 ; says ;");
        edges.faults(1, "clause a at 1 must ^must when 1 ; says ;");
        edges.faults(1, "clause a at 1 when 1 < 1 ^< 1 ; says ;");
        for (int more = 0; more <= 4; more++) {
            edges.reads(head("needs a ; ".repeat(more) + "bars a ; ".repeat(more) + "says " + "x ".repeat(5 * more) + ";"));
            edges.reads(when("1" + " + 1".repeat(more * 100)));
        }
        edges.faults(1, head("^needless a ; says ;"));
    }

    private void names() {
        edges.words("A NAME is another WORD than: fact to clause at must when needs bars says ref day.");
        for (String word : RESERVED) {
            edges.faults(1, "fact ^" + word + " 0 to 1 ;");
            edges.faults(1, "clause ^" + word + " at 1 when 1 ; says ;");
            edges.faults(1, when("^" + word));
            edges.faults(1, head("needs ^" + word + " ; says ;"));
            edges.faults(1, head("bars ^" + word + " ; says ;"));
            edges.faults(1, says("ref ^" + word));
            boolean otherItem = word.equals("ref") || word.equals("day");
            edges.faults(1, otherItem ? says("x " + word + " ^") : says("x ^" + word));
            nameReads(word + "s");
            nameReads("a" + word);
            nameReads(word.substring(1));
            nameReads(word.substring(0, word.length() - 1));
        }
    }

    private void nameReads(String name) {
        edges.makes("fact " + name + " 2 to 3 ; clause " + name + " at 1 when " + name + " ; needs " + name + " ; bars "
                + name + " ; says " + name + " ref " + name + " = " + name + " ;", "1 " + name + " 1 2");
    }

    private void namesOfTheirOwn() {
        edges.words("FACTS have NAMES of their own, CLAUSES, too, apart from those.");
        edges.reads("fact a 0 to 1 ; fact b 0 to 1 ; clause c at 1 when 1 ; says ; clause d at 1 when 1 ; says ;");
        edges.faults(3, "fact a 0 to 1 ; fact ^a 0 to 1 ;");
        edges.faults(3, "fact a 0 to 1 ; fact b 0 to 1 ; fact ^a 0 to 1 ;");
        edges.faults(3, says("") + " clause ^a at 1 when 1 ; says ;");
        edges.faults(3, says("") + " clause b at 1 when 1 ; says ; clause ^a at 1 when 1 ; says ;");
        edges.makes("fact a 5 to 6 ; clause a at 1 when a ; says a = a ref a ;", "1 a 5 1");
        edges.reads(says("a b") + " clause b at 1 when 1 ; says a b ;");
    }

    private void clausesMeant() {
        edges.words("needs, bars, ref: a CLAUSE of this EDITION, wherever it stands");
        String b = " clause b at 1 when 0 ; says b ;";
        edges.makes(head("needs b ; says a ref b ;") + b, "1 a 2 2 b");
        edges.makes(b + head("needs b ; says a ref b ;"), "1 b 2 a 1");
        edges.makes(head("needs a ; bars a ; says a ref a ;"), "1 a 1");
        edges.makes(head("bars b ; says a ;") + " clause b at 1 when 1 ; says ;", "2: 0 1");
        edges.faults(2, head("needs ^b ; says ;"));
        edges.faults(2, head("bars ^b ; says ;"));
        edges.faults(2, says("ref ^b"));
        edges.faults(2, "fact b 0 to 1 ; " + head("needs ^b ; says ;"));
        edges.faults(2, "fact b 0 to 1 ; " + head("bars ^b ; says ;"));
        edges.faults(2, "fact b 0 to 1 ; " + says("ref ^b"));
        edges.faults(2, says("b ref ^b"));
        edges.faults(2, head("needs ^aa ; says ;"));
        LetterDesk desk = Desks.with(head("says ;"));
        edges.outside("a clause of the edition ahead", Desks.edition(desk, 5,
                "clause b at 1 when 1 ; needs a ; says ;"), 2 + 16 * 29);
    }

    private void toldByTheWord() {
        edges.words("(any WORD right behind the word clause is told as one).");
        // Told: what is wrong stands further on.
        edges.faults(1, head("needs b ; says ; clause b^"));
        edges.faults(1, head("needs b ; says ^clause b ;"));
        edges.faults(1, head("bars b ; ^clause b ;"));
        edges.faults(1, says("ref b ^( clause b"));
        edges.faults(1, head("needs b ; says ; ^? clause b"));
        edges.faults(1, head("needs b ; says ; ^clauseclause clause b"));
        edges.faults(1, head("needs b ; says ; ^12345clause b"));
        edges.faults(1, head("needs b ; says ; clause ^clause b"));
        edges.faults(3, head("needs a ; says ; clause ^a"));
        edges.inside("told by the last two words of a full tape",
                Desks.edition(new LetterDesk(), 0, head("needs b ; says ; ") + " ".repeat(2352) + "clause b"), 1
                        + 16 * 2400);
        edges.faults(1, head("needs b ; says ^" + "clause ".repeat(337) + "b"));
        edges.faults(2, head("needs ^b ; says " + "clause ".repeat(337) + "c"));
        // Not told: not a word, or not right behind.
        edges.faults(2, head("needs ^b ; says ; clause"));
        edges.faults(2, head("needs ^b ; says ; clause ; b"));
        edges.faults(2, head("needs ^b ; says ; clause 1 b"));
        edges.faults(2, head("needs ^b ; says ; clause ? b"));
        edges.faults(2, head("needs ^b ; says ; clause abcdefghijk b"));
        edges.faults(2, head("needs ^b ; says ; clause c b"));
        edges.faults(2, head("needs ^b ; says ; clauses b"));
        edges.faults(2, head("needs ^b ; says ; clauseb"));
        edges.faults(2, head("needs ^b ; says ; clause bb"));
        edges.faults(2, head("needs ^b ; says ; b clause"));
        edges.faults(2, head("needs ^b ; says ; fact b"));
        edges.faults(2, head("needs ^b ; says ; Clause b"));
    }
}
