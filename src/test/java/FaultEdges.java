/** Which fault is told of a wrong text, and of which token. */
final class FaultEdges {
    private final Edges edges;

    FaultEdges(Edges edges) {
        this.edges = edges;
    }

    void run() {
        place();
        firstAndLeast();
        cannotStand();
        notTold();
        toldAhead();
        wrongNumber();
        tooManyWords();
        tooManyItems();
        tooManyWorlds();
        tooDeep();
    }

    private static String head(String rest) {
        return "clause a at 1 when 1 ; " + rest;
    }

    private static int fault(String text) {
        return Desks.edition(new LetterDesk(), 0, text);
    }

    private void place() {
        edges.words("FAULTS, kind + 16 * the place (from 0) of a token, the end being one at the text's length:");
        edges.inside("the first place", fault(";"), 1);
        edges.inside("the second place", fault(" ;"), 1 + 16);
        edges.inside("the last place of the longest text", fault(" ".repeat(2399) + ";"), 1 + 16 * 2399);
        edges.inside("the end of the shortest text that has none", fault("fact"), 1 + 16 * 4);
        edges.inside("the end behind blanks", fault("fact \n "), 1 + 16 * 7);
        edges.inside("the end of the longest text", fault("fact" + " ".repeat(2396)), 1 + 16 * 2400);
        edges.inside("a token's first sign", fault("fact   abcdefghijkl 0 to 1 ;"), 1 + 16 * 7);
        edges.inside("kind 5 far on", fault(" ".repeat(2370) + "fact a 0 to 99;fact b 0 to 99;"), 5 + 16 * 2397);
        edges.outside("no fault", fault("fact a 0 to 1 ;"), 0);
        edges.outside("no fault in an empty text", fault(""), 0);
        edges.outside("nor in one of blanks", fault(" ".repeat(2400)), 0);
    }

    private void firstAndLeast() {
        edges.words("of the first token from the left that is wrong the least:");
        edges.reads("fact a 0 to 1 ;");
        edges.faults(4, "fact a ^100 to 100 ; ;");
        edges.faults(5, "fact a 0 to 99 ; fact b 0 to ^99 ; fact a ?");
        edges.faults(3, "fact a 0 to 1 ; fact ^a 100 to 100 ;");
        edges.faults(1, "fact ^100 100 to 100 ;");
        edges.faults(2, "clause a at 1 when ^x + y ; says ?");
        edges.faults(5, head("needs a ; ".repeat(8) + "^needs x ?"));
        edges.faults(5, head("says " + "x ".repeat(20) + "^ref x ;"));
        // One token, wrong in two ways.
        edges.faults(4, "fact a 0 to 99 ; fact b 0 to ^100 ;");
        edges.faults(4, "fact a 0 to 99 ; fact b 0 to 19 ; fact c 9 to ^8 ;");
        edges.faults(2, "clause a at 1 when ( ( ( ( ( ^x ) ) ) ) ) ; says ;");
        edges.faults(1, "clause a at 1 when ( ( ( ( ( ^to ) ) ) ) ) ; says ;");
        edges.faults(1, "clause a at 1 when ( ( ( ( ( ^) ) ) ) ) ; says ;");
        edges.faults(1, "clause a at 1 when ( ( ( ( ( ^12345 ) ) ) ) ) ; says ;");
        edges.faults(1, head("bars a ; ".repeat(8) + "^needs a ; says ;"));
        edges.faults(1, head("says " + "x ".repeat(20) + "^must ;"));
        edges.faults(1, head("says " + "x ".repeat(20) + "^abcdefghijk ;"));
        edges.faults(1, LimitEdges.facts(8, "0 to 1") + head("says ; ^fact i 0 to 1 ;"));
        edges.faults(1, LimitEdges.clauses(12, "says ;") + "^fact i 0 to 1 ;");
        edges.faults(1, LimitEdges.clauses(11, "says ;") + head("says ^clause x at 1 when 1 ; says ;"));
    }

    private void cannotStand() {
        edges.words("1 it is none, or can't stand there;");
        edges.reads(head("says x ;"));
        edges.faults(1, head("says ^* ;"));
        edges.faults(1, head("says ^1 ;"));
        edges.faults(1, head("says x^"));
        edges.faults(1, "^x");
        edges.faults(1, "fact ^; 0 to 1 ;");
        edges.faults(1, "clause a at 1 when 1 ^x ; says ;");
    }

    private void notTold() {
        edges.words("2 a NAME that is not told (of a FACT in E: ahead of it; of a CLAUSE);");
        edges.makes("fact k 3 to 4 ; clause a at 1 when k ; says = k day k ;", "1 3 3");
        edges.faults(2, "fact k 3 to 4 ; clause a at 1 when ^l ; says ;");
        edges.faults(2, "fact k 3 to 4 ; clause a at 1 when k + ( 1 - ^l ) ; says ;");
        edges.faults(2, "fact k 3 to 4 ; " + head("says = ^l ;"));
        edges.faults(2, "fact k 3 to 4 ; " + head("says day ^l ;"));
        edges.faults(2, "fact k 3 to 4 ; " + head("says day k + ^kk ;"));
        edges.faults(2, "clause a at 1 when ^a ; says ;");
        edges.reads(LimitEdges.facts(8, "0 to 1") + "clause a at 1 when fh ; says ;");
        edges.faults(2, LimitEdges.facts(8, "0 to 1") + "clause a at 1 when ^fi ; says ;");
        edges.faults(2, "clause a at 1 when ^b ; says ; fact b 0 to 1 ;");
        edges.faults(2, "clause a at 1 when ^b ; says ; clause b at 1 when 1 ; says ;");
        edges.reads(head("needs b ; bars b ; says ref b ; clause b at 1 when 1 ; says ;"));
        edges.faults(2, head("needs ^c ; bars b ; says ref b ; clause b at 1 when 1 ; says ;"));
        edges.faults(2, head("needs b ; bars ^c ; says ref b ; clause b at 1 when 1 ; says ;"));
        edges.faults(2, head("needs b ; bars b ; says ref ^c ; clause b at 1 when 1 ; says ;"));
        edges.reads(head("says b ;"));
        LetterDesk desk = Desks.with("fact k 3 to 4 ;");
        edges.outside("a fact of the edition ahead", Desks.edition(desk, 1, "clause a at 1 when k ; says ;"), 2 + 16 * 19);
    }

    private void toldAhead() {
        edges.words("3 a FACT's, CLAUSE's NAME that is, ahead of it;");
        edges.reads("fact a 0 to 1 ; fact aa 0 to 1 ;");
        edges.faults(3, "fact a 0 to 1 ; fact ^a 0 to 1 ;");
        edges.faults(3, LimitEdges.facts(7, "0 to 1") + "fact ^fa 0 to 1 ;");
        edges.faults(3, LimitEdges.facts(7, "0 to 1") + "fact ^fg 0 to 1 ;");
        edges.reads(head("says ; clause aa at 1 when 1 ; says ;"));
        edges.faults(3, head("says ; clause ^a at 1 when 1 ; says ;"));
        edges.faults(3, LimitEdges.clauses(11, "says ;") + "clause ^ca at 1 when 1 ; says ;");
        edges.faults(3, LimitEdges.clauses(11, "says ;") + "clause ^ck at 1 when 1 ; says ;");
        // The first of two is not wrong by the second; what names it ahead is not, either.
        edges.faults(3, head("needs b ; says ref b ; clause b at 1 when 1 ; says ; clause ^b at 1 when 1 ; says ;"));
        LetterDesk desk = Desks.with("fact a 0 to 1 ; clause a at 1 when 1 ; says ;");
        edges.inside("names of the edition ahead are free again",
                Desks.edition(desk, 1, "fact a 0 to 1 ; clause a at 1 when 1 ; says ;"), 0);
    }

    private void wrongNumber() {
        edges.words("4 a NUMBER that is not as told;");
        edges.reads("fact a 99 to 99 ; clause a at 99 when 9999 ; says = 9999 day 9999 ;");
        edges.faults(4, "fact a ^100 to 99 ;");
        edges.faults(4, "fact a 0 to ^100 ;");
        edges.faults(4, "fact a 99 to ^98 ;");
        edges.faults(4, "clause a at ^100 when 1 ; says ;");
        edges.faults(1, "clause a at 99 when ^10000 ; says ;");
    }

    private void tooManyWords() {
        edges.words("5 one too many: the words fact, clause, needs, bars;");
        edges.reads(LimitEdges.facts(8, "0 to 1"));
        edges.faults(5, LimitEdges.facts(8, "0 to 1") + "^fact fa 100 to 0");
        edges.faults(5, LimitEdges.facts(8, "0 to 1") + "^fact");
        edges.reads(LimitEdges.clauses(12, "says ;"));
        edges.faults(5, LimitEdges.clauses(12, "says ;") + "^clause ca at 100");
        edges.faults(5, LimitEdges.clauses(12, "says ;") + "^clause");
        edges.reads(head("needs a ; ".repeat(8) + "says ;"));
        edges.faults(5, head("needs a ; ".repeat(8) + "^needs"));
        edges.reads(head("needs a ; ".repeat(7) + "bars a ; says ;"));
        edges.faults(5, head("needs a ; ".repeat(8) + "^bars"));
        edges.faults(5, head("bars a ; ".repeat(8) + "^bars x"));
    }

    private void tooManyItems() {
        edges.words("an ITEM's first token;");
        edges.reads(head("says " + "x ".repeat(20) + ";"));
        for (String item : new String[] {"x", "=", "ref", "day", "= 1", "ref x", "day x"}) {
            edges.faults(5, head("says " + "x ".repeat(20) + "^" + item + " ;"));
        }
        edges.faults(2, head("says " + "x ".repeat(19) + "ref ^x ;"));
        edges.faults(1, head("says " + "x ".repeat(19) + "= ^;"));
        edges.faults(1, head("says " + "x ".repeat(20) + "^1 ;"));
        edges.faults(1, head("says " + "x ".repeat(20) + "^"));
    }

    private void tooManyWorlds() {
        edges.words("a FACT's second NUMBER with which there are more than 2000 worlds;");
        edges.reads("fact a 0 to 99 ; fact b 1 to 20 ;");
        edges.faults(5, "fact a 0 to 99 ; fact b 1 to ^21 ;");
        edges.faults(5, "fact a 0 to 99 ; fact b 0 to ^20");
        edges.faults(1, "fact a 0 to 99 ; fact b 0 ^20");
        edges.faults(5, "fact a 0 to 99 ; fact b 0 to 19 ; fact c 0 to 0 ; fact d 0 to ^1 ;");
        edges.reads(LimitEdges.facts(7, "0 to 1") + "fact x 0 to 14 ;");
        edges.faults(5, LimitEdges.facts(7, "0 to 1") + "fact x 0 to ^15 ;");
    }

    private void tooDeep() {
        edges.words("a PART within 5 others.");
        edges.reads("clause a at 1 when ( ( ( ( 1 ) ) ) ) ; says day ( ( ( ( 1 ) ) ) ) = ( ( ( ( 1 ) ) ) ) ;");
        edges.faults(5, "clause a at 1 when ( ( ( ( ( ^1");
        edges.faults(5, "clause a at 1 when ( ( ( ( ( ^(");
        edges.faults(5, "clause a at 1 when 1 + ( 1 + ( 1 + ( 1 + ( 1 + ( ^1");
        edges.faults(5, "clause a at 1 when ( ( 1 ) + ( ( 1 ) + ( ( 1 + ( ^1");
        edges.faults(5, head("says = ( ( ( ( ( ^1 ;"));
        edges.faults(5, head("says day ( ( ( ( ( ^1 ;"));
        edges.faults(1, "clause a at 1 when ( ( ( ( 1 ) ) ) ^; says ;");
        edges.reads("clause a at 1 when ( ( ( ( 1 ) ) ) + ( ( ( 1 ) ) ) ) + ( ( ( ( 1 ) ) ) ) ; says ;");
    }
}
