/** What is a token, and what is none. */
final class TokenEdges {
    private final Edges edges;

    TokenEdges(Edges edges) {
        this.edges = edges;
    }

    void run() {
        asLongAsCanBe();
        blanks();
        words();
        numbers();
        signs();
        none();
    }

    private static int edition(LetterDesk desk, String text) {
        return Desks.edition(desk, 0, text);
    }

    private void asLongAsCanBe() {
        edges.words("TOKENS, each as long as can be,");
        edges.reads("fact factfact 0 to 1 ;");
        edges.faults(1, "^factfact a 0 to 1 ;");
        edges.faults(1, "^facta 0 to 1 ;");
        edges.faults(1, "fact a 0 ^toto 1 ;");
        LetterDesk desk = new LetterDesk();
        edges.inside("two digits side by side", edition(desk, "fact a 10 to 11 ;"), 0);
        edges.inside("are one number", desk.told(0, 0), 10);
        edges.faults(1, "fact a 1 ^0 to 11 ;");
        edges.faults(4, "fact a ^100 to 11 ;");
        edges.makes("clause a at 1 when 1 ; says reff refa ;", "1 reff refa");
        edges.faults(2, "clause a at 1 when 1 ; says ref ^f ;");
    }

    private void blanks() {
        edges.words("blanks (10, 32) between where one likes:");
        edges.reads("fact a0to1;fact b0to1;clause c at1when(a+b)<2;says=a;");
        edges.reads("\n \n fact \n a \n 0 \n to \n 1 \n ; \n \n ");
        edges.reads("\nfact\na\n0\nto\n1\n;\n");
        edges.reads(" \n");
        edges.faults(1, "^fa ct a 0 to 1 ;");
        edges.faults(1, "^fa\nct a 0 to 1 ;");
        edges.faults(1, "fact a 0 to 1 ^1 ;");
        edges.faults(1, "fact a 0 to 1\n^1 ;");
        edges.faults(1, "fact a ^b 0 to 1 ;");
        edges.makes("clause a at 1 when 1 ; says a\n\n b  \n c ;", "1 a b c");
    }

    private void words() {
        edges.words("WORDS (letters a .. z, 1 to 10),");
        for (String word : new String[] {"a", "z", "az", "abcdefghi", "abcdefghij", "zzzzzzzzzz", "qrstuvwxyz", "klmnop"}) {
            edges.makes("fact " + word + " 3 to 4 ; clause " + word + " at 1 when 1 ; says " + word + " = " + word
                    + " ref " + word + " ;", "1 " + word + " 3 1");
        }
        edges.faults(1, "fact ^abcdefghijk 0 to 1 ;");
        edges.faults(1, "fact ^zzzzzzzzzzz 0 to 1 ;");
        edges.faults(1, "fact ^` 0 to 1 ;");
        edges.faults(1, "fact ^{ 0 to 1 ;");
        edges.faults(1, "fact ^A 0 to 1 ;");
        edges.faults(1, "fact ^Z 0 to 1 ;");
        edges.faults(1, "fact ^@ 0 to 1 ;");
        edges.faults(1, "fact ^[ 0 to 1 ;");
        edges.faults(1, "fact a^` 0 to 1 ;");
        edges.faults(1, "fact z^{ 0 to 1 ;");
        edges.faults(1, "fact a^A 0 to 1 ;");
        edges.faults(1, "^Fact a 0 to 1 ;");
        edges.faults(1, "^FACT a 0 to 1 ;");
        edges.reads("fact abcdefghij 0 to 1 ; fact abcdefghii 0 to 1 ; fact bbcdefghij 0 to 1 ; fact abcdefghi 0 to 1 ;");
        edges.faults(3, "fact abcdefghij 0 to 1 ; fact ^abcdefghij 0 to 1 ;");
    }

    private void numbers() {
        edges.words("NUMBERS (1 to 4 digits; a letter may stand right behind),");
        edges.makes("clause a at 1 when 1 ; says = 0 a = 9 b = 10 c = 999 d = 1000 e = 9999 f = 0000 g = 0009 ;",
                "1 0 a 9 b 10 c 999 d 1000 e 9999 f 0 g 9");
        edges.faults(1, "clause a at 1 when 1 ; says = ^00000 ;");
        edges.faults(1, "clause a at 1 when 1 ; says = ^10000 ;");
        edges.faults(1, "clause a at 1 when 1 ; says = 1^/ ;");
        edges.faults(1, "clause a at 1 when 1 ; says = 1^: ;");
        edges.faults(1, "clause a at 1 when 1 ; says = ^/ ;");
        edges.faults(1, "clause a at 1 when 1 ; says = ^: ;");
        edges.makes("clause a at 1when 1;says=1a=9999b day0c;", "1 1 a 9999 b 0 c");
        edges.makes("clause a at 1must when 1;says=1ref a;", "1 1 1");
        edges.faults(1, "clause a at 1 when 1 ; says = ^12345a ;");
        edges.faults(1, "clause a at 1 when 1 ; says = 1234 ^5 ;");
        edges.reads("fact a1to2;");
        edges.faults(1, "fact ^1a to 2 ;");
    }

    private void signs() {
        edges.words("the signs ( ) < = + - and the semicolon.");
        edges.makes("clause a at 1 when(1+1-1)<2;says=(1=1);", "1 1");
        for (char sign = 33; sign < 127; sign++) {
            boolean other = !Character.isLetterOrDigit(sign) && "()<=+-;^".indexOf(sign) < 0;
            if (other) {
                edges.faults(1, "clause a at 1 when 1 ; says x ^" + sign + " ;");
                edges.faults(1, "^" + sign);
                edges.faults(1, "clause a at 1 when 1 ^" + sign + " 1 ; says ;");
                edges.faults(1, "clause a at 1 when 1 ; says x^" + sign + "y ;");
            }
        }
        for (String sign : new String[] {"+", "-", "<", "="}) {
            edges.reads("clause a at 1 when 1" + sign + "1 ; says ;");
            edges.faults(1, "clause a at 1 when 1" + sign + "^" + sign + "1 ; says ;");
        }
        edges.faults(1, "clause a at 1 when 1 <^= 1 ; says ;");
        edges.faults(1, "clause a at 1 when ^[ 1 ] ; says ;");
    }

    private void none() {
        edges.words("All else (a longer WORD or NUMBER, too, at its first sign) is none.");
        edges.makes("clause a at 1 when 1 ; says abcdefghij = 1234 ;", "1 abcdefghij 1234");
        edges.faults(1, "clause a at 1 when 1 ; says ^abcdefghijk ;");
        edges.faults(1, "clause a at 1 when 1 ; says ^abcdefghijabcdefghij ;");
        edges.faults(1, "clause a at 1 when 1 ; says = ^12345 ;");
        edges.faults(1, "clause a at 1 when 1 ; says = ^12341234 ;");
        edges.faults(1, "^factfactfact");
        edges.faults(1, "^" + "a".repeat(2400));
        edges.faults(1, "^" + "1".repeat(2400));
        edges.faults(1, "fact a ^" + "0".repeat(2393));
        // Numbers so long that they wrap around to a small one.
        edges.faults(1, "fact a ^4294967296 to 1 ;");
        edges.faults(1, "fact a 0 to ^4294967297 ;");
        edges.faults(1, "fact a 0 to ^18446744073709551617 ;");
        edges.faults(1, "^aaaaaaaaaaaaaaaafact a 0 to 1 ;");
        edges.faults(1, "fact a 0 to 1 ^~ ;");
        edges.faults(1, "^~");
    }
}
