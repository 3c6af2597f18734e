/** The tape, and promise 2, feed. */
final class TapeEdges {
    private final Edges edges;

    TapeEdges(Edges edges) {
        this.edges = edges;
    }

    void run() {
        length();
        signs();
        taken();
        upTo24();
        order();
        leftOut();
        howMany();
    }

    private void length() {
        edges.words("a TAPE of at most 2,400 signs");
        LetterDesk desk = new LetterDesk();
        edges.inside("2399 signs", Desks.feed(desk, " ".repeat(2399)), 2399);
        edges.inside("2400 signs", Desks.feed(desk, ";"), 2400);
        edges.outside("2401 signs", Desks.feed(desk, "?"), 2400);
        edges.outside("and 24 more", Desks.feed(desk, "?".repeat(24)), 2400);
        edges.inside("sign 2399 is read", desk.edition(0), 1 + 16 * 2399);

        Desks.feed(desk, " ".repeat(2396));
        edges.inside("a word up to the last place", Desks.feed(desk, "fact"), 2400);
        edges.outside("a letter behind it", Desks.feed(desk, "s"), 2400);
        edges.outside("the word is still fact, and ends the text", desk.edition(0), 1 + 16 * 2400);

        Desks.feed(desk, " ".repeat(2390));
        edges.outside("ten of 24 signs fit", Desks.feed(desk, "clause a at 1 when 1;says"), 2400);
        edges.outside("those are the first ten", desk.edition(0), 1 + 16 * 2399);
        edges.inside("a taken tape has room for 2400 again", Desks.feed(desk, " ".repeat(2400)), 2400);
        edges.inside("2400 blanks are an edition", desk.edition(0), 0);
        edges.inside("a right text of 2400 signs",
                Desks.edition(desk, 1, "clause a at 1 when 1" + "+1".repeat(1187) + ";says;"), 0);
        edges.inside("its sum", desk.make(0), 0);
    }

    private void signs() {
        edges.words("signs, 10 and 32 .. 126;");
        for (int sign : new int[] {10, 32, 33, 125, 126}) {
            edges.inside("sign " + sign, new LetterDesk().feed((long) sign << 56, 0, 0), 1);
        }
        for (int sign : new int[] {0, 9, 11, 13, 31, 127, 128, 10 + 128, 32 + 128, 126 + 128, 255}) {
            edges.outside("sign " + sign, new LetterDesk().feed((long) sign << 56, 0, 0), 0);
        }
        edges.inside("sign 10 parts words", Desks.edition(new LetterDesk(), 0, "fact\na 0 to 1;"), 0);
        edges.outside("sign 9 is not there to part them", Desks.edition(new LetterDesk(), 0, "fact\ta 0 to 1;"), 1);
        edges.outside("sign 13 is not, either", Desks.edition(new LetterDesk(), 0, "fact\ra 0 to 1;"), 1);
    }

    private void taken() {
        edges.words("what reads it takes it: it is empty then.");
        LetterDesk desk = new LetterDesk();
        Desks.edition(desk, 3, "fact a 0 to 1 ;");
        edges.inside("behind an edition", desk.count(1), 0);
        edges.inside("an empty text is next", desk.edition(4), 0);
        edges.inside("and has no facts", desk.look(1), 0);
        Desks.edition(desk, 5, "fact a 0 to 1 ^");
        edges.inside("behind a fault", desk.count(1), 0);
        Desks.edition(desk, 4, "fact a 0 to 1 ;");
        edges.inside("behind a day that is refused", desk.count(1), 0);

        Desks.feed(desk, "fact a ");
        desk.take(0);
        desk.inForce(3);
        desk.fact(0, 1);
        desk.world(0);
        desk.free(1, true);
        desk.make(0);
        desk.letter(0);
        desk.judge(1, 0);
        desk.changed(0, 1, 0, 0);
        desk.working(0, 1);
        edges.outside("what does not read it leaves it", desk.count(1), 7);
        edges.outside("so that more comes behind it", Desks.feed(desk, "2 to 3 ;"), 15);
        edges.outside("and both are read as one", desk.edition(9), 0);
        edges.outside("with the fact in them", desk.told(0, 0), 2);
    }

    private void upTo24() {
        edges.words("Up to 24 signs come behind the TAPE:");
        LetterDesk desk = new LetterDesk();
        edges.inside("24 signs", desk.feed(0x2020202020202020L, 0x2020202020202020L, 0x2020202020202020L), 24);
        edges.inside("23 signs behind them", desk.feed(0x2020202020202020L, 0x2020202020202020L, 0x0020202020202020L), 47);
        edges.inside("one sign", desk.feed(0, 0, 0x20L), 48);
        edges.outside("no sign", desk.feed(0, 0, 0), 48);
        edges.inside("they come behind", Desks.feed(desk, ";"), 49);
        edges.inside("and are read there", desk.edition(0), 1 + 16 * 48);
    }

    private void order() {
        edges.words("the bytes of a, b, c, of each the highest first;");
        long a = Desks.pack("fact a 0", 0);
        long b = Desks.pack(" to 1 ; ", 0);
        long c = Desks.pack("clause *", 0);
        edges.inside("a, b, c", fed(a, b, c), 1 + 16 * 23);
        edges.outside("b, a, c", fed(b, a, c), 1 + 16);
        edges.outside("a, c, b", fed(a, c, b), 1 + 16 * 8);
        edges.outside("c, b, a", fed(c, b, a), 1 + 16 * 7);
        edges.outside("the lowest first", fed(Long.reverseBytes(a), b, c), 1);
        edges.inside("blank, then a sign", fed(0x200000000000003bL, 0, 0), 1 + 16);
        edges.inside("a sign in each", fed(0x20, 0x20, 0x3bL << 56), 1 + 16 * 2);
    }

    private static int fed(long a, long b, long c) {
        LetterDesk desk = new LetterDesk();
        desk.feed(a, b, c);
        return desk.edition(0);
    }

    private void leftOut() {
        edges.words("others than 10 and 32 .. 126, and what is beyond 2,400, are left out:");
        LetterDesk desk = new LetterDesk();
        edges.outside("others within a word", Desks.feed(desk, "f\0a\177c\377t\t a 0 to 1\r;"), 14);
        edges.outside("leave no gap", desk.edition(0), 0);
        for (int sign = 0; sign < 256; sign++) {
            boolean stays = sign == 10 || sign >= 32 && sign <= 126;
            long eight = 0x0101010101010101L * sign;
            int due = stays ? 24 : 0;
            int got = new LetterDesk().feed(eight, eight, eight);
            if (stays) {
                edges.inside("24 of sign " + sign, got, due);
            } else {
                edges.outside("24 of sign " + sign, got, due);
            }
        }
        Desks.feed(desk, " ".repeat(2399));
        edges.outside("others take no place of the 2400", desk.feed(-1, -1, -1), 2399);
        edges.inside("the last place", desk.feed(0x3b3bL, 0, 0), 2400);
        edges.outside("beyond it", desk.feed(0x3b3bL, 0x3b3bL, 0x3b3bL), 2400);
    }

    private void howMany() {
        edges.words("how many there are.");
        LetterDesk desk = new LetterDesk();
        edges.outside("none", desk.feed(0, 0, 0), 0);
        edges.inside("one", Desks.feed(desk, ";"), 1);
        edges.inside("on the whole tape, not of this call alone", Desks.feed(desk, ";;"), 3);
        edges.outside("none more", desk.feed(-1, 0, -1), 3);
        desk.edition(0);
        edges.outside("none of what was taken", desk.feed(0, 0, 0), 0);
    }
}
