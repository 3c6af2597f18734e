/** Promises 1, 2 and 18: a new object, feed, count. */
public final class TapeTest {
    private static final Check CHECK = new Check("TapeTest");

    public static void main(String[] args) {
        newObject();
        order();
        signs();
        fullTape();
        counts();
        CHECK.finish();
    }

    private static void newObject() {
        LetterDesk desk = new LetterDesk();
        CHECK.same("NONE", LetterDesk.NONE, -1);
        for (int what = -1; what <= 6; what++) {
            CHECK.same("new: look(" + what + ")", desk.look(what), -1);
            CHECK.same("new: letter(" + what + ")", desk.letter(what), -1);
        }
        CHECK.same("new: count(0)", desk.count(0), 0);
        CHECK.same("new: count(1)", desk.count(1), 0);
        CHECK.same("new: count(2)", desk.count(2), 0);
        CHECK.same("new: take(0)", desk.take(0), false);
        CHECK.same("new: inForce(9999)", desk.inForce(9999), -1);
        CHECK.same("new: fact(0, 0)", desk.fact(0, 0), false);
        CHECK.same("new: world(0)", desk.world(0), false);
        CHECK.same("new: make(0)", desk.make(0), -1);
        CHECK.same("new: out(0)", desk.out(0), -1);
        CHECK.same("new: part(1)", desk.part(1), -1);
        CHECK.same("new: judge(1, 0)", desk.judge(1, 0), -1);
        CHECK.same("new: judge(4, 1)", desk.judge(4, 1), -1);
        CHECK.same("new: changed(0, 0, 0, 0)", desk.changed(0, 0, 0, 0), -1);
        CHECK.toldThrows(desk, 0, 0);
    }

    /** The highest byte of a comes first: only so is this text right. */
    private static void order() {
        LetterDesk desk = new LetterDesk();
        long a = Desks.pack("clause a", 0);
        long b = Desks.pack(" at 0 wh", 0);
        long c = Desks.pack("en 1;say", 0);
        CHECK.same("feed of 24", desk.feed(a, b, c), 24);
        CHECK.same("feed behind it", desk.feed(0x73L << 56, 0x20L << 40, 0x78203bL), 24 + 5);
        CHECK.same("edition of what was fed", desk.edition(0), 0);
        CHECK.same("its letter", Desks.make(desk, 0), "1 x");
    }

    private static void signs() {
        for (int sign = 0; sign < 256; sign++) {
            LetterDesk desk = new LetterDesk();
            boolean fits = sign == 10 || sign >= 32 && sign <= 126;
            long packed = (long) sign << 56 | (long) sign << 24 | sign;
            CHECK.same("feed of sign " + sign, desk.feed(packed, 0, packed), fits ? 6 : 0);
            CHECK.same("count(1) of sign " + sign, desk.count(1), fits ? 6 : 0);
        }
        CHECK.same("feed of zeros", new LetterDesk().feed(0, 0, 0), 0);
        CHECK.same("feed of -1", new LetterDesk().feed(-1, -1, -1), 0);
    }

    private static void fullTape() {
        LetterDesk desk = new LetterDesk();
        CHECK.same("2399 blanks", Desks.feed(desk, " ".repeat(2399)), 2399);
        CHECK.same("one sign fits, the others do not", Desks.feed(desk, ";xxxxxxxxxxxxxxxxxxxxxxx"), 2400);
        CHECK.same("none fits", Desks.feed(desk, "x"), 2400);
        CHECK.same("count(1) of a full tape", desk.count(1), 2400);
        CHECK.same("the last sign that fits is the semicolon", desk.edition(0), 1 + 16 * 2399);
        CHECK.same("the tape was taken", desk.count(1), 0);
        CHECK.same("the tape begins anew", Desks.feed(desk, "fact"), 4);
    }

    private static void counts() {
        LetterDesk desk = Desks.with("", " ");
        desk.free(3, true);
        desk.free(5, true);
        desk.free(6, true);
        desk.free(3, false);
        Desks.feed(desk, "abc");
        CHECK.same("count(0)", desk.count(0), 2);
        CHECK.same("count(1)", desk.count(1), 3);
        CHECK.same("count(2)", desk.count(2), 2);
        CHECK.same("count(3)", desk.count(3), -1);
        CHECK.same("count(-1)", desk.count(-1), -1);
        CHECK.same("count(MAX)", desk.count(Integer.MAX_VALUE), -1);
        CHECK.same("count(MIN)", desk.count(Integer.MIN_VALUE), -1);
    }
}
