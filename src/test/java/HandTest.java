/** Promises 4 to 7, 16 and 17: take, inForce, fact, world, look, told. */
public final class HandTest {
    private static final Check CHECK = new Check("HandTest");
    private static final String THREE = "fact a 0 to 3 ; fact b 5 to 5 ; fact c 7 to 9 ; clause x at 1 when 1 ; says ;";
    private static final String ONE = "fact k 10 to 11 ;";

    public static void main(String[] args) {
        take();
        inForce();
        fact();
        world();
        look();
        told();
        CHECK.finish();
    }

    private static void take() {
        LetterDesk desk = Desks.with(THREE, ONE);
        CHECK.same("the latest is in hand", desk.look(0), 1);
        CHECK.same("take(0)", desk.take(0), true);
        CHECK.same("0 is in hand", desk.look(0), 0);
        desk.world(7);
        for (int wrong : new int[] {-1, 2, 6, Integer.MAX_VALUE, Integer.MIN_VALUE}) {
            CHECK.same("take(" + wrong + ")", desk.take(wrong), false);
            CHECK.same("0 is still in hand", desk.look(0), 0);
            CHECK.same("and its case", desk.look(5), 7);
        }
        LetterDesk six = Desks.with("", "", "", "", "", "");
        CHECK.same("take(5) of six", six.take(5), true);
        CHECK.same("take(6) of six", six.take(6), false);
        CHECK.same("inForce(9999) of six", six.inForce(9999), 5);
        CHECK.same("take(0) again", desk.take(0), true);
        CHECK.same("the case is at its least", desk.look(5), 0);
        CHECK.same("take(1)", desk.take(1), true);
        CHECK.same("its least", desk.told(0, 2), 10);
    }

    private static void inForce() {
        LetterDesk desk = new LetterDesk();
        Desks.edition(desk, 3, THREE);
        Desks.edition(desk, 8, ONE);
        Desks.edition(desk, 9999, THREE);
        int[][] due = {{3, 0}, {7, 0}, {8, 1}, {9998, 1}, {9999, 2}};
        for (int[] row : due) {
            CHECK.same("inForce(" + row[0] + ")", desk.inForce(row[0]), row[1]);
            CHECK.same("in hand by it", desk.look(0), row[1]);
        }
        desk.world(4);
        for (int wrong : new int[] {2, 0, -1, 10000, Integer.MIN_VALUE, Integer.MAX_VALUE}) {
            CHECK.same("inForce(" + wrong + ")", desk.inForce(wrong), -1);
            CHECK.same("in hand as before", desk.look(0), 2);
            CHECK.same("the case as before", desk.look(5), 4);
        }
        CHECK.same("inForce(9999)", desk.inForce(9999), 2);
        CHECK.same("the case at its least", desk.look(5), 0);
    }

    private static void fact() {
        LetterDesk desk = Desks.with(THREE);
        CHECK.same("fact(0, 3)", desk.fact(0, 3), true);
        CHECK.same("fact(0, 3) again", desk.fact(0, 3), true);
        CHECK.same("fact(1, 5)", desk.fact(1, 5), true);
        CHECK.same("fact(2, 8)", desk.fact(2, 8), true);
        int[][] wrong = {{0, -1}, {0, 4}, {1, 4}, {1, 6}, {2, 6}, {2, 10}, {-1, 0}, {3, 0},
            {8, 0}, {Integer.MAX_VALUE, 0}, {Integer.MIN_VALUE, 0}, {0, Integer.MAX_VALUE}, {0, Integer.MIN_VALUE}};
        for (int[] row : wrong) {
            CHECK.same("fact(" + row[0] + ", " + row[1] + ")", desk.fact(row[0], row[1]), false);
        }
        CHECK.same("told(0, 2)", desk.told(0, 2), 3);
        CHECK.same("told(1, 2)", desk.told(1, 2), 5);
        CHECK.same("told(2, 2)", desk.told(2, 2), 8);
        CHECK.same("look(5)", desk.look(5), 10);
    }

    private static void world() {
        LetterDesk desk = Desks.with(THREE);
        for (int w = 0; w < 12; w++) {
            CHECK.same("world(" + w + ")", desk.world(w), true);
            CHECK.same("first fact of " + w, desk.told(0, 2), w / 3);
            CHECK.same("second fact of " + w, desk.told(1, 2), 5);
            CHECK.same("last fact of " + w, desk.told(2, 2), 7 + w % 3);
            CHECK.same("look(5) of " + w, desk.look(5), w);
        }
        for (int wrong : new int[] {-1, 12, 2000, Integer.MAX_VALUE, Integer.MIN_VALUE}) {
            CHECK.same("world(" + wrong + ")", desk.world(wrong), false);
            CHECK.same("the case stays", desk.look(5), 11);
        }
        LetterDesk bare = Desks.with("");
        CHECK.same("world(0) without facts", bare.world(0), true);
        CHECK.same("world(1) without facts", bare.world(1), false);
        LetterDesk wide = Desks.with("fact a 0 to 99 ; fact b 0 to 19 ;");
        CHECK.same("world(1999)", wide.world(1999), true);
        CHECK.same("world(2000)", wide.world(2000), false);
        CHECK.same("look(3) of 2000 worlds", wide.look(3), 2000);
    }

    private static void look() {
        LetterDesk desk = new LetterDesk();
        Desks.edition(desk, 4, "");
        Desks.edition(desk, 17, THREE);
        desk.world(5);
        int[] due = {1, 3, 1, 12, 17, 5};
        for (int what = 0; what < due.length; what++) {
            CHECK.same("look(" + what + ")", desk.look(what), due[what]);
        }
        CHECK.same("look(6)", desk.look(6), -1);
        CHECK.same("look(-1)", desk.look(-1), -1);
        CHECK.same("look(MIN)", desk.look(Integer.MIN_VALUE), -1);
        desk.take(0);
        int[] bare = {0, 0, 0, 1, 4, 0};
        for (int what = 0; what < bare.length; what++) {
            CHECK.same("bare look(" + what + ")", desk.look(what), bare[what]);
        }
    }

    private static void told() {
        LetterDesk desk = Desks.with(ONE, THREE);
        desk.fact(2, 8);
        int[][] due = {{0, 3, 0}, {5, 5, 5}, {7, 9, 8}};
        for (int k = 0; k < 3; k++) {
            for (int what = 0; what < 3; what++) {
                CHECK.same("told(" + k + ", " + what + ")", desk.told(k, what), due[k][what]);
            }
            CHECK.toldThrows(desk, k, -1);
            CHECK.toldThrows(desk, k, 3);
        }
        for (int k : new int[] {-1, 3, 7, 8, Integer.MAX_VALUE, Integer.MIN_VALUE}) {
            CHECK.toldThrows(desk, k, 0);
        }
        desk.take(0);
        CHECK.same("told of the other edition", desk.told(0, 1), 11);
        CHECK.toldThrows(desk, 1, 0);
        CHECK.toldThrows(new LetterDesk(), 0, 2);
    }
}
