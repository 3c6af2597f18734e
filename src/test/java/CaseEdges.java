/** A case's numbers and worlds, and promises 6, 7 and 17: fact, world, told. */
final class CaseEdges {
    private static final String THREE = "fact a 0 to 3 ; fact b 5 to 5 ; fact c 7 to 99 ; clause x at 1 when 1 ; says = a = b x ;";

    private final Edges edges;

    CaseEdges(Edges edges) {
        this.edges = edges;
    }

    void run() {
        numbers();
        worlds();
        fact();
        factRefused();
        world();
        worldRefused();
        told();
        toldNot();
    }

    private static String numbers(LetterDesk desk) {
        StringBuilder numbers = new StringBuilder();
        for (int k = 0; k < desk.look(1); k++) {
            numbers.append(k == 0 ? "" : " ").append(desk.told(k, 2));
        }
        return numbers.toString();
    }

    private static LetterDesk moved() {
        LetterDesk desk = Desks.with("", THREE);
        desk.fact(0, 3);
        desk.fact(2, 99);
        return desk;
    }

    private void numbers() {
        edges.words("A CASE: a number for each FACT of the EDITION, within its own"
                + " (its least at first, whenever an EDITION is taken in hand), and a day.");
        LetterDesk desk = Desks.with("", THREE);
        edges.inside("a new edition", numbers(desk), "0 5 7");
        edges.inside("its world", desk.look(5), 0);
        desk = moved();
        edges.inside("the greatest of each", numbers(desk), "3 5 99");
        edges.inside("taken once more", desk.take(1), true);
        edges.inside("has its least", numbers(desk), "0 5 7");
        desk = moved();
        edges.inside("in force", desk.inForce(1), 1);
        edges.inside("has its least then, too", numbers(desk), "0 5 7");
        desk = moved();
        desk.take(0);
        edges.inside("another has no numbers", numbers(desk), "");
        desk.take(1);
        edges.inside("and back", numbers(desk), "0 5 7");
        desk = moved();
        edges.outside("take of none", desk.take(2), false);
        edges.outside("inForce of no day", desk.inForce(10000), -1);
        edges.outside("edition with a fault", Desks.edition(desk, 5, "?"), 1);
        edges.outside("edition on no day", Desks.edition(desk, 0, ""), -1);
        edges.outside("a number below its own", desk.fact(0, -1), false);
        edges.outside("a number above its own", desk.fact(2, 100), false);
        edges.outside("leave the case", numbers(desk), "3 5 99");
        edges.inside("the first day", desk.make(0), 0);
        edges.inside("the last day", desk.make(9999), 0);
        edges.outside("no day", desk.make(10000), -1);
    }

    private void worlds() {
        edges.words("WORLDS are numbered from 0: the last FACT's numbers run fastest.");
        LetterDesk desk = Desks.with(THREE);
        int[] worlds = {0, 1, 91, 92, 93, 94, 185, 186, 278, 279, 371};
        String[] due = {"0 5 7", "0 5 8", "0 5 98", "0 5 99", "1 5 7", "1 5 8", "1 5 99", "2 5 7", "2 5 99", "3 5 7",
                "3 5 99"};
        for (int i = 0; i < worlds.length; i++) {
            edges.inside("world(" + worlds[i] + ")", desk.world(worlds[i]), true);
            edges.inside("numbers of world " + worlds[i], numbers(desk), due[i]);
            edges.inside("look(5) of it", desk.look(5), worlds[i]);
        }
        edges.outside("one beyond the last", desk.world(372), false);
        edges.outside("one ahead of 0", desk.world(-1), false);
        LetterDesk eight = Desks.with(LimitEdges.facts(8, "4 to 5"));
        eight.world(1);
        edges.inside("world 1 of eight facts", numbers(eight), "4 4 4 4 4 4 4 5");
        eight.world(127);
        edges.inside("world 127 of eight facts", numbers(eight), "4 5 5 5 5 5 5 5");
        eight.world(128);
        edges.inside("world 128 of eight facts", numbers(eight), "5 4 4 4 4 4 4 4");
        eight.world(255);
        edges.inside("the last of eight facts", numbers(eight), "5 5 5 5 5 5 5 5");
        edges.outside("one more", eight.world(256), false);
    }

    private void fact() {
        edges.words("A FACT's number: true;");
        LetterDesk desk = Desks.with(THREE);
        int[][] inside = {{0, 0}, {0, 3}, {0, 1}, {1, 5}, {2, 7}, {2, 99}, {2, 99}};
        for (int[] row : inside) {
            edges.inside("fact(" + row[0] + ", " + row[1] + ")", desk.fact(row[0], row[1]), true);
            edges.inside("told of it", desk.told(row[0], 2), row[1]);
        }
        edges.inside("the others stay", numbers(desk), "1 5 99");
        edges.inside("the world", desk.look(5), 93 + 92);
        edges.inside("its letter", Desks.make(desk, 0), "1 0 x");
        edges.outside("one above", desk.fact(0, 4), false);
        edges.outside("nothing came of it", numbers(desk), "1 5 99");
    }

    private void factRefused() {
        edges.words("false: none in hand, no such FACT, another number.");
        edges.outside("none in hand", new LetterDesk().fact(0, 0), false);
        LetterDesk desk = Desks.with(THREE);
        edges.inside("the first fact", desk.fact(0, 3), true);
        edges.inside("the last fact", desk.fact(2, 8), true);
        for (int k : new int[] {-1, 3, 8, Integer.MIN_VALUE, Integer.MAX_VALUE}) {
            edges.outside("fact " + k, desk.fact(k, 7), false);
            edges.outside("fact " + k + " with 0", desk.fact(k, 0), false);
        }
        int[][] other = {{0, -1}, {0, 4}, {1, 4}, {1, 6}, {1, 0}, {2, 6}, {2, 100}, {0, Integer.MIN_VALUE},
            {0, Integer.MAX_VALUE}, {2, Integer.MIN_VALUE}, {2, Integer.MAX_VALUE}, {0, 256}};
        for (int[] row : other) {
            edges.outside("fact(" + row[0] + ", " + row[1] + ")", desk.fact(row[0], row[1]), false);
        }
        edges.outside("the case stays", numbers(desk), "3 5 8");
        edges.outside("no fact at all", Desks.with("").fact(0, 0), false);
        LetterDesk smaller = Desks.with(THREE, "fact a 0 to 1 ;");
        edges.outside("a fact of the other edition", smaller.fact(1, 5), false);
        LetterDesk eight = Desks.with(LimitEdges.facts(8, "0 to 1"));
        edges.inside("the eighth", eight.fact(7, 1), true);
        edges.outside("a ninth", eight.fact(8, 1), false);
    }

    private void world() {
        edges.words("All FACTS are those of a world: true;");
        LetterDesk desk = Desks.with(THREE);
        desk.fact(2, 50);
        edges.inside("world(0)", desk.world(0), true);
        edges.inside("all at their least", numbers(desk), "0 5 7");
        edges.inside("world(371)", desk.world(371), true);
        edges.inside("all at their greatest", numbers(desk), "3 5 99");
        edges.inside("the same again", desk.world(371), true);
        edges.outside("world(372)", desk.world(372), false);
        edges.outside("all stay", numbers(desk), "3 5 99");
        LetterDesk bare = Desks.with("");
        edges.inside("the one world of no facts", bare.world(0), true);
        edges.outside("no other", bare.world(1), false);
    }

    private void worldRefused() {
        edges.words("false: none in hand, no such world.");
        edges.outside("none in hand", new LetterDesk().world(0), false);
        LetterDesk desk = Desks.with("fact a 0 to 99 ; fact b 0 to 19 ;");
        edges.inside("world(1999)", desk.world(1999), true);
        for (int w : new int[] {-1, 2000, 2001, Integer.MIN_VALUE, Integer.MAX_VALUE}) {
            edges.outside("world(" + w + ")", desk.world(w), false);
            edges.outside("the case stays", desk.look(5), 1999);
        }
        LetterDesk smaller = Desks.with("fact a 0 to 99 ;", "fact a 0 to 1 ;");
        edges.inside("world(1)", smaller.world(1), true);
        edges.outside("a world of the other edition", smaller.world(2), false);
    }

    private void told() {
        edges.words("Of the k-th FACT in hand, what 0: its least number, 1: greatest, 2: the case's.");
        LetterDesk desk = moved();
        desk.fact(2, 98);
        int[][] due = {{0, 3, 3}, {5, 5, 5}, {7, 99, 98}};
        for (int k = 0; k < 3; k++) {
            for (int what = 0; what < 3; what++) {
                edges.inside("told(" + k + ", " + what + ")", desk.told(k, what), due[k][what]);
            }
            edges.outsideToldThrows(desk, k, -1);
            edges.outsideToldThrows(desk, k, 3);
        }
        LetterDesk eight = Desks.with(LimitEdges.facts(8, "4 to 5"));
        edges.inside("told(7, 1)", eight.told(7, 1), 5);
        edges.outsideToldThrows(eight, 8, 1);
    }

    private void toldNot() {
        edges.words("NoSuchElementException: none such.");
        edges.outsideToldThrows(new LetterDesk(), 0, 0);
        edges.outsideToldThrows(Desks.with(""), 0, 0);
        LetterDesk desk = Desks.with("fact a 1 to 2 ; fact b 3 to 4 ;", "fact c 5 to 6 ;");
        edges.inside("told(0, 0)", desk.told(0, 0), 5);
        for (int k : new int[] {-1, 1, 7, 8, Integer.MIN_VALUE, Integer.MAX_VALUE}) {
            for (int what = 0; what < 3; what++) {
                edges.outsideToldThrows(desk, k, what);
            }
        }
        for (int what : new int[] {-1, 3, Integer.MIN_VALUE, Integer.MAX_VALUE}) {
            edges.outsideToldThrows(desk, 0, what);
        }
        desk.take(0);
        edges.inside("told(1, 1) of the other edition", desk.told(1, 1), 4);
        edges.outsideToldThrows(desk, 2, 1);
        edges.inside("it answers behind what it threw", desk.told(1, 0), 3);
    }
}
