/** Promises 1, 3, 4, 5, 16 and 18: a new object, edition, take, inForce, look, count. */
final class FaceEdges {
    private static final String FACT = "fact k 2 to 4 ; clause a at 1 when 1 ; says = k ;";
    private static final String WIDEST = LimitEdges.facts(6, "9 to 9") + "fact x 0 to 99 ; fact y 1 to 20 ; "
            + LimitEdges.clauses(12, "says ;");

    private final Edges edges;

    FaceEdges(Edges edges) {
        this.edges = edges;
    }

    void run() {
        calls();
        none();
        newObject();
        edition();
        noSuchDay();
        notAbove();
        sixAreThere();
        take();
        inForce();
        inForceNot();
        look();
        lookNot();
        count();
        countNot();
    }

    private void calls() {
        edges.words("An object is used for at most 512 calls after it has been made; what later calls answer is free.");
        LetterDesk desk = new LetterDesk();
        desk.feed(Desks.pack(FACT, 0), Desks.pack(FACT, 8), Desks.pack(FACT, 16));
        desk.feed(Desks.pack(FACT, 24), Desks.pack(FACT, 32), Desks.pack(FACT, 40));
        desk.feed(Desks.pack(FACT, 48), 0, 0);
        edges.inside("the 4th call", desk.edition(0), 0);
        for (int call = 5; call <= 511; call++) {
            edges.inside("call " + call, desk.fact(0, 2 + call % 3), true);
        }
        edges.inside("the 512th call", desk.make(0), 0);
        // Free, but not to throw: LANGUAGE.md, rule 7.
        for (int call = 513; call <= 5000; call++) {
            desk.feed(call, 0x20, 0x20);
            desk.edition(call);
        }
        edges.outside("later calls come to an end", true, true);
    }

    private void none() {
        edges.words("The constants: `NONE = -1`: None.");
        edges.inside("NONE", LetterDesk.NONE, -1);
        edges.outside("what none answers", new LetterDesk().look(0), LetterDesk.NONE);
    }

    private void newObject() {
        edges.words("No EDITION.");
        LetterDesk desk = new LetterDesk();
        for (int what = 0; what <= 2; what++) {
            edges.inside("count(" + what + ")", desk.count(what), 0);
        }
        for (int what = 0; what <= 5; what++) {
            edges.inside("look(" + what + ")", desk.look(what), -1);
        }
        edges.inside("take(0)", desk.take(0), false);
        edges.inside("inForce(0)", desk.inForce(0), -1);
        edges.inside("inForce(9999)", desk.inForce(9999), -1);
        edges.inside("fact(0, 0)", desk.fact(0, 0), false);
        edges.inside("world(0)", desk.world(0), false);
        edges.inside("make(0)", desk.make(0), -1);
        edges.inside("judge(4, 0)", desk.judge(4, 0), -1);
        edges.inside("changed(0, 0, 0, 0)", desk.changed(0, 0, 0, 0), -1);
        edges.inside("out(0)", desk.out(0), -1);
        edges.inside("part(1)", desk.part(1), -1);
        edges.inside("no free day", desk.working(0, 9999), 7143);
        edges.outside("an edition comes", desk.edition(0), 0);
        edges.outside("and is one", desk.count(0), 1);
        edges.outside("another new object has none", new LetterDesk().count(0), 0);
    }

    private void edition() {
        edges.words("The TAPE is an EDITION, in force from a day on: 0 (it is in hand then), its FAULT;");
        LetterDesk desk = new LetterDesk();
        edges.inside("edition(5)", Desks.edition(desk, 5, FACT), 0);
        edges.inside("is in hand", desk.look(0), 0);
        edges.inside("from day 5 on", desk.look(4), 5);
        desk.fact(0, 3);
        edges.outside("a fault", Desks.edition(desk, 6, FACT + "?"), 1 + 16 * FACT.length());
        edges.outside("leaves one edition", desk.count(0), 1);
        edges.outside("which is in hand", desk.look(0), 0);
        edges.outside("with its case", desk.told(0, 2), 3);
        edges.outside("and nothing in force from day 6 on", desk.inForce(6), 0);
        edges.inside("day 6 is still to be had", Desks.edition(desk, 6, FACT), 0);
        edges.inside("the new one is in hand", desk.look(0), 1);
        edges.inside("in force from day 6 on", desk.inForce(6), 1);
        edges.inside("the other one up to day 5", desk.inForce(5), 0);
        edges.inside("an empty tape is one, too", desk.edition(7), 0);
        edges.inside("and is in hand", desk.look(0), 2);
    }

    private void noSuchDay() {
        edges.words("-1: no such day (0 .. 9999),");
        for (int day : new int[] {0, 1, 9998, 9999}) {
            LetterDesk desk = new LetterDesk();
            edges.inside("edition(" + day + ")", Desks.edition(desk, day, FACT), 0);
            edges.inside("look(4)", desk.look(4), day);
        }
        for (int day : new int[] {-1, 10000, Integer.MIN_VALUE, Integer.MAX_VALUE}) {
            LetterDesk desk = new LetterDesk();
            edges.outside("edition(" + day + ")", Desks.edition(desk, day, FACT), -1);
            edges.outside("count(0) behind it", desk.count(0), 0);
            edges.outside("count(1) behind it", desk.count(1), 0);
            edges.outside("none in hand", desk.look(0), -1);
        }
    }

    private void notAbove() {
        edges.words("one not above that of the latest,");
        LetterDesk desk = new LetterDesk();
        Desks.edition(desk, 7, FACT);
        edges.outside("the same day", Desks.edition(desk, 7, FACT), -1);
        edges.outside("the tape", desk.count(1), 0);
        edges.outside("the day ahead", Desks.edition(desk, 6, FACT), -1);
        edges.outside("day 0", Desks.edition(desk, 0, FACT), -1);
        edges.outside("one edition", desk.count(0), 1);
        edges.inside("the day behind", Desks.edition(desk, 8, FACT), 0);
        edges.outside("the day of the first", Desks.edition(desk, 7, FACT), -1);
        edges.inside("the last day", Desks.edition(desk, 9999, FACT), 0);
        edges.outside("the last day again", Desks.edition(desk, 9999, FACT), -1);
        edges.outside("no day behind", Desks.edition(desk, 10000, FACT), -1);
        desk.take(0);
        edges.outside("the latest counts, not the one in hand", Desks.edition(desk, 9998, FACT), -1);
        edges.outside("which stays", desk.look(0), 0);
    }

    private void sixAreThere() {
        edges.words("6 are there (the TAPE is empty then, too).");
        LetterDesk desk = Desks.with("", "", "", "", "");
        edges.inside("a sixth", Desks.edition(desk, 5, FACT), 0);
        desk.fact(0, 3);
        edges.outside("a seventh", Desks.edition(desk, 6, FACT), -1);
        edges.outside("its tape", desk.count(1), 0);
        edges.outside("a seventh with a fault", Desks.edition(desk, 6, "?"), -1);
        edges.outside("its tape, too", desk.count(1), 0);
        edges.outside("an empty seventh", desk.edition(9999), -1);
        edges.outside("six are there", desk.count(0), 6);
        edges.outside("the sixth is in hand", desk.look(0), 5);
        edges.outside("with its case", desk.told(0, 2), 3);
    }

    private void take() {
        edges.words("An EDITION is taken in hand: true; false: none such.");
        LetterDesk desk = Desks.with(FACT, "", FACT);
        for (int edition = 0; edition < 3; edition++) {
            edges.inside("take(" + edition + ")", desk.take(edition), true);
            edges.inside("look(0)", desk.look(0), edition);
            edges.inside("look(1)", desk.look(1), edition == 1 ? 0 : 1);
        }
        edges.inside("the same again", desk.take(2), true);
        desk.fact(0, 4);
        for (int edition : new int[] {-1, 3, 5, 6, Integer.MIN_VALUE, Integer.MAX_VALUE}) {
            edges.outside("take(" + edition + ")", desk.take(edition), false);
            edges.outside("in hand as before", desk.look(0), 2);
            edges.outside("with its case", desk.told(0, 2), 4);
        }
        LetterDesk none = new LetterDesk();
        Desks.edition(none, 0, "?");
        edges.outside("take(0) of none", none.take(0), false);
    }

    private void inForce() {
        edges.words("That one in force on a day is taken in hand: its number;");
        LetterDesk desk = new LetterDesk();
        Desks.edition(desk, 3, FACT);
        Desks.edition(desk, 4, "");
        Desks.edition(desk, 9999, FACT);
        int[][] due = {{3, 0}, {4, 1}, {5, 1}, {9998, 1}, {9999, 2}};
        for (int[] row : due) {
            edges.inside("inForce(" + row[0] + ")", desk.inForce(row[0]), row[1]);
            edges.inside("look(0)", desk.look(0), row[1]);
        }
        desk.fact(0, 4);
        edges.inside("the same again", desk.inForce(9999), 2);
        edges.inside("its least again", desk.told(0, 2), 2);
        edges.outside("ahead of the first", desk.inForce(2), -1);
        LetterDesk zero = Desks.with(FACT);
        edges.inside("from day 0 on", zero.inForce(0), 0);
        edges.inside("up to the last day", zero.inForce(9999), 0);
        LetterDesk six = Desks.with("", "", "", "", "", "");
        edges.inside("the last of six", six.inForce(9999), 5);
        edges.inside("the first of six", six.inForce(0), 0);
    }

    private void inForceNot() {
        edges.words("NONE: none is, no such day.");
        LetterDesk desk = new LetterDesk();
        edges.outside("no edition", desk.inForce(0), -1);
        Desks.edition(desk, 3, FACT);
        desk.fact(0, 4);
        for (int day : new int[] {0, 2, -1, 10000, Integer.MIN_VALUE, Integer.MAX_VALUE}) {
            edges.outside("inForce(" + day + ")", desk.inForce(day), -1);
            edges.outside("in hand as before", desk.look(0), 0);
            edges.outside("with its case", desk.told(0, 2), 4);
        }
        edges.inside("inForce(3)", desk.inForce(3), 0);
        edges.inside("inForce(9999)", desk.inForce(9999), 0);
    }

    private void look() {
        edges.words("Of the EDITION in hand, what 0: its number, 1: FACTS, 2: CLAUSES, 3: worlds,"
                + " 4: the day from which it is in force, 5: the world of the case;");
        LetterDesk desk = Desks.with("");
        Desks.edition(desk, 40, WIDEST);
        Desks.edition(desk, 9999, FACT);
        desk.fact(0, 4);
        looks(desk, new int[] {2, 1, 1, 3, 9999, 2});
        desk.take(0);
        looks(desk, new int[] {0, 0, 0, 1, 0, 0});
        desk.take(1);
        looks(desk, new int[] {1, 8, 12, 2000, 40, 0});
        desk.world(1999);
        looks(desk, new int[] {1, 8, 12, 2000, 40, 1999});
        edges.outside("look(6)", desk.look(6), -1);
    }

    private void looks(LetterDesk desk, int[] due) {
        for (int what = 0; what < due.length; what++) {
            edges.inside("look(" + what + ")", desk.look(what), due[what]);
        }
    }

    private void lookNot() {
        edges.words("NONE: none in hand, another what.");
        LetterDesk none = new LetterDesk();
        for (int what = -1; what <= 6; what++) {
            edges.outside("none in hand: look(" + what + ")", none.look(what), -1);
        }
        LetterDesk desk = Desks.with(FACT);
        edges.inside("look(0)", desk.look(0), 0);
        edges.inside("look(5)", desk.look(5), 0);
        for (int what : new int[] {-1, 6, 7, Integer.MIN_VALUE, Integer.MAX_VALUE}) {
            edges.outside("look(" + what + ")", desk.look(what), -1);
        }
    }

    private void count() {
        edges.words("What 0: EDITIONS, 1: signs on the TAPE, 2: free days told.");
        LetterDesk desk = Desks.with("", "", "", "", "", "");
        Desks.feed(desk, ";".repeat(2401));
        for (int day = 0; day < 41; day++) {
            desk.free(day, true);
        }
        edges.inside("count(0) at most", desk.count(0), 6);
        edges.inside("count(1) at most", desk.count(1), 2400);
        edges.inside("count(2) at most", desk.count(2), 40);
        desk.free(5, false);
        desk.edition(6);
        edges.inside("count(0) behind a refused edition", desk.count(0), 6);
        edges.inside("count(1) behind it", desk.count(1), 0);
        edges.inside("count(2) of one less, which was no working day", desk.count(2), 39);
        edges.outside("count(3)", desk.count(3), -1);
    }

    private void countNot() {
        edges.words("NONE for another what.");
        LetterDesk desk = new LetterDesk();
        edges.inside("count(0)", desk.count(0), 0);
        edges.inside("count(2)", desk.count(2), 0);
        for (int what : new int[] {-1, 3, 4, Integer.MIN_VALUE, Integer.MAX_VALUE}) {
            edges.outside("count(" + what + ")", desk.count(what), -1);
        }
    }
}
