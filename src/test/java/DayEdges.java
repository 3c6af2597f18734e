/** Working days, due days, and promises 8 and 13: free, working. */
final class DayEdges {
    private final Edges edges;

    DayEdges(Edges edges) {
        this.edges = edges;
    }

    void run() {
        weekdays();
        freeDays();
        dueDays();
        belowOne();
        beyondTheLast();
        free();
        freeRefused();
        working();
        workingRefused();
    }

    private static LetterDesk dueDesk() {
        return Desks.with("fact e 0 to 99 ; clause a at 1 when 1 ; says day e ;");
    }

    private static String due(LetterDesk desk, int day, int e) {
        desk.fact(0, e);
        return Desks.make(desk, day);
    }

    private void weekdays() {
        edges.words("WORKING DAYS: days 0 to 9999, but 5 and 6 modulo 7");
        LetterDesk desk = new LetterDesk();
        for (int day = 1; day <= 9999; day += day == 28 ? 9960 : 1) {
            boolean works = day % 7 < 5;
            if (works) {
                edges.inside("day " + day, desk.working(day - 1, day), 1);
            } else {
                edges.outside("day " + day, desk.working(day - 1, day), 0);
            }
        }
        edges.inside("all but day 0", desk.working(0, 9999), 7143);
        edges.outside("10000 is none", desk.working(9999, 10000), -1);
        edges.outside("-1 is none", desk.working(-1, 0), -1);
    }

    private void freeDays() {
        edges.words("and those that are told to be free (40 at most).");
        LetterDesk desk = dueDesk();
        for (int n = 0; n < 40; n++) {
            edges.inside("free day " + n, desk.free(7 * (40 - n) + n % 5, true), true);
        }
        edges.outside("a 41st", desk.free(1, true), false);
        edges.inside("40 working days less", desk.working(0, 9999), 7143 - 40);
        edges.outside("the 41st is none less", desk.working(0, 1), 1);
        for (int n = 0; n < 40; n++) {
            int day = 7 * (40 - n) + n % 5;
            edges.inside("day " + day, desk.working(day - 1, day), 0);
        }
        edges.inside("the first free day is passed over", due(desk, 6, 4), "1 " + behind(desk, 6, 4));
        edges.inside("the last one, too", due(desk, 277, 5), "1 " + behind(desk, 277, 5));
        edges.inside("all of them", due(desk, 0, 99), "1 " + behind(desk, 0, 99));
        desk.free(280, false);
        edges.outside("one that is not free any more", desk.working(279, 280), 1);
        LetterDesk weekend = dueDesk();
        weekend.free(5, true);
        weekend.free(6, true);
        edges.outside("5 and 6 are no working days anyway", weekend.working(0, 7), 5);
        edges.outside("nor count twice for a due day", due(weekend, 0, 5), "1 7");
        weekend.free(5, false);
        edges.outside("5 is none when it is not free any more", weekend.working(4, 5), 0);
    }

    /** By working() alone, day by day. */
    private static int behind(LetterDesk desk, int from, int days) {
        int day = from;
        while (desk.working(from, day) < days) {
            day++;
        }
        return day;
    }

    private void dueDays() {
        edges.words("day E: the day on which E working days are over behind the letter's day");
        LetterDesk desk = dueDesk();
        int[][] rows = {{0, 1, 1}, {0, 3, 3}, {0, 4, 4}, {0, 5, 7}, {0, 6, 8}, {0, 9, 11}, {0, 10, 14}, {0, 99, 137},
            {3, 1, 4}, {4, 1, 7}, {5, 1, 7}, {6, 1, 7}, {7, 1, 8}, {4, 5, 11}, {4, 6, 14}, {9993, 1, 9996}, {9995, 1, 9996}};
        for (int[] row : rows) {
            edges.inside(row[1] + " behind " + row[0], due(desk, row[0], row[1]), "1 " + row[2]);
        }
        desk.free(1, true);
        edges.outside("the day behind is free", due(desk, 0, 1), "1 2");
        edges.inside("it is the letter's day", due(desk, 1, 1), "1 2");
        edges.inside("ahead of the letter's day", due(desk, 2, 1), "1 3");
        desk.free(4, true);
        edges.outside("a Friday, so to say, is free", due(desk, 3, 1), "1 7");
        desk.free(7, true);
        edges.outside("and the Monday", due(desk, 3, 1), "1 8");
        edges.outside("two that are free on the way", due(desk, 2, 2), "1 8");
        edges.inside("up to the one ahead", due(desk, 2, 1), "1 3");
        edges.inside("letter on a free day", due(desk, 4, 1), "1 8");
    }

    private void belowOne() {
        edges.words("(E below 1: the letter's day itself).");
        LetterDesk desk = Desks.with("fact e 0 to 2 ; clause a at 1 when 1 ; says day e - 1 day 0 - 9999 x ;");
        int[] days = {0, 4, 5, 6, 7, 9999};
        String[] next = {"1", "7", "7", "7", "8", "9999"};
        for (int i = 0; i < days.length; i++) {
            edges.inside("-1 on day " + days[i], due(desk, days[i], 0), "1 " + days[i] + " " + days[i] + " x");
            edges.inside("0 on day " + days[i], due(desk, days[i], 1), "1 " + days[i] + " " + days[i] + " x");
            edges.outside("1 on day " + days[i], due(desk, days[i], 2), "1 " + next[i] + " " + days[i] + " x");
        }
        desk.free(7, true);
        edges.inside("0 on a free day", due(desk, 7, 1), "1 7 7 x");
        edges.inside("-1 on a free day", due(desk, 7, 0), "1 7 7 x");
        edges.outside("1 on a free day", due(desk, 7, 2), "1 8 7 x");
    }

    private void beyondTheLast() {
        edges.words("(A count that would go on beyond 9999 stops there.)");
        LetterDesk desk = dueDesk();
        // Behind 9990 there are 7 working days: 9991 to 9993, 9996 to 9999.
        edges.inside("6 behind 9990", due(desk, 9990, 6), "1 9998");
        edges.inside("7 behind 9990", due(desk, 9990, 7), "1 9999");
        edges.outside("8 behind 9990", due(desk, 9990, 8), "1 9999");
        edges.outside("99 behind 9990", due(desk, 9990, 99), "1 9999");
        edges.inside("1 behind 9998", due(desk, 9998, 1), "1 9999");
        edges.outside("2 behind 9998", due(desk, 9998, 2), "1 9999");
        edges.outside("1 behind 9999", due(desk, 9999, 1), "1 9999");
        edges.inside("0 behind 9999", due(desk, 9999, 0), "1 9999");
        LetterDesk all = Desks.with("clause a at 1 when 1 ; says day 7142 day 7143 day 7144 day 9999 day 9999 + 9999 ;");
        edges.outside("from day 0", Desks.make(all, 0), "1 9998 9999 9999 9999 9999");
        edges.outside("from day 1", Desks.make(all, 1), "1 9999 9999 9999 9999 9999");
        desk.free(9999, true);
        edges.outside("the last day is free", due(desk, 9998, 1), "1 9999");
        edges.inside("the one ahead is not", due(desk, 9997, 1), "1 9998");
        desk.free(9998, true);
        edges.outside("both are free", due(desk, 9997, 1), "1 9999");
        edges.outside("the greatest number", Desks.make(Desks.with("clause a at 1when 1;says day 9999"
                + "+9999".repeat(473) + ";"), 0), "1 9999");
    }

    private void free() {
        edges.words("A day (0 .. 9999) is free (yes) or not: true;");
        LetterDesk desk = new LetterDesk();
        for (int day : new int[] {0, 1, 5, 6, 9998, 9999}) {
            edges.inside("free(" + day + ", true)", desk.free(day, true), true);
        }
        edges.inside("count(2)", desk.count(2), 6);
        edges.inside("day 1", desk.working(0, 1), 0);
        edges.inside("day 9999", desk.working(9998, 9999), 0);
        edges.inside("day 9997", desk.working(9996, 9997), 1);
        for (int day : new int[] {9999, 0, 6, 1, 5, 9998}) {
            edges.inside("free(" + day + ", false)", desk.free(day, false), true);
        }
        edges.inside("count(2) of none", desk.count(2), 0);
        edges.inside("day 1 again", desk.working(0, 1), 1);
        edges.inside("day 9999 again", desk.working(9998, 9999), 1);
        edges.inside("told once more", desk.free(1, true), true);
        edges.outside("free(-1, true)", desk.free(-1, true), false);
        edges.outside("free(10000, true)", desk.free(10000, true), false);
        edges.outside("free(-1, false)", desk.free(-1, false), false);
        edges.outside("free(10000, false)", desk.free(10000, false), false);
        edges.outside("count(2) of one", desk.count(2), 1);
    }

    private void freeRefused() {
        edges.words("false: none such, it is so, 40 are.");
        LetterDesk desk = new LetterDesk();
        for (int day : new int[] {-1, 10000, 10005, Integer.MIN_VALUE, Integer.MAX_VALUE}) {
            edges.outside("none such: " + day, desk.free(day, true), false);
            edges.outside("none such, not free: " + day, desk.free(day, false), false);
        }
        edges.outside("it is so: not free", desk.free(3, false), false);
        edges.inside("it is not so", desk.free(3, true), true);
        edges.outside("it is so: free", desk.free(3, true), false);
        edges.inside("not any more", desk.free(3, false), true);
        edges.outside("it is so: not free again", desk.free(3, false), false);
        edges.inside("once more", desk.free(3, true), true);
        edges.outside("a neighbour is not", desk.free(2, false), false);
        edges.outside("nor the other", desk.free(4, false), false);
        for (int n = 1; n < 39; n++) {
            desk.free(100 + n * 31 % 200, true);
        }
        edges.inside("39 are", desk.count(2), 39);
        edges.inside("a 40th", desk.free(9990, true), true);
        edges.outside("a 41st", desk.free(9989, true), false);
        edges.outside("a 41st ahead of all", desk.free(0, true), false);
        edges.outside("a 41st behind all", desk.free(9999, true), false);
        edges.outside("one of the 40", desk.free(9990, true), false);
        edges.outside("one that is not, not", desk.free(9989, false), false);
        edges.outside("nor one ahead of all", desk.free(0, false), false);
        edges.outside("nor one behind all", desk.free(9999, false), false);
        edges.outside("40 are", desk.count(2), 40);
        edges.inside("one of the 40 not any more", desk.free(3, false), true);
        edges.inside("39 are again", desk.count(2), 39);
        edges.inside("so another can be", desk.free(0, true), true);
        edges.outside("but no more", desk.free(3, true), false);
    }

    private void working() {
        edges.words("How many working days are from a day (not itself) up to another one (it, too);");
        LetterDesk desk = new LetterDesk();
        int[][] rows = {{0, 0, 0}, {0, 1, 1}, {1, 1, 0}, {3, 4, 1}, {4, 4, 0}, {4, 5, 0}, {4, 6, 0}, {4, 7, 1}, {5, 7, 1},
            {6, 7, 1}, {7, 7, 0}, {0, 6, 4}, {0, 7, 5}, {0, 13, 9}, {0, 14, 10}, {9998, 9999, 1}, {9999, 9999, 0},
            {9993, 9995, 0}, {9993, 9996, 1}, {0, 9999, 7143}, {0, 9998, 7142}, {1, 9999, 7142}};
        for (int[] row : rows) {
            edges.inside("working(" + row[0] + ", " + row[1] + ")", desk.working(row[0], row[1]), row[2]);
        }
        desk.free(2, true);
        edges.inside("free on the way", desk.working(0, 4), 3);
        edges.inside("free at the end", desk.working(0, 2), 1);
        edges.inside("free at the start", desk.working(2, 4), 2);
        edges.inside("free ahead", desk.working(3, 4), 1);
        edges.inside("free behind", desk.working(0, 1), 1);
        edges.outside("the first above the second", desk.working(1, 0), -1);
    }

    private void workingRefused() {
        edges.words("NONE: no such days, the first above the second.");
        LetterDesk desk = new LetterDesk();
        edges.inside("working(0, 0)", desk.working(0, 0), 0);
        edges.inside("working(9999, 9999)", desk.working(9999, 9999), 0);
        int[][] rows = {{-1, 0}, {-1, -1}, {0, 10000}, {9999, 10000}, {10000, 10000}, {1, 0}, {9999, 9998}, {9999, 0},
                {0, -1},
            {10000, 0}, {Integer.MIN_VALUE, 0}, {0, Integer.MAX_VALUE}, {Integer.MIN_VALUE, Integer.MAX_VALUE},
            {Integer.MAX_VALUE, Integer.MIN_VALUE}};
        for (int[] row : rows) {
            edges.outside("working(" + row[0] + ", " + row[1] + ")", desk.working(row[0], row[1]), -1);
        }
    }
}
