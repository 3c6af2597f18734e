/** Promises 8 and 13: free, working; and the days that letters name. */
public final class CalendarTest {
    private static final Check CHECK = new Check("CalendarTest");

    public static void main(String[] args) {
        free();
        fortyDays();
        working();
        dueDays();
        dueBesideFreeDays();
        CHECK.finish();
    }

    private static void free() {
        LetterDesk desk = new LetterDesk();
        CHECK.same("free(0, false)", desk.free(0, false), false);
        CHECK.same("free(0, true)", desk.free(0, true), true);
        CHECK.same("free(0, true) again", desk.free(0, true), false);
        CHECK.same("free(9999, true)", desk.free(9999, true), true);
        CHECK.same("a sixth day of a week can be told", desk.free(5, true), true);
        CHECK.same("and is so then", desk.free(5, true), false);
        CHECK.same("a seventh day was not told", desk.free(6, false), false);
        for (int wrong : new int[] {-1, 10000, Integer.MIN_VALUE, Integer.MAX_VALUE}) {
            CHECK.same("free(" + wrong + ", true)", desk.free(wrong, true), false);
            CHECK.same("free(" + wrong + ", false)", desk.free(wrong, false), false);
        }
        CHECK.same("count(2)", desk.count(2), 3);
        CHECK.same("free(0, false)", desk.free(0, false), true);
        CHECK.same("free(0, false) again", desk.free(0, false), false);
        CHECK.same("count(2)", desk.count(2), 2);
    }

    private static void fortyDays() {
        LetterDesk desk = new LetterDesk();
        for (int n = 0; n < 40; n++) {
            CHECK.same("free day " + n, desk.free(n * 37 % 101, true), true);
        }
        CHECK.same("a 41st", desk.free(500, true), false);
        CHECK.same("one that is free", desk.free(37, true), false);
        CHECK.same("one that is not", desk.free(500, false), false);
        CHECK.same("count(2)", desk.count(2), 40);
        int weekdays = 0;
        for (int n = 0; n < 40; n++) {
            weekdays += n * 37 % 101 > 0 && n * 37 % 101 % 7 < 5 ? 1 : 0;
        }
        CHECK.same("working with 40 free days", desk.working(0, 9999), 7143 - weekdays);
        CHECK.same("one less", desk.free(37, false), true);
        CHECK.same("then one more", desk.free(500, true), true);
        CHECK.same("and no more", desk.free(37, true), false);
        CHECK.same("count(2)", desk.count(2), 40);
    }

    private static void working() {
        LetterDesk desk = new LetterDesk();
        int[][] due = {{0, 0, 0}, {0, 1, 1}, {0, 4, 4}, {0, 5, 4}, {0, 6, 4}, {0, 7, 5}, {4, 6, 0}, {6, 7, 1},
            {5, 5, 0}, {0, 9999, 7143}, {9999, 9999, 0}, {9998, 9999, 1}};
        for (int[] row : due) {
            CHECK.same("working(" + row[0] + ", " + row[1] + ")", desk.working(row[0], row[1]), row[2]);
        }
        int[][] wrong = {{1, 0}, {-1, 5}, {0, 10000}, {-5, -3}, {10000, 10001},
            {Integer.MIN_VALUE, Integer.MAX_VALUE}, {9999, 9998}};
        for (int[] row : wrong) {
            CHECK.same("working(" + row[0] + ", " + row[1] + ")", desk.working(row[0], row[1]), -1);
        }
        desk.free(7, true);
        desk.free(5, true);
        desk.free(10, true);
        CHECK.same("working(0, 10) with free days", desk.working(0, 10), 6);
        CHECK.same("working(7, 9): the first day does not count", desk.working(7, 9), 2);
        CHECK.same("working(6, 7): the last one does", desk.working(6, 7), 0);
        CHECK.same("working(9, 10)", desk.working(9, 10), 0);
        desk.free(7, false);
        CHECK.same("working(6, 7) again", desk.working(6, 7), 1);
        CHECK.same("working is asked without an edition", desk.count(0), 0);
        LetterDesk first = new LetterDesk();
        first.free(1, true);
        CHECK.same("the only free day", first.working(0, 4), 3);
    }

    private static String day(LetterDesk desk, int e, int day) {
        desk.fact(0, e);
        return Desks.make(desk, day);
    }

    private static void dueDays() {
        LetterDesk desk = Desks.with("fact e 0 to 99 ; clause a at 0 when 1 ; says day e day 0 - e day 9999 ;");
        CHECK.same("0 days", day(desk, 0, 5), "1 5 5 9999");
        CHECK.same("1 day", day(desk, 1, 0), "1 1 0 9999");
        CHECK.same("4 days", day(desk, 4, 0), "1 4 0 9999");
        CHECK.same("5 days", day(desk, 5, 0), "1 7 0 9999");
        CHECK.same("from a sixth day", day(desk, 1, 5), "1 7 5 9999");
        CHECK.same("from a seventh day", day(desk, 1, 6), "1 7 6 9999");
        CHECK.same("99 days", day(desk, 99, 0), "1 137 0 9999");
        // 9994 and 9995 are no working days, the four behind them are.
        CHECK.same("near the last day", day(desk, 3, 9994), "1 9998 9994 9999");
        CHECK.same("up to the last day", day(desk, 2, 9997), "1 9999 9997 9999");
        CHECK.same("beyond the last day", day(desk, 3, 9997), "1 9999 9997 9999");
        CHECK.same("from the last day", day(desk, 1, 9999), "1 9999 9999 9999");
    }

    private static void dueBesideFreeDays() {
        LetterDesk desk = Desks.with("fact e 0 to 99 ; clause a at 0 when 1 ; says day e ;");
        desk.free(8, true);
        desk.free(7, true);
        desk.free(5, true);
        CHECK.same("free days on the way", day(desk, 1, 4), "1 9");
        CHECK.same("from a free day", day(desk, 1, 7), "1 9");
        CHECK.same("the letter's day may be free", day(desk, 0, 8), "1 8");
        CHECK.same("due ahead of free days", day(desk, 4, 0), "1 4");
        CHECK.same("due behind free days", day(desk, 5, 0), "1 9");
        desk.free(9, true);
        CHECK.same("one more day is free", day(desk, 5, 0), "1 10");
        desk.free(7, false);
        CHECK.same("one is not any more", day(desk, 5, 0), "1 7");
        desk.free(9999, true);
        CHECK.same("the last day, though free", day(desk, 2, 9998), "1 9999");
    }
}
