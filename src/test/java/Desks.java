/** Short ways to put texts in and get letters out. */
final class Desks {
    private Desks() {
    }

    /** Feeds a text, each sign one byte; answers what the last feed answered. */
    static int feed(LetterDesk desk, String text) {
        int count = desk.count(1);
        for (int i = 0; i < text.length(); i += 24) {
            count = desk.feed(pack(text, i), pack(text, i + 8), pack(text, i + 16));
        }
        return count;
    }

    static int edition(LetterDesk desk, int day, String text) {
        feed(desk, text);
        return desk.edition(day);
    }

    static LetterDesk with(String... texts) {
        LetterDesk desk = new LetterDesk();
        for (int i = 0; i < texts.length; i++) {
            int fault = edition(desk, i, texts[i]);
            if (fault != 0) {
                throw new IllegalArgumentException("fault " + fault + " in: " + texts[i]);
            }
        }
        return desk;
    }

    /** The latest letter's signs; "quarrel" where nothing is printed. */
    static String printed(LetterDesk desk) {
        StringBuilder signs = new StringBuilder();
        for (int i = 0; i < desk.letter(0); i++) {
            signs.append((char) desk.out(i));
        }
        return signs.length() == 0 ? "quarrel" : signs.toString();
    }

    static String make(LetterDesk desk, int day) {
        int quarrel = desk.make(day);
        return quarrel == 0 ? printed(desk) : quarrel + ": " + desk.letter(2) + " " + desk.letter(3);
    }

    static long pack(String text, int from) {
        long packed = 0;
        for (int i = from; i < from + 8; i++) {
            packed = packed << 8 | (i < text.length() ? text.charAt(i) & 255 : 0);
        }
        return packed;
    }
}
