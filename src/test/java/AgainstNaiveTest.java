import java.util.NoSuchElementException;
import java.util.Random;

/** Runs of calls by chance, each answered by LetterDesk and by NaiveDesk alike. */
public final class AgainstNaiveTest {
    private static final int RUNS = 1500;
    private static final int CALLS = 60;

    private final Check check = new Check("AgainstNaiveTest");
    private final int[] faults = new int[6];
    private final int[] quarrels = new int[5];
    private int differences;
    private Random chance;
    private LetterDesk desk;
    private NaiveDesk naive;
    private String head;
    private int nextDay;
    /** How seldom an edition of the run has facts of its own. */
    private int sharing;

    public static void main(String[] args) {
        AgainstNaiveTest test = new AgainstNaiveTest();
        for (int run = 0; run < (args.length > 0 ? Integer.parseInt(args[0]) : RUNS); run++) {
            test.run(run);
        }
        test.checkReach();
        test.check.finish();
    }

    private void run(int seed) {
        chance = new Random(seed);
        desk = new LetterDesk();
        naive = new NaiveDesk();
        head = null;
        nextDay = chance.nextInt(3);
        sharing = 1 + chance.nextInt(8);
        for (int n = 0; n < CALLS; n++) {
            call("run " + seed + " call " + n + " ");
        }
    }

    private void same(String what, long got, long due) {
        check.same(what, got, due);
    }

    /** Now and then a number from the far ends, where sums and products turn round. */
    private int odd(int usual) {
        if (chance.nextInt(25) != 0) {
            return usual;
        }
        return switch (chance.nextInt(4)) {
            case 0 -> Integer.MIN_VALUE + chance.nextInt(3);
            case 1 -> Integer.MAX_VALUE - chance.nextInt(3);
            case 2 -> (1 << chance.nextInt(32)) + chance.nextInt(3) - 1;
            default -> chance.nextInt();
        };
    }

    private int day() {
        return odd(usualDay());
    }

    private int usualDay() {
        return switch (chance.nextInt(8)) {
            case 0 -> -1;
            case 1 -> 9990 + chance.nextInt(12);
            case 2, 3 -> chance.nextInt(10000);
            default -> chance.nextInt(30);
        };
    }

    private void call(String at) {
        switch (chance.nextInt(14)) {
            case 0, 1, 2 -> edition(at);
            case 3 -> {
                int e = odd(chance.nextInt(8) - 1);
                same(at + "take", desk.take(e) ? 1 : 0, naive.take(e) ? 1 : 0);
            }
            case 4 -> {
                int d = chance.nextBoolean() ? day() : chance.nextInt(60);
                same(at + "inForce", desk.inForce(d), naive.inForce(d));
            }
            case 5 -> {
                int k = odd(chance.nextInt(5) - 1);
                int v = odd(chance.nextInt(8) - 1);
                same(at + "fact", desk.fact(k, v) ? 1 : 0, naive.fact(k, v) ? 1 : 0);
            }
            case 6 -> {
                int w = odd(chance.nextInt(3) == 0 ? chance.nextInt(2100) - 5 : chance.nextInt(40));
                same(at + "world", desk.world(w) ? 1 : 0, naive.world(w) ? 1 : 0);
            }
            case 7 -> {
                for (int n = chance.nextInt(10) == 0 ? 45 : 3; n > 0; n--) {
                    int d = day();
                    boolean yes = chance.nextInt(3) != 0;
                    same(at + "free", desk.free(d, yes) ? 1 : 0, naive.free(d, yes) ? 1 : 0);
                }
            }
            case 8, 9, 10 -> make(at);
            case 11 -> {
                int from = day();
                int to = day();
                same(at + "working", desk.working(from, to), naive.working(from, to));
            }
            case 12 -> {
                int kind = odd(chance.nextInt(6));
                int what = odd(chance.nextInt(4) - 1);
                same(at + "judge", desk.judge(kind, what), naive.judge(kind, what));
            }
            default -> changed(at);
        }
        state(at);
    }

    private void edition(String at) {
        RandomTexts texts = new RandomTexts(chance);
        String text = texts.text(chance.nextInt(sharing) != 0 ? head : null);
        if (chance.nextInt(20) == 0) {
            feedAnything(at);
        }
        if (head == null || chance.nextInt(5) == 0) {
            head = texts.headOf(text);
        }
        for (int i = 0; i < text.length(); i += 24) {
            long a = Desks.pack(text, i);
            long b = Desks.pack(text, i + 8);
            long c = Desks.pack(text, i + 16);
            same(at + "feed", desk.feed(a, b, c), naive.feed(a, b, c));
        }
        int day = chance.nextInt(12) == 0 ? day() : nextDay;
        int got = desk.edition(day);
        same(at + "edition(" + day + ") of " + text, got, naive.edition(day));
        if (got > 0) {
            faults[got % 16]++;
        }
        if (got == 0) {
            nextDay = day + 1 + chance.nextInt(10);
        }
    }

    /** Bytes of all kinds, ahead of a text, which has a fault then but by chance. */
    private void feedAnything(String at) {
        for (int n = chance.nextInt(120); n > 0; n--) {
            long a = chance.nextLong();
            long b = chance.nextLong();
            long c = chance.nextLong();
            same(at + "feed", desk.feed(a, b, c), naive.feed(a, b, c));
        }
    }

    private void make(String at) {
        int d = day();
        int got = desk.make(d);
        same(at + "make", got, naive.make(d));
        if (got >= 0) {
            quarrels[got]++;
        }
        for (int i = -1; i <= desk.letter(0); i++) {
            same(at + "out " + i, desk.out(i), naive.out(i));
        }
    }

    private void changed(String at) {
        int a = odd(chance.nextInt(1 + desk.count(0)) - (chance.nextInt(9) == 0 ? 1 : 0));
        int b = odd(chance.nextInt(1 + desk.count(0)) - (chance.nextInt(9) == 0 ? 1 : 0));
        int d = day();
        for (int what : new int[] {-1, 0, 1, 2, odd(3)}) {
            int got = desk.changed(a, b, d, what);
            same(at + "changed " + what, got, naive.changed(a, b, d, what));
            if (what == 0 && got > 0) {
                differences++;
            }
        }
    }

    private void state(String at) {
        for (int what = -1; what <= 6; what++) {
            same(at + "look " + what, desk.look(what), naive.look(what));
            same(at + "letter " + what, desk.letter(what), naive.letter(what));
            same(at + "count " + what, desk.count(what), naive.count(what));
        }
        for (int i = -1; i <= 13; i++) {
            same(at + "part " + i, desk.part(i), naive.part(i));
        }
        int far = odd(-1);
        same(at + "look " + far, desk.look(far), naive.look(far));
        same(at + "letter " + far, desk.letter(far), naive.letter(far));
        same(at + "count " + far, desk.count(far), naive.count(far));
        same(at + "out " + far, desk.out(far), naive.out(far));
        same(at + "part " + far, desk.part(far), naive.part(far));
        same(at + "told " + far, told(far, 0), naiveTold(far, 0));
        same(at + "told 0 " + far, told(0, far), naiveTold(0, far));
        for (int k = -1; k <= 8; k++) {
            for (int what = -1; what <= 3; what++) {
                same(at + "told " + k + " " + what, told(k, what), naiveTold(k, what));
            }
        }
    }

    private int told(int k, int what) {
        try {
            return desk.told(k, what);
        } catch (NoSuchElementException none) {
            return -99;
        }
    }

    private int naiveTold(int k, int what) {
        try {
            return naive.told(k, what);
        } catch (NoSuchElementException none) {
            return -99;
        }
    }

    /** The runs are worth little if they never get to some kind of answer. */
    private void checkReach() {
        for (int kind = 1; kind <= 5; kind++) {
            check.same("runs with fault " + kind, faults[kind] > 0, true);
        }
        for (int kind = 0; kind <= 4; kind++) {
            check.same("runs with quarrel " + kind, quarrels[kind] > 0, true);
        }
        check.same("runs with changed worlds", differences > 0, true);
        System.out.println("faults " + java.util.Arrays.toString(faults) + " quarrels "
                + java.util.Arrays.toString(quarrels) + " changed " + differences);
    }
}
