import java.util.Random;

/** All promises: long runs of mixed calls, each answered by the program and by PlainCentre alike. */
public final class ModelTest {
    private static final Due due = new Due("ModelTest");
    private static final int RUNS = 800;
    private static final int CALLS = 512;
    /** No step makes more calls than this. */
    private static final int LONGEST_STEP = 24;
    private static final long[] NUMBERS = {1, 22, 333, 1000, 98765, 123456789012L, 999999999999L, 4070};
    private static final String LETTERS = "abz AZ09@$_\n[]{}\\~|^\f\u20ac\u0394\u00e0\u00e4\u00a1";

    /** How often each kind of step comes, of all that a mood names. */
    private enum Mood {
        MIXED(12, 11, 15, 2, 6, 7, 2, 2, 1, 1, 1, 0, 40),
        /** Most messages are received and settled at once, so that there are soon a hundred. */
        BRISK(2, 20, 45, 1, 14, 4, 1, 1, 2, 0, 1, 0, 9),
        /** Nobody takes what comes and little is settled, so that lines are full and twelve wait. */
        CROWDED(6, 25, 25, 2, 5, 1, 4, 2, 0, 0, 8, 0, 22),
        /** Parts of own make come in any order, so that piles are begun, finished and thrown away. */
        PIECES(2, 1, 1, 0, 1, 12, 6, 6, 1, 0, 0, 12, 4);

        private final int[] weights;

        Mood(int... weights) {
            this.weights = weights;
        }

        int step(Random dice) {
            int sum = 0;
            for (int weight : weights) {
                sum += weight;
            }
            int left = dice.nextInt(sum);
            int step = 0;
            while (left >= weights[step]) {
                left -= weights[step];
                step++;
            }
            return step;
        }
    }

    private final Random dice;
    private final Mood mood;
    private final SeptetCentre x = new SeptetCentre();
    private final PlainCentre y = new PlainCentre();
    private int calls;

    private ModelTest(long seed) {
        dice = new Random(seed);
        mood = Mood.values()[(int) (seed % Mood.values().length)];
    }

    public static void main(String[] args) {
        for (int run = 0; run < RUNS; run++) {
            due.about("run " + run);
            new ModelTest(run).run();
        }
        due.end();
    }

    private void same(String call, long got, long want) {
        calls++;
        due.is(call, got, want);
    }

    private void same(String call, boolean got, boolean want) {
        same(call, got ? 1 : 0, want ? 1 : 0);
    }

    private void run() {
        if (dice.nextInt(4) > 0) {
            for (int d = 0; d < 4; d++) {
                same("register", x.register(d, NUMBERS[d]), y.register(d, NUMBERS[d]));
                same("power", x.power(d, true), y.power(d, true));
            }
        }
        while (calls < CALLS - LONGEST_STEP) {
            step(mood.step(dice));
        }
        while (calls < CALLS) {
            look();
        }
    }

    private void step(int kind) {
        int d = device();
        switch (kind) {
            case 0 -> draft();
            case 1 -> send(d, number(), validity(), dice.nextBoolean());
            case 2 -> receive();
            case 3 -> alter();
            case 4 -> advance();
            case 5 -> same("take(" + d + ")", x.take(d), y.take(d));
            case 6 -> same("copy(" + d + ")", x.copy(d), y.copy(d));
            case 7 -> same("swap(" + d + ")", x.swap(d), y.swap(d));
            case 8 -> same("report(" + d + ")", x.report(d), y.report(d));
            case 9 -> register(d);
            case 10 -> power(d);
            case 11 -> piece();
            default -> look();
        }
    }

    private int device() {
        if (dice.nextInt(40) == 0) {
            return dice.nextInt(4) == 0 ? Integer.MIN_VALUE + dice.nextInt(8) : dice.nextInt(12) - 4;
        }
        return mood == Mood.PIECES ? 1 + dice.nextInt(2) : dice.nextInt(4);
    }

    private long number() {
        if (dice.nextInt(40) == 0) {
            return new long[] {0, -1, 1000000000000L, Long.MAX_VALUE, Long.MIN_VALUE}[dice.nextInt(5)];
        }
        return NUMBERS[dice.nextInt(dice.nextInt(4) == 0 ? NUMBERS.length : 4)];
    }

    private int validity() {
        if (dice.nextInt(30) == 0) {
            return dice.nextInt(200) - 20;
        }
        if (mood == Mood.CROWDED) {
            return 143 - dice.nextInt(3);
        }
        return dice.nextInt(dice.nextInt(3) == 0 ? 144 : 4);
    }

    private void draft() {
        if (dice.nextInt(3) == 0) {
            calls++;
            x.wipe();
            y.wipe();
            return;
        }
        char c = dice.nextInt(60) == 0 ? (char) dice.nextInt(65536) : LETTERS.charAt(dice.nextInt(LETTERS.length()));
        type(c, dice.nextInt(3) == 0 ? dice.nextInt(164) - 1 : 1 + dice.nextInt(12));
    }

    private void type(char c, int n) {
        same("type(" + (int) c + ", " + n + ")", x.type(c, n), y.type(c, n));
    }

    private void send(int d, long to, int validity, boolean report) {
        same("send(" + d + ", " + to + ", " + validity + ", " + report + ")",
            x.send(d, to, validity, report), y.send(d, to, validity, report));
    }

    private void receive() {
        same("receive()", x.receive(), y.receive());
    }

    private void advance() {
        int by = dice.nextInt(dice.nextInt(3) == 0 ? 40 : 6);
        if (dice.nextInt(mood == Mood.CROWDED ? 60 : 12) == 0) {
            by = dice.nextInt(100100) - 50;
        }
        advance(by);
    }

    private void advance(int by) {
        same("advance(" + by + ")", x.advance(by), y.advance(by));
    }

    private void register(int d) {
        long number = number();
        same("register(" + d + ", " + number + ")", x.register(d, number), y.register(d, number));
    }

    private void power(int d) {
        boolean on = dice.nextInt(3) > (mood == Mood.CROWDED ? 1 : 0);
        same("power(" + d + ", " + on + ")", x.power(d, on), y.power(d, on));
    }

    /** Mostly the bytes of which some values are legal and others not: the header's, the length, the last. */
    private void alter() {
        int digits = y.byteAt(-1, 2);
        int data = digits < 0 ? 9 : 8 + (digits + 1) / 2;
        int anywhere = dice.nextInt(160) - 2;
        int[] places = {0, 1, 2, 4, data - 2, data - 1, data, data + 3, data + 4, data + 5, data + 6, anywhere};
        int i = places[dice.nextInt(places.length)];
        int any = dice.nextInt(4) == 0 ? dice.nextInt(260) - 2 : 1 << dice.nextInt(8);
        alter(i, dice.nextInt(3) == 0 ? 1 + dice.nextInt(3) : any);
    }

    private void alter(int i, int change) {
        same("alter(" + i + ", " + change + ")", x.alter(i, change), y.alter(i, change));
    }

    /** A part of own make, as in Steps, for device 1 or 2. */
    private void piece() {
        calls++;
        x.wipe();
        y.wipe();
        type('@', 7);
        for (int k = dice.nextInt(3); k > 0; k--) {
            type(LETTERS.charAt(dice.nextInt(LETTERS.length())), 1 + dice.nextInt(3));
        }
        long to = NUMBERS[1 + dice.nextInt(2)];
        send(dice.nextInt(3), to, 0, false);
        alter(0, 64);
        int data = Steps.lengthAt(to) + 1;
        alter(data, 5);
        alter(data + 2, 3);
        alter(data + 3, 1 + dice.nextInt(2));
        int parts = 1 + dice.nextInt(dice.nextInt(10) == 0 ? 4 : 3);
        alter(data + 4, parts);
        alter(data + 5, 1 + dice.nextInt(dice.nextInt(10) == 0 ? 4 : parts));
        receive();
        advance(0);
    }

    private void look() {
        int d = device();
        int line = dice.nextInt(20) == 0 ? dice.nextInt(16) - 5 : dice.nextInt(9) - 1;
        int m = dice.nextInt(dice.nextInt(3) == 0 ? 110 : 20) - 1;
        int kind = dice.nextInt(40);
        if (kind < 6) {
            same("waiting(" + line + ")", x.waiting(line), y.waiting(line));
        } else if (kind < 20) {
            int i = dice.nextInt(dice.nextInt(3) == 0 ? 162 : 24) - 1;
            same("byteAt(" + line + ", " + i + ")", x.byteAt(line, i), y.byteAt(line, i));
        } else if (kind < 28) {
            int i = dice.nextInt(dice.nextInt(3) == 0 ? 462 : 20) - 1;
            same("text(" + d + ", " + i + ")", x.text(d, i), y.text(d, i));
        } else if (kind < 31) {
            same("sender(" + d + ")", x.sender(d), y.sender(d));
        } else if (kind < 35) {
            same("state(" + m + ")", x.state(m), y.state(m));
        } else if (kind < 39) {
            same("offers(" + m + ")", x.offers(m), y.offers(m));
        } else {
            same("time()", x.time(), y.time());
        }
    }
}
