import java.util.Random;

/** All promises: long runs of mixed calls, each answered by the program and by PlainCentre alike. */
public final class ModelTest {
    private static final Due due = new Due("ModelTest");
    private static final int RUNS = 500;
    private static final int CALLS = 512;
    private static final long[] NUMBERS = {1, 22, 333, 1000, 98765, 123456789012L, 999999999999L, 4070};
    private static final String LETTERS = "abz AZ09@$_\n[]{}\\~|^\f\u20ac\u0394\u00e0\u00e4\u00a1";

    private final Random dice;
    private final SeptetCentre x = new SeptetCentre();
    private final PlainCentre y = new PlainCentre();

    private ModelTest(long seed) {
        dice = new Random(seed);
    }

    public static void main(String[] args) {
        for (int run = 0; run < RUNS; run++) {
            due.about("run " + run);
            new ModelTest(run).run();
        }
        due.end();
    }

    private void run() {
        int calls = dice.nextInt(4) == 0 ? 0 : begin();
        while (calls < CALLS) {
            int kind = dice.nextInt(100);
            if (kind < 12) {
                calls += draft();
            } else if (kind < 60) {
                calls += traffic(kind);
            } else {
                calls += look(kind);
            }
        }
    }

    private int begin() {
        for (int d = 0; d < 4; d++) {
            due.is("register", x.register(d, NUMBERS[d]), y.register(d, NUMBERS[d]));
            due.is("power", x.power(d, true), y.power(d, true));
        }
        return 8;
    }

    private int device() {
        return dice.nextInt(40) == 0 ? dice.nextInt(12) - 4 : dice.nextInt(4);
    }

    private long number() {
        if (dice.nextInt(40) == 0) {
            return new long[] {0, -1, 1000000000000L, Long.MAX_VALUE}[dice.nextInt(4)];
        }
        return NUMBERS[dice.nextInt(dice.nextInt(4) == 0 ? NUMBERS.length : 4)];
    }

    private int validity() {
        if (dice.nextInt(30) == 0) {
            return dice.nextInt(200) - 20;
        }
        return dice.nextInt(dice.nextInt(3) == 0 ? 144 : 4);
    }

    private int draft() {
        if (dice.nextInt(3) == 0) {
            x.wipe();
            y.wipe();
            return 1;
        }
        char c = dice.nextInt(60) == 0 ? (char) dice.nextInt(65536) : LETTERS.charAt(dice.nextInt(LETTERS.length()));
        int n = dice.nextInt(3) == 0 ? dice.nextInt(164) - 1 : 1 + dice.nextInt(12);
        due.is("type(" + (int) c + ", " + n + ")", x.type(c, n), y.type(c, n));
        return 1;
    }

    private int traffic(int kind) {
        int d = device();
        if (kind < 23) {
            long to = number();
            int validity = validity();
            boolean report = dice.nextBoolean();
            due.is("send(" + d + ", " + to + ", " + validity + ", " + report + ")",
                x.send(d, to, validity, report), y.send(d, to, validity, report));
        } else if (kind < 38) {
            due.is("receive()", x.receive(), y.receive());
        } else if (kind < 40) {
            return alter();
        } else if (kind < 46) {
            int by = dice.nextInt(12) == 0 ? dice.nextInt(100100) - 50 : dice.nextInt(dice.nextInt(3) == 0 ? 40 : 6);
            due.is("advance(" + by + ")", x.advance(by), y.advance(by));
        } else if (kind < 53) {
            due.is("take(" + d + ")", x.take(d), y.take(d));
        } else if (kind < 55) {
            due.is("copy(" + d + ")", x.copy(d), y.copy(d));
        } else if (kind < 57) {
            due.is("swap(" + d + ")", x.swap(d), y.swap(d));
        } else if (kind < 58) {
            due.is("report(" + d + ")", x.report(d), y.report(d));
        } else if (kind < 59) {
            long number = number();
            due.is("register(" + d + ", " + number + ")", x.register(d, number), y.register(d, number));
        } else {
            boolean on = dice.nextInt(3) > 0;
            due.is("power(" + d + ", " + on + ")", x.power(d, on), y.power(d, on));
        }
        return 1;
    }

    /** Mostly the bytes of which some values are legal and others not: the header's, the length, the last. */
    private int alter() {
        int digits = y.byteAt(-1, 2);
        int data = digits < 0 ? 9 : 8 + (digits + 1) / 2;
        int anywhere = dice.nextInt(160) - 2;
        int[] places = {0, 1, 2, 4, data - 2, data - 1, data, data + 3, data + 4, data + 5, data + 6, anywhere};
        int i = places[dice.nextInt(places.length)];
        int any = dice.nextInt(4) == 0 ? dice.nextInt(260) - 2 : 1 << dice.nextInt(8);
        int change = dice.nextInt(3) == 0 ? 1 + dice.nextInt(3) : any;
        due.is("alter(" + i + ", " + change + ")", x.alter(i, change), y.alter(i, change));
        return 1;
    }

    private int look(int kind) {
        int d = device();
        int line = dice.nextInt(20) == 0 ? dice.nextInt(16) - 5 : dice.nextInt(9) - 1;
        int m = dice.nextInt(dice.nextInt(3) == 0 ? 110 : 20) - 1;
        if (kind < 66) {
            due.is("waiting(" + line + ")", x.waiting(line), y.waiting(line));
        } else if (kind < 80) {
            int i = dice.nextInt(dice.nextInt(3) == 0 ? 162 : 24) - 1;
            due.is("byteAt(" + line + ", " + i + ")", x.byteAt(line, i), y.byteAt(line, i));
        } else if (kind < 88) {
            int i = dice.nextInt(dice.nextInt(3) == 0 ? 462 : 20) - 1;
            due.is("text(" + d + ", " + i + ")", x.text(d, i), y.text(d, i));
        } else if (kind < 91) {
            due.is("sender(" + d + ")", x.sender(d), y.sender(d));
        } else if (kind < 95) {
            due.is("state(" + m + ")", x.state(m), y.state(m));
        } else if (kind < 99) {
            due.is("offers(" + m + ")", x.offers(m), y.offers(m));
        } else {
            due.is("time()", x.time(), y.time());
        }
        return 1;
    }
}
