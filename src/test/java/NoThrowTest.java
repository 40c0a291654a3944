import java.util.Random;

/**
 * No call throws, whatever its arguments and the state (LANGUAGE.md, rule 7): runs far longer than what the
 * document promises answers for, with wild arguments. The answers are not looked at.
 */
public final class NoThrowTest {
    private static final Due due = new Due("NoThrowTest");
    private static final int RUNS = 60;
    private static final int CALLS = 3000;
    private static final int[] WILD = {Integer.MIN_VALUE, Integer.MIN_VALUE + 1, -100001, -256, -129, -5, -2, -1, 4, 5,
        7, 8, 99, 100, 127, 128, 143, 144, 160, 161, 255, 256, 480, 100000, 100001, Integer.MAX_VALUE - 1,
        Integer.MAX_VALUE};
    private static final long[] NUMBERS = {1, 22, 333, 999999999999L, 0, -1, 1000000000000L, Long.MIN_VALUE,
        Long.MAX_VALUE};

    public static void main(String[] args) {
        for (int seed = 0; seed < RUNS; seed++) {
            due.about("run " + seed);
            due.is("throws", throwsIn(new Random(seed), new SeptetCentre()), false);
        }
        timeBeyondInt();
        due.end();
    }

    private static boolean throwsIn(Random dice, SeptetCentre x) {
        try {
            for (int call = 0; call < CALLS; call++) {
                call(dice, x, dice.nextInt(27));
            }
            return false;
        } catch (RuntimeException thrown) {
            thrown.printStackTrace(System.out);
            return true;
        }
    }

    private static int value(Random dice, int bound) {
        return dice.nextInt(8) == 0 ? WILD[dice.nextInt(WILD.length)] : dice.nextInt(bound);
    }

    private static void call(Random dice, SeptetCentre x, int kind) {
        int d = value(dice, 4);
        long number = NUMBERS[dice.nextInt(dice.nextInt(4) == 0 ? NUMBERS.length : 4)];
        switch (kind) {
            case 0 -> x.register(d, number);
            case 1 -> x.power(d, dice.nextInt(3) > 0);
            case 2, 3 -> x.type((char) (dice.nextInt(30) == 0 ? dice.nextInt(65536) : 91), value(dice, 161));
            case 4 -> x.wipe();
            case 5, 6, 7 -> x.send(d, number, value(dice, 144), dice.nextBoolean());
            case 8, 9 -> x.alter(value(dice, 160), value(dice, 256));
            case 10, 11, 12, 13, 14 -> x.receive();
            case 15 -> x.advance(value(dice, 100));
            case 16, 17 -> x.take(d);
            case 18 -> x.copy(d);
            case 19 -> x.swap(d);
            case 20 -> x.report(d);
            case 21 -> x.waiting(value(dice, 8));
            case 22 -> x.byteAt(value(dice, 8), value(dice, 160));
            case 23 -> x.text(d, value(dice, 460));
            case 24 -> x.sender(d);
            case 25 -> x.state(value(dice, 100));
            default -> x.offers(value(dice, 100));
        }
    }

    /** The time goes on until an int can't hold it: nothing is promised then, but that the calls end. */
    private static void timeBeyondInt() {
        due.about("the time beyond what an int can hold");
        SeptetCentre x = new SeptetCentre();
        x.register(0, 7);
        x.register(1, 8);
        x.power(1, true);
        boolean thrown = false;
        try {
            for (int k = 0; k < 45000; k++) {
                if (k % 500 == 0) {
                    x.send(0, k % 1000 == 0 ? 8 : 7, 143, true);
                    x.receive();
                }
                x.advance(100000);
                x.take(1);
                x.report(0);
            }
        } catch (RuntimeException any) {
            any.printStackTrace(System.out);
            thrown = true;
        }
        due.is("throws", thrown, false);
    }
}
