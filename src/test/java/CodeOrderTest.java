/**
 * "The codes of a call are tested in the order in which its comment names them": for each call with several
 * codes, states and arguments to which two or more of them apply.
 */
public final class CodeOrderTest {
    private static final Due due = new Due("CodeOrderTest");
    private static final int BAD = -1;
    private static final int NONE = -2;
    private static final int FULL = -3;
    private static final int ALIEN = -4;
    private static final int LONG = -5;
    private static final int ILLEGAL = -6;

    public static void main(String[] args) {
        sendInAllStates();
        receiveInAllStates();
        hundredBeforeIllegal();
        takeAndReport();
        due.end();
    }

    /** A centre to which of send's codes ALIEN, LONG and FULL those apply that are asked for. */
    private static SeptetCentre sending(boolean alien, boolean isLong, boolean full) {
        SeptetCentre x = new SeptetCentre();
        x.register(0, 11);
        for (int k = 0; full && k < 8; k++) {
            x.send(0, 22, 0, false);
        }
        if (isLong) {
            Steps.type(x, 'a', 460);
        }
        if (alien) {
            x.type((char) 0, 1);
        }
        return x;
    }

    private static void sendInAllStates() {
        due.about("promise 6: BAD, ALIEN, LONG, FULL");
        for (int set = 0; set < 8; set++) {
            boolean alien = (set & 1) != 0;
            boolean isLong = (set & 2) != 0;
            boolean full = (set & 4) != 0;
            String state = (alien ? "alien " : "") + (isLong ? "long " : "") + (full ? "full" : "");
            int rows = full ? 8 : 0;
            SeptetCentre x = sending(alien, isLong, full);
            due.is("no device, " + state, x.send(4, 22, 0, false), BAD);
            due.is("no device, " + state, x.send(-1, 22, 0, false), BAD);
            due.is("no number to send to, " + state, x.send(0, 0, 0, false), BAD);
            due.is("no number to send to, " + state, x.send(0, 1000000000000L, 0, false), BAD);
            due.is("no validity, " + state, x.send(0, 22, 144, false), BAD);
            due.is("no validity, " + state, x.send(0, 22, -1, false), BAD);
            due.is("device without number, " + state, x.send(1, 22, 0, false), BAD);
            due.is("rows, " + state, x.waiting(-1), rows);
            int want = alien ? ALIEN : isLong ? LONG : full ? FULL : 1;
            due.is("else, " + state, x.send(0, 22, 0, false), want);
            due.is("rows, " + state, x.waiting(-1), want == 1 ? 1 : rows);
        }
    }

    private static void receiveInAllStates() {
        due.about("promise 8: NONE, FULL, ILLEGAL");
        for (int set = 0; set < 8; set++) {
            boolean empty = (set & 1) != 0;
            boolean full = (set & 2) != 0;
            boolean illegal = (set & 4) != 0;
            SeptetCentre x = new SeptetCentre();
            x.register(0, 11);
            for (int k = 0; full && k < 12; k++) {
                x.send(0, 11, 0, false);
                x.receive();
            }
            if (!empty) {
                x.send(0, 11, 0, false);
            }
            if (illegal) {
                x.alter(0, 2);
            }
            String state = (empty ? "empty " : "") + (full ? "full " : "") + (illegal ? "illegal" : "");
            int want = empty ? NONE : full ? FULL : illegal ? ILLEGAL : 0;
            due.is("receive(), " + state, x.receive(), want);
            due.is("rows, " + state, x.waiting(-1), want == FULL ? 1 : 0);
            due.is("state(12), " + state, x.state(12), NONE);
        }
    }

    private static void hundredBeforeIllegal() {
        due.about("promise 8: NONE and FULL when there were 100");
        SeptetCentre x = new SeptetCentre();
        x.register(0, 11);
        for (int k = 0; k < 100; k++) {
            x.send(0, 99, 0, false);
            x.receive();
            x.advance(k % 12 == 11 ? 1 : 0);
        }
        due.is("empty and a hundred", x.receive(), NONE);
        x.send(0, 99, 0, false);
        x.alter(0, 2);
        due.is("illegal and a hundred", x.receive(), FULL);
        due.is("the row stays", x.waiting(-1), 1);
    }

    /** A device that there is not has no inbox and no reports: BAD is named before those are asked for. */
    private static void takeAndReport() {
        due.about("promises 10 and 13: BAD before an empty inbox and NONE");
        SeptetCentre x = new SeptetCentre();
        for (int d : new int[] {Integer.MIN_VALUE, -1, 4, Integer.MAX_VALUE}) {
            due.is("take(" + d + ")", x.take(d), BAD);
            due.is("report(" + d + ")", x.report(d), BAD);
        }
        for (int d = 0; d < 4; d++) {
            due.is("take(" + d + ")", x.take(d), -100);
            due.is("report(" + d + ")", x.report(d), NONE);
        }
    }
}
