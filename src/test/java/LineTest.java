/** Promises 14 and 15: waiting, byteAt. */
public final class LineTest {
    private static final Due due = new Due("LineTest");

    public static void main(String[] args) {
        waitingEdges();
        waitingCounts();
        byteAtEdges();
        byteAtFirst();
        due.end();
    }

    /** One row in the uplink, two DELIVERs for device 2, three REPORTs for device 3. */
    private static SeptetCentre filled() {
        SeptetCentre x = Steps.ready();
        x.send(3, 1003, 0, true);
        x.type('a', 1);
        x.send(3, 1003, 0, true);
        x.send(3, 5, 0, true);
        Steps.receiveAll(x);
        x.advance(0);
        x.send(0, 1003, 0, false);
        return x;
    }

    private static void waitingEdges() {
        due.about("promise 14, edges");
        SeptetCentre x = filled();
        int[] bad = {-2, 8, 9, Integer.MAX_VALUE, Integer.MIN_VALUE};
        for (int d : bad) {
            due.is("waiting(" + d + ")", x.waiting(d), -1);
        }
    }

    private static void waitingCounts() {
        due.about("promise 14, counts");
        SeptetCentre x = filled();
        int[] counts = {1, 0, 0, 2, 0, 0, 0, 0, 3};
        for (int d = -1; d < 8; d++) {
            due.is("waiting(" + d + ")", x.waiting(d), counts[d + 1]);
        }
        x.take(2);
        x.report(3);
        x.send(0, 1003, 0, false);
        int[] later = {2, 0, 0, 1, 0, 0, 0, 0, 2};
        for (int d = -1; d < 8; d++) {
            due.is("waiting(" + d + ")", x.waiting(d), later[d + 1]);
        }
    }

    private static void byteAtEdges() {
        due.about("promise 15, edges");
        SeptetCentre x = filled();
        int[] others = {-2, 8, 9, Integer.MAX_VALUE, Integer.MIN_VALUE};
        for (int d : others) {
            due.is("byteAt(" + d + ", 0)", x.byteAt(d, 0), -2);
        }
        int[] lines = {-1, 2, 7};
        int[] sizes = {11, 15, 21};
        for (int k = 0; k < lines.length; k++) {
            due.is("byteAt(" + lines[k] + ", -1)", x.byteAt(lines[k], -1), -2);
            due.is("byteAt(" + lines[k] + ", 0)", x.byteAt(lines[k], 0) >= 0, true);
            due.is("byteAt(" + lines[k] + ", last)", x.byteAt(lines[k], sizes[k] - 1) >= 0, true);
            due.is("byteAt(" + lines[k] + ", size)", x.byteAt(lines[k], sizes[k]), -2);
            due.is("byteAt(" + lines[k] + ", most int)", x.byteAt(lines[k], Integer.MAX_VALUE), -2);
            due.is("byteAt(" + lines[k] + ", least int)", x.byteAt(lines[k], Integer.MIN_VALUE), -2);
        }
        int[] empty = {0, 1, 3, 4, 5, 6};
        for (int d : empty) {
            due.is("byteAt(" + d + ", 0)", x.byteAt(d, 0), -2);
        }
    }

    private static void byteAtFirst() {
        due.about("promise 15, the first row");
        SeptetCentre x = filled();
        due.is("uplink", Steps.row(x, -1).equals("17 0 4 145 1 48 0 0 0 1 97"), true);
        due.is("inbox", Steps.row(x, 2).equals("4 4 145 1 64 0 0 0 0 0 0 0 0 0 0"), true);
        x.take(2);
        due.is("inbox", Steps.row(x, 2).equals("4 4 145 1 64 0 0 0 0 0 0 0 0 0 1 97"), true);
        x.report(3);
        x.report(3);
        due.is("reports", Steps.row(x, 7).equals("2 2 1 145 245 0 0 0 0 0 0 0 0 0 0 0 0 0 0 73"), true);
    }
}
