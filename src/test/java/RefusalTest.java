import java.util.ArrayList;
import java.util.List;

/**
 * "A call that answers false or less than 0 changes nothing, where nothing else is said": each such call, in
 * objects of several states, is followed by all that can be seen of the object; an object of the same state
 * without the call shows the same.
 */
public final class RefusalTest {
    private static final Due due = new Due("RefusalTest");
    private static final int LEAST = Integer.MIN_VALUE;
    private static final int MOST = Integer.MAX_VALUE;
    private static final int[] NO_DEVICES = {-1, 4, LEAST, MOST};
    private static final long[] NO_NUMBERS = {0, -1, 1000000000000L, Long.MIN_VALUE, Long.MAX_VALUE};
    private static final long[] NUMBERS = {11, 22, 33, 44};

    private interface Scene {
        SeptetCentre make();
    }

    private interface Call {
        long on(SeptetCentre x);
    }

    private record Refusal(String name, Call call, long answer) {
    }

    private static final List<Refusal> refusals = new ArrayList<>();

    public static void main(String[] args) {
        newObject();
        busy();
        read();
        alien();
        full();
        fullWithLongDraft();
        roomForOne();
        roomForTwo();
        hundred();
        illegalTakesOffTheRowAlone();
        partsThatAreNotAllThereLeaveTheText();
        due.end();
    }

    private static void refused(String name, long answer, Call call) {
        refusals.add(new Refusal(name, call, answer));
    }

    private static void refusedCheck(String name, Check check) {
        refusals.add(new Refusal(name, x -> check.on(x) ? 1 : 0, 0));
    }

    private interface Check {
        boolean on(SeptetCentre x);
    }

    /** Compares the views of a scene with and without each of the calls, and forgets the calls. */
    private static void changeNothing(String scene, Scene make) {
        due.about("changes nothing, " + scene);
        refusedAnywhere();
        for (int view = 0; view < Portrait.VIEWS; view++) {
            String without = Portrait.view(view, make.make(), NUMBERS);
            for (Refusal refusal : refusals) {
                SeptetCentre x = make.make();
                due.is(refusal.name, refusal.call.on(x), refusal.answer);
                String with = Portrait.view(view, x, NUMBERS);
                due.is(refusal.name + " leaves view " + view, with.equals(without), true);
            }
        }
        refusals.clear();
    }

    private static void refusedAnywhere() {
        for (int d : NO_DEVICES) {
            refusedCheck("register(" + d + ", 5)", x -> x.register(d, 5));
            refusedCheck("power(" + d + ", true)", x -> x.power(d, true));
            refusedCheck("power(" + d + ", false)", x -> x.power(d, false));
            refused("send(" + d + ", 33, 0, true)", -1, x -> x.send(d, 33, 0, true));
            refused("take(" + d + ")", -1, x -> x.take(d));
            refusedCheck("copy(" + d + ")", x -> x.copy(d));
            refusedCheck("swap(" + d + ")", x -> x.swap(d));
            refused("report(" + d + ")", -1, x -> x.report(d));
            refused("text(" + d + ", 0)", -2, x -> x.text(d, 0));
            refused("sender(" + d + ")", 0, x -> x.sender(d));
        }
        for (long number : NO_NUMBERS) {
            for (int d = 0; d < 4; d++) {
                int device = d;
                refusedCheck("register(" + d + ", " + number + ")", x -> x.register(device, number));
                refused("send(" + d + ", " + number + ", 0, true)", -1, x -> x.send(device, number, 0, true));
            }
        }
        refusedByLimits();
    }

    private static void refusedByLimits() {
        for (int n : new int[] {0, -1, 161, LEAST, MOST}) {
            refusedCheck("type(a, " + n + ")", x -> x.type('a', n));
        }
        for (int validity : new int[] {-1, 144, LEAST, MOST}) {
            refused("send(0, 33, " + validity + ", true)", -1, x -> x.send(0, 33, validity, true));
        }
        for (int i : new int[] {-1, 1000, LEAST, MOST}) {
            refusedCheck("alter(" + i + ", 1)", x -> x.alter(i, 1));
            refused("byteAt(-1, " + i + ")", -2, x -> x.byteAt(-1, i));
            refused("text(2, " + i + ")", -2, x -> x.text(2, i));
        }
        for (int change : new int[] {0, -1, 256, LEAST, MOST}) {
            refusedCheck("alter(0, " + change + ")", x -> x.alter(0, change));
        }
        for (int by : new int[] {-1, 100001, LEAST, MOST}) {
            refused("advance(" + by + ")", -1, x -> x.advance(by));
        }
        for (int d : new int[] {-2, 8, LEAST, MOST}) {
            refused("waiting(" + d + ")", -1, x -> x.waiting(d));
            refused("byteAt(" + d + ", 0)", -2, x -> x.byteAt(d, 0));
        }
        for (int m : new int[] {-1, 100, LEAST, MOST}) {
            refused("state(" + m + ")", -2, x -> x.state(m));
            refused("offers(" + m + ")", -2, x -> x.offers(m));
        }
    }

    private static void emptyInbox(int d) {
        refused("take(" + d + "), empty", -100, x -> x.take(d));
        refusedCheck("copy(" + d + "), empty", x -> x.copy(d));
        refusedCheck("swap(" + d + "), empty", x -> x.swap(d));
        refused("byteAt(" + d + ", 0), empty", -2, x -> x.byteAt(d, 0));
    }

    private static void emptyReports(int d) {
        refused("report(" + d + "), none", -2, x -> x.report(d));
        refused("byteAt(" + (4 + d) + ", 0), none", -2, x -> x.byteAt(4 + d, 0));
    }

    private static void refusedSends(int devices, String why, int answer) {
        for (int d = 0; d < devices; d++) {
            int device = d;
            refused("send(" + d + ", 33, 0, true), " + why, answer, x -> x.send(device, 33, 0, true));
        }
    }

    private static void emptyUplink() {
        refusedCheck("alter(0, 1), none", x -> x.alter(0, 1));
        refused("receive(), none", -2, x -> x.receive());
        refused("byteAt(-1, 0), none", -2, x -> x.byteAt(-1, 0));
    }

    private static void newObject() {
        emptyUplink();
        for (int d = 0; d < 4; d++) {
            emptyInbox(d);
            emptyReports(d);
        }
        refusedSends(4, "no number", -1);
        refused("state(0)", -2, x -> x.state(0));
        refused("offers(0)", -2, x -> x.offers(0));
        changeNothing("a new object", SeptetCentre::new);
    }

    /** One text of one part for a number, accepted by the centre. */
    private static void accept(SeptetCentre x, int d, long to, int validity) {
        x.send(d, to, validity, true);
        x.receive();
    }

    /**
     * Device 2 is on, has a text, piles and two DELIVERs, device 0 has one DELIVER; device 1 is off, with
     * messages that wait for it; device 3 has no number. There are reports of all kinds, and three rows in the
     * uplink.
     */
    private static SeptetCentre busyCentre() {
        SeptetCentre x = new SeptetCentre();
        for (int d = 0; d < 3; d++) {
            x.register(d, NUMBERS[d]);
        }
        x.power(2, true);
        x.power(0, true);
        Steps.sendPart(x, 0, 33, new int[] {1, 2, 1}, "a");
        x.receive();
        Steps.sendPart(x, 1, 33, new int[] {2, 3, 3}, "b");
        x.receive();
        Steps.draft(x, "hey");
        accept(x, 0, 33, 0);
        accept(x, 1, 22, 0);
        accept(x, 0, 99, 0);
        x.advance(5);
        x.take(2);
        x.take(2);
        x.take(2);
        accept(x, 1, 33, 0);
        accept(x, 0, 33, 0);
        accept(x, 2, 11, 0);
        accept(x, 0, 22, 20);
        x.advance(2);
        accept(x, 2, 22, 20);
        Steps.draft(x, "ab[");
        x.send(0, 33, 1, true);
        x.send(1, 22, 2, false);
        x.send(2, 11, 3, true);
        return x;
    }

    private static void busy() {
        SeptetCentre x = busyCentre();
        due.about("the busy scene");
        int[] waiting = {3, 1, 0, 2, 0, 3, 2, 1, 0};
        for (int d = -1; d < 8; d++) {
            due.is("waiting(" + d + ")", x.waiting(d), waiting[d + 1]);
        }
        int[] states = {1, 1, 1, 2, 3, 1, 1, 1, 0, 0};
        for (int m = 0; m < states.length; m++) {
            due.is("state(" + m + ")", x.state(m), states[m]);
        }
        emptyInbox(1);
        emptyInbox(3);
        emptyReports(3);
        refusedCheck("swap(0), one", y -> y.swap(0));
        refused("send(3, 33, 0, true), no number", -1, y -> y.send(3, 33, 0, true));
        refused("text(2, 3), behind the last", -2, y -> y.text(2, 3));
        refused("text(0, 0), none", -2, y -> y.text(0, 0));
        refused("state(10), not yet", -2, y -> y.state(10));
        refused("offers(10), not yet", -2, y -> y.offers(10));
        refusedCheck("alter(13, 1), behind the last", y -> y.alter(13, 1));
        refused("byteAt(-1, 13), behind the last", -2, y -> y.byteAt(-1, 13));
        changeNothing("a busy object", RefusalTest::busyCentre);
    }

    private static void alien() {
        refusedSends(3, "alien", -4);
        changeNothing("a draft with a character of no alphabet", () -> {
            SeptetCentre x = busyCentre();
            x.type('`', 1);
            return x;
        });
    }

    /** Twelve wait, and the uplink, the inbox of device 2 and the reports of device 0 have no room. */
    private static SeptetCentre fullCentre() {
        SeptetCentre x = new SeptetCentre();
        for (int d = 0; d < 4; d++) {
            x.register(d, NUMBERS[d]);
        }
        x.power(2, true);
        for (int k = 0; k < 6; k++) {
            x.type('c', 1);
            accept(x, 0, 33, 0);
        }
        x.advance(0);
        x.wipe();
        for (int k = 0; k < 12; k++) {
            accept(x, k % 2, k < 6 ? 22 : 33, 143);
        }
        x.advance(1);
        x.type('d', 1);
        for (int k = 0; k < 8; k++) {
            x.send(k % 4, 33, k, true);
        }
        return x;
    }

    private static void full() {
        SeptetCentre x = fullCentre();
        due.about("the full scene");
        int[] waiting = {8, 0, 0, 6, 0, 6, 0, 0, 0};
        for (int d = -1; d < 8; d++) {
            due.is("waiting(" + d + ")", x.waiting(d), waiting[d + 1]);
        }
        refused("receive(), twelve wait", -3, y -> y.receive());
        refusedCheck("copy(2), no room", y -> y.copy(2));
        refusedSends(4, "no room", -3);
        changeNothing("a full object", RefusalTest::fullCentre);
    }

    private static void fullWithLongDraft() {
        refusedSends(4, "long", -5);
        refusedCheck("type(a, 1), no room", x -> x.type('a', 1));
        refusedCheck("type(a, 160), no room", x -> x.type('a', 160));
        changeNothing("a full draft", () -> withLongDraft(fullCentre(), 159));
    }

    /** Adds 320 characters and so many more to the draft. */
    private static SeptetCentre withLongDraft(SeptetCentre x, int more) {
        x.type('a', 160);
        x.type('b', 160);
        x.type('c', more);
        return x;
    }

    /** Nothing of what is too much comes to the draft, not even as much as there is room for. */
    private static void roomForOne() {
        refusedCheck("type(a, 2), room for one", x -> x.type('a', 2));
        refusedCheck("type(a, 160), room for one", x -> x.type('a', 160));
        changeNothing("a draft with room for one", () -> withLongDraft(fullCentre(), 158));
    }

    /** All inboxes, reports and the uplink are empty, but device 2 is on and has a text and piles. */
    private static SeptetCentre readCentre() {
        SeptetCentre x = new SeptetCentre();
        for (int d = 0; d < 4; d++) {
            x.register(d, NUMBERS[d]);
            x.power(d, true);
        }
        Steps.sendPart(x, 0, 33, new int[] {1, 2, 1}, "a");
        x.receive();
        Steps.sendPart(x, 1, 33, new int[] {2, 3, 3}, "b");
        x.receive();
        Steps.draft(x, "hey");
        accept(x, 0, 33, 0);
        x.advance(3);
        x.take(2);
        x.take(2);
        x.take(2);
        x.report(0);
        return x;
    }

    private static void read() {
        emptyUplink();
        for (int d = 0; d < 4; d++) {
            emptyInbox(d);
            emptyReports(d);
        }
        refused("text(2, 3), behind the last", -2, x -> x.text(2, 3));
        refused("state(3), not yet", -2, x -> x.state(3));
        changeNothing("an object that has been read", RefusalTest::readCentre);
    }

    /** Of three parts not even the two come for which there is room. */
    private static void roomForTwo() {
        refusedSends(4, "three for two", -3);
        changeNothing("room for two of three parts", () -> {
            SeptetCentre x = new SeptetCentre();
            for (int d = 0; d < 4; d++) {
                x.register(d, NUMBERS[d]);
            }
            for (int k = 0; k < 6; k++) {
                x.send(k % 4, 33, k, true);
            }
            x.type('a', 160);
            x.type('b', 147);
            return x;
        });
    }

    /** A hundred messages, sent in parts for an unknown number; more rows are in the uplink. */
    private static SeptetCentre hundredCentre() {
        SeptetCentre x = new SeptetCentre();
        for (int d = 0; d < 4; d++) {
            x.register(d, NUMBERS[d]);
        }
        x.type('a', 160);
        x.type('b', 160);
        for (int k = 0; k < 100; k++) {
            if (k % 3 == 0) {
                x.send(k % 4, 99, 0, k == 0);
            }
            x.receive();
            if (k % 12 == 11) {
                x.advance(1);
            }
        }
        return x;
    }

    private static void hundred() {
        SeptetCentre x = hundredCentre();
        due.about("the scene of a hundred messages");
        due.is("state(95)", x.state(95), 3);
        due.is("state(99)", x.state(99), 0);
        due.is("waiting(-1)", x.waiting(-1), 2);
        refused("receive(), there were 100", -3, y -> y.receive());
        changeNothing("a hundred messages", RefusalTest::hundredCentre);
    }

    private static void illegalTakesOffTheRowAlone() {
        due.about("ILLEGAL takes the row off and changes nothing else");
        SeptetCentre x = busyCentre();
        x.alter(3, 1);
        due.is("receive()", x.receive(), -6);
        due.is("waiting(-1)", x.waiting(-1), 2);
        due.is("the row behind it is the first", x.byteAt(-1, 7), 2);
        due.is("state(10)", x.state(10), -2);
        due.is("offers(10)", x.offers(10), -2);
        due.is("receive()", x.receive(), 10);
        due.is("receive()", x.receive(), 11);
        x.send(0, 33, 0, true);
        due.is("the message number goes on", x.byteAt(-1, 1), 6);
        int[] waiting = {1, 1, 0, 2, 0, 3, 2, 1, 0};
        for (int d = -1; d < 8; d++) {
            due.is("waiting(" + d + ")", x.waiting(d), waiting[d + 1]);
        }
        due.is("time()", x.time(), 7);
    }

    private static void partsThatAreNotAllThereLeaveTheText() {
        due.about("take answers less than 0 and says what changes");
        SeptetCentre x = busyCentre();
        due.is("text", Steps.text(x, 2).equals("hey"), true);
        x.take(2);
        x.take(2);
        Steps.receiveAll(x);
        x.advance(0);
        x.take(2);
        Steps.sendPart(x, 1, 33, new int[] {2, 3, 1}, "q");
        x.receive();
        x.advance(0);
        due.is("take(2)", x.take(2), -2);
        due.is("text", Steps.text(x, 2).equals("ab["), true);
        due.is("sender(2)", x.sender(2), 11);
    }
}
