/** Promises 9, 13, 18, 19 and 20: advance with its schedule, report, state, offers, time. */
public final class AdvanceTest {
    private static final Due due = new Due("AdvanceTest");

    public static void main(String[] args) {
        advanceEdges();
        schedule();
        scheduleInOneGo();
        tooOldByValidity();
        tooOldBeforeOffer();
        unknown();
        noRoom();
        earliestMomentFirst();
        leastNumberFirst();
        offeredLateIsStillByMoment();
        onlyReceivedOnesAreDealtWith();
        settledOnce();
        deliverBytes();
        reportBytes();
        reportEdges();
        reportLineIsFull();
        reportsWantedOnly();
        reportOfParts();
        stateAndOffersEdges();
        due.end();
    }

    /** A centre where device 1 (1002) is off and a message with this validity to it waits. */
    private static SeptetCentre waiting(int validity) {
        SeptetCentre x = Steps.ready();
        x.power(1, false);
        x.send(0, 1002, validity, true);
        x.receive();
        return x;
    }

    private static void advanceEdges() {
        due.about("promises 9 and 20, edges");
        SeptetCentre x = new SeptetCentre();
        due.is("advance(-1)", x.advance(-1), -1);
        due.is("advance(100001)", x.advance(100001), -1);
        due.is("advance(least int)", x.advance(Integer.MIN_VALUE), -1);
        due.is("advance(most int)", x.advance(Integer.MAX_VALUE), -1);
        due.is("time()", x.time(), 0);
        due.is("advance(0)", x.advance(0), 0);
        due.is("time()", x.time(), 0);
        due.is("advance(100000)", x.advance(100000), 0);
        due.is("time()", x.time(), 100000);
        due.is("advance(1)", x.advance(1), 0);
        due.is("time()", x.time(), 100001);
        for (int k = 0; k < 400; k++) {
            x.advance(100000);
        }
        due.is("time()", x.time(), 40100001);
        x = waiting(0);
        due.is("advance(100001)", x.advance(100001), -1);
        due.is("offers(0)", x.offers(0), 0);
        due.is("state(0)", x.state(0), 0);
    }

    private static void schedule() {
        due.about("promises 9 and 19, the schedule");
        SeptetCentre x = waiting(143);
        due.is("offers before", x.offers(0), 0);
        due.is("advance(0)", x.advance(0), 0);
        due.is("offers at 0", x.offers(0), 1);
        x.advance(0);
        due.is("offers at 0, once", x.offers(0), 1);
        int[][] rows = {{1, 2}, {4, 2}, {5, 3}, {20, 3}, {21, 4}, {36, 4}, {37, 5}, {52, 5}, {53, 6}, {68, 6}, {69, 7}};
        for (int[] row : rows) {
            x.advance(row[0] - x.time());
            due.is("offers at " + row[0], x.offers(0), row[1]);
            due.is("state at " + row[0], x.state(0), 0);
        }
        due.is("advance to 719", x.advance(719 - x.time()), 0);
        due.is("offers", x.offers(0), 3 + 44);
        due.is("advance to 720", x.advance(1), 1);
        due.is("state(0)", x.state(0), 2);
        due.is("offers", x.offers(0), 3 + 44);
    }

    private static void scheduleInOneGo() {
        due.about("promise 9, a long way in one call");
        SeptetCentre x = Steps.ready();
        x.power(1, false);
        x.advance(3);
        for (int k = 0; k < 12; k++) {
            x.send(0, 1002, 143, false);
            x.receive();
        }
        due.is("advance(100000)", x.advance(100000), 12);
        for (int k = 0; k < 12; k++) {
            due.is("offers", x.offers(k), 47);
            due.is("state", x.state(k), 2);
        }
        due.is("time()", x.time(), 100003);
    }

    private static void tooOldByValidity() {
        due.about("promise 9, too old");
        for (int validity = 0; validity <= 143; validity++) {
            SeptetCentre x = waiting(validity);
            int age = 5 * (validity + 1);
            due.is("one before " + age, x.advance(age - 1), 0);
            due.is("state", x.state(0), 0);
            due.is("at " + age, x.advance(1), 1);
            due.is("state", x.state(0), 2);
            due.is("report", x.report(0), 256 * 70);
        }
    }

    private static void tooOldBeforeOffer() {
        due.about("promise 9, too old at the moment of an offer");
        SeptetCentre x = waiting(0);
        x.advance(4);
        x.power(1, true);
        due.is("advance(1)", x.advance(1), 1);
        due.is("state(0)", x.state(0), 2);
        due.is("offers(0)", x.offers(0), 2);
        due.is("waiting(1)", x.waiting(1), 0);
        // Offers at 0, 1, 5, 21, 37, .. 5 + 16 k: too old is 5 (v + 1), so both meet at 85 for v = 16.
        x = waiting(16);
        x.advance(84);
        due.is("offers(0)", x.offers(0), 7);
        x.power(1, true);
        due.is("advance(1)", x.advance(1), 1);
        due.is("state(0)", x.state(0), 2);
        due.is("offers(0)", x.offers(0), 7);
    }

    private static void unknown() {
        due.about("promise 9, nobody has the number");
        SeptetCentre x = Steps.ready();
        x.advance(8);
        x.send(2, 5, 3, true);
        x.receive();
        due.is("advance(50)", x.advance(50), 1);
        due.is("state(0)", x.state(0), 3);
        due.is("offers(0)", x.offers(0), 1);
        due.is("REPORT", Steps.row(x, 6).equals("2 0 1 145 245 0 0 0 0 0 0 128 0 0 0 0 0 0 128 73"), true);
        x.power(1, false);
        x.send(0, 1002, 9, false);
        x.receive();
        x.advance(0);
        x.register(1, 6);
        due.is("the number is gone before the second offer", x.advance(1), 1);
        due.is("state(1)", x.state(1), 3);
        due.is("offers(1)", x.offers(1), 2);
    }

    private static void noRoom() {
        due.about("promise 9, the inbox has no room");
        SeptetCentre x = Steps.ready();
        for (int k = 0; k < 8; k++) {
            x.send(0, 1002, 143, false);
        }
        Steps.receiveAll(x);
        due.is("advance(0)", x.advance(0), 6);
        due.is("waiting(1)", x.waiting(1), 6);
        due.is("state(5)", x.state(5), 1);
        due.is("state(6)", x.state(6), 0);
        due.is("offers(6)", x.offers(6), 1);
        x.take(1);
        due.is("not before its time", x.advance(0), 0);
        due.is("advance(1)", x.advance(1), 1);
        due.is("state(6)", x.state(6), 1);
        due.is("state(7)", x.state(7), 0);
        due.is("offers(7)", x.offers(7), 2);
        x.take(1);
        due.is("advance(3)", x.advance(3), 0);
        due.is("advance(1)", x.advance(1), 1);
        due.is("offers(7)", x.offers(7), 3);
    }

    private static void earliestMomentFirst() {
        due.about("promise 9, the earliest moment first");
        SeptetCentre x = Steps.ready();
        x.power(1, false);
        x.send(0, 1002, 143, true);
        x.receive();
        x.advance(2);
        // Message 0 is due at 5, message 1 (accepted at 2) at 2.
        x.send(2, 1002, 143, true);
        x.receive();
        x.power(1, true);
        due.is("advance(10)", x.advance(10), 2);
        due.is("take", x.take(1), 0);
        due.is("the second message came first", x.sender(1), 1003);
        due.is("take", x.take(1), 0);
        due.is("then the first", x.sender(1), 1001);
        due.is("settled at 5", x.byteAt(4, 19), 0x50);
        due.is("settled at 2", x.byteAt(6, 19), 0x20);
    }

    private static void leastNumberFirst() {
        due.about("promise 9, of the same moment the least number");
        SeptetCentre x = Steps.ready();
        for (int d = 3; d >= 0; d--) {
            x.send(d, 1002, 0, false);
        }
        Steps.receiveAll(x);
        due.is("advance(0)", x.advance(0), 4);
        for (int d = 3; d >= 0; d--) {
            x.take(1);
            due.is("sender", x.sender(1), 1001 + d);
        }
        // Message 4 is accepted at 0 and offered at 0, 1 and 5; message 5 at 5 and due at 5 too.
        x.power(1, false);
        x.send(0, 1002, 143, false);
        x.receive();
        x.advance(4);
        x.send(2, 1002, 143, false);
        x.receive();
        x.advance(0);
        x.power(1, true);
        due.is("both at 5", x.advance(1), 2);
        x.take(1);
        due.is("sender", x.sender(1), 1001);
        x.take(1);
        due.is("sender", x.sender(1), 1003);
    }

    private static void offeredLateIsStillByMoment() {
        due.about("promise 9, too old by its moment, not by the time of the call");
        SeptetCentre x = Steps.ready();
        x.send(0, 1002, 0, true);
        x.receive();
        due.is("advance(1000)", x.advance(1000), 1);
        due.is("taken at 0", x.state(0), 1);
        due.is("REPORT", Steps.row(x, 4).equals("2 0 4 145 1 32 0 0 0 0 0 0 0 0 0 0 0 0 0 0 0"), true);
    }

    private static void onlyReceivedOnesAreDealtWith() {
        due.about("promise 9, rows in the uplink are no messages yet");
        SeptetCentre x = Steps.ready();
        x.send(0, 1002, 0, false);
        due.is("advance(50)", x.advance(50), 0);
        due.is("receive", x.receive(), 0);
        due.is("state(0)", x.state(0), 0);
        due.is("waiting(1)", x.waiting(1), 0);
        due.is("advance(0)", x.advance(0), 1);
        due.is("accepted at 50", x.byteAt(1, 13), 0x05);
    }

    private static void settledOnce() {
        due.about("promise 9, what is settled waits no more");
        SeptetCentre x = waiting(0);
        due.is("advance(5)", x.advance(5), 1);
        x.power(1, true);
        due.is("advance(100)", x.advance(100), 0);
        due.is("waiting(1)", x.waiting(1), 0);
        due.is("waiting(4)", x.waiting(4), 1);
        due.is("offers(0)", x.offers(0), 2);
        due.is("state(0)", x.state(0), 2);
    }

    private static void deliverBytes() {
        due.about("promise 9, the bytes of a DELIVER");
        SeptetCentre x = Steps.ready();
        x.register(0, 12345);
        x.advance(100000);
        x.advance(100000);
        x.advance(34567);
        Steps.draft(x, "hello");
        x.send(0, 1002, 0, true);
        x.receive();
        x.advance(99);
        due.is("DELIVER " + Steps.row(x, 1),
            Steps.row(x, 1).equals("4 5 145 33 67 245 0 0 0 0 0 0 50 84 118 5 232 50 155 253 6"), true);
    }

    private static void reportBytes() {
        due.about("promises 9 and 13, the bytes of a REPORT");
        SeptetCentre x = Steps.ready();
        x.power(1, false);
        x.advance(1234);
        x.send(0, 7, 0, false);
        x.send(0, 1002, 2, true);
        Steps.receiveAll(x);
        x.advance(1000);
        String want = "2 1 4 145 1 32 0 0 0 0 0 33 67 0 0 0 0 0 33 148 70";
        due.is("REPORT " + Steps.row(x, 4), Steps.row(x, 4).equals(want), true);
        due.is("report(0)", x.report(0), 256 * 70 + 1);
    }

    private static void reportEdges() {
        due.about("promise 13, edges");
        SeptetCentre x = waiting(0);
        due.is("report(-1)", x.report(-1), -1);
        due.is("report(4)", x.report(4), -1);
        due.is("report(most int)", x.report(Integer.MAX_VALUE), -1);
        due.is("report(0)", x.report(0), -2);
        x.advance(5);
        due.is("report(1)", x.report(1), -2);
        due.is("report(0)", x.report(0), 256 * 70);
        due.is("report(0)", x.report(0), -2);
    }

    private static void reportLineIsFull() {
        due.about("promise 9, no room for a REPORT");
        SeptetCentre x = Steps.ready();
        for (int k = 0; k < 8; k++) {
            x.send(0, 5, 0, true);
        }
        Steps.receiveAll(x);
        due.is("advance(0)", x.advance(0), 8);
        due.is("waiting(4)", x.waiting(4), 6);
        for (int k = 0; k < 6; k++) {
            due.is("report(0)", x.report(0), 256 * 73 + k);
        }
        due.is("report(0)", x.report(0), -2);
        due.is("no report comes later", x.advance(100), 0);
        due.is("waiting(4)", x.waiting(4), 0);
        due.is("state(7)", x.state(7), 3);
    }

    private static void reportsWantedOnly() {
        due.about("promise 9, reports are for those who want them");
        SeptetCentre x = Steps.ready();
        x.send(3, 1002, 0, false);
        x.send(3, 1002, 0, true);
        x.send(2, 5, 0, false);
        Steps.receiveAll(x);
        due.is("advance(0)", x.advance(0), 3);
        due.is("waiting(7)", x.waiting(7), 1);
        due.is("waiting(6)", x.waiting(6), 0);
        due.is("waiting(5)", x.waiting(5), 0);
        due.is("report(3)", x.report(3), 1);
    }

    private static void reportOfParts() {
        due.about("promise 13, a report for each part");
        SeptetCentre x = Steps.ready();
        Steps.type(x, 'a', 320);
        x.send(0, 1002, 0, true);
        Steps.receiveAll(x);
        due.is("advance(0)", x.advance(0), 3);
        due.is("kind", x.byteAt(1, 0), 68);
        for (int k = 0; k < 3; k++) {
            due.is("report(0)", x.report(0), k);
        }
    }

    private static void stateAndOffersEdges() {
        due.about("promises 18 and 19, edges");
        SeptetCentre x = waiting(0);
        int[] none = {-1, 1, 99, 100, Integer.MAX_VALUE, Integer.MIN_VALUE};
        for (int m : none) {
            due.is("state(" + m + ")", x.state(m), -2);
            due.is("offers(" + m + ")", x.offers(m), -2);
        }
        due.is("state(0)", x.state(0), 0);
        due.is("offers(0)", x.offers(0), 0);
        x.power(1, true);
        x.advance(0);
        due.is("state(0)", x.state(0), 1);
        due.is("offers(0)", x.offers(0), 1);
    }
}
