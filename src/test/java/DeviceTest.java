/** Promises 1 to 3: a new object, register, power. */
public final class DeviceTest {
    private static final Due due = new Due("DeviceTest");

    public static void main(String[] args) {
        newObjectIsEmpty();
        newDevicesHaveNoNumberAndAreOff();
        newDraftIsEmpty();
        registerEdges();
        registerAgain();
        refusedRegisterChangesNothing();
        leastOfSeveral();
        powerEdges();
        powerOnAndOff();
        objectsAreApart();
        due.end();
    }

    private static void newObjectIsEmpty() {
        due.about("promise 1, nothing is there");
        SeptetCentre x = new SeptetCentre();
        for (int d = -1; d < 8; d++) {
            due.is("waiting(" + d + ")", x.waiting(d), 0);
            due.is("byteAt(" + d + ", 0)", x.byteAt(d, 0), -2);
        }
        for (int d = 0; d < 4; d++) {
            due.is("take(" + d + ")", x.take(d), -100);
            due.is("report(" + d + ")", x.report(d), -2);
            due.is("text(" + d + ", 0)", x.text(d, 0), -2);
            due.is("sender(" + d + ")", x.sender(d), 0);
            due.is("copy(" + d + ")", x.copy(d), false);
            due.is("swap(" + d + ")", x.swap(d), false);
        }
        due.is("alter(0, 1)", x.alter(0, 1), false);
        due.is("receive()", x.receive(), -2);
        due.is("state(0)", x.state(0), -2);
        due.is("offers(0)", x.offers(0), -2);
        due.is("time()", x.time(), 0);
        due.is("advance(0)", x.advance(0), 0);
    }

    private static void newDevicesHaveNoNumberAndAreOff() {
        due.about("promise 1, no number and off");
        for (int d = 0; d < 4; d++) {
            SeptetCentre x = new SeptetCentre();
            due.is("send from " + d, x.send(d, 7, 0, false), -1);
            x.register(d, 7);
            due.is("send from " + d, x.send(d, 7, 0, false), 1);
            due.is("receive()", x.receive(), 0);
            due.is("advance(0)", x.advance(0), 0);
            due.is("offers(0)", x.offers(0), 1);
            due.is("waiting(" + d + ")", x.waiting(d), 0);
        }
    }

    private static void newDraftIsEmpty() {
        due.about("promise 1, the draft");
        SeptetCentre x = new SeptetCentre();
        x.register(0, 7);
        x.send(0, 7, 0, false);
        due.is("length", x.byteAt(-1, 8), 0);
        due.is("no byte behind it", x.byteAt(-1, 9), -2);
    }

    private static void registerEdges() {
        due.about("promise 2, edges");
        SeptetCentre x = new SeptetCentre();
        due.is("register(-1, 5)", x.register(-1, 5), false);
        due.is("register(4, 5)", x.register(4, 5), false);
        due.is("register(least int, 5)", x.register(Integer.MIN_VALUE, 5), false);
        due.is("register(most int, 5)", x.register(Integer.MAX_VALUE, 5), false);
        due.is("register(0, 0)", x.register(0, 0), false);
        due.is("register(0, -1)", x.register(0, -1), false);
        due.is("register(0, 10^12)", x.register(0, 1000000000000L), false);
        due.is("register(0, least long)", x.register(0, Long.MIN_VALUE), false);
        due.is("register(0, most long)", x.register(0, Long.MAX_VALUE), false);
        due.is("send", x.send(0, 1, 0, false), -1);
        due.is("register(0, 1)", x.register(0, 1), true);
        due.is("register(3, 10^12 - 1)", x.register(3, 999999999999L), true);
        due.is("send", x.send(0, 1, 0, false), 1);
        due.is("send", x.send(3, 1, 0, false), 1);
    }

    private static void registerAgain() {
        due.about("promise 2, another number");
        SeptetCentre x = Steps.ready();
        x.register(1, 77);
        x.send(0, 1002, 0, false);
        x.send(0, 77, 0, false);
        Steps.receiveAll(x);
        due.is("advance(0)", x.advance(0), 2);
        due.is("state(0)", x.state(0), 3);
        due.is("state(1)", x.state(1), 1);
        due.is("waiting(1)", x.waiting(1), 1);
    }

    private static void refusedRegisterChangesNothing() {
        due.about("promise 2, refused");
        SeptetCentre x = Steps.ready();
        x.register(1, 0);
        x.register(1, 1000000000000L);
        x.send(1, 1002, 0, false);
        x.receive();
        due.is("advance(0)", x.advance(0), 1);
        due.is("waiting(1)", x.waiting(1), 1);
    }

    private static void leastOfSeveral() {
        due.about("promises 2 and 9, several devices with one number");
        SeptetCentre x = Steps.ready();
        x.register(1, 55);
        x.register(3, 55);
        x.send(0, 55, 0, false);
        x.receive();
        x.advance(0);
        due.is("waiting(1)", x.waiting(1), 1);
        due.is("waiting(3)", x.waiting(3), 0);
        x.power(1, false);
        x.send(0, 55, 0, false);
        x.receive();
        due.is("advance(0): only the least counts", x.advance(0), 0);
        due.is("waiting(3)", x.waiting(3), 0);
        x.register(1, 56);
        due.is("advance(1)", x.advance(1), 1);
        due.is("waiting(3)", x.waiting(3), 1);
    }

    private static void powerEdges() {
        due.about("promise 3, edges");
        SeptetCentre x = new SeptetCentre();
        for (int d = 0; d < 4; d++) {
            due.is("power(" + d + ", true)", x.power(d, true), true);
            due.is("power(" + d + ", true) again", x.power(d, true), true);
            due.is("power(" + d + ", false)", x.power(d, false), true);
        }
        due.is("power(-1, true)", x.power(-1, true), false);
        due.is("power(4, false)", x.power(4, false), false);
        due.is("power(most int, true)", x.power(Integer.MAX_VALUE, true), false);
        due.is("power(least int, true)", x.power(Integer.MIN_VALUE, true), false);
    }

    private static void powerOnAndOff() {
        due.about("promise 3, on and off");
        SeptetCentre x = Steps.ready();
        x.power(2, false);
        x.send(0, 1003, 143, false);
        x.receive();
        due.is("off", x.advance(0), 0);
        x.power(2, true);
        due.is("on", x.advance(1), 1);
        x.power(2, false);
        due.is("take while off", x.take(2), 0);
        due.is("send while off", x.send(2, 1001, 0, false), 1);
    }

    private static void objectsAreApart() {
        due.about("promise 1, two objects");
        SeptetCentre x = Steps.ready();
        SeptetCentre y = new SeptetCentre();
        x.type('a', 5);
        x.send(0, 1002, 0, false);
        x.advance(9);
        due.is("waiting(-1)", y.waiting(-1), 0);
        due.is("time()", y.time(), 0);
        y.register(0, 3);
        y.send(0, 3, 0, false);
        due.is("length", y.byteAt(-1, 8), 0);
    }
}
