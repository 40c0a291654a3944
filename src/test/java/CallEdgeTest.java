/**
 * The sentences of promises 1 to 20 that name a limit, each tested on both sides of it. What follows "about"
 * is the sentence, or as much of it as names the limit.
 */
public final class CallEdgeTest {
    private static final Due due = new Due("CallEdgeTest");
    private static final int BAD = -1;
    private static final int NONE = -2;
    private static final int FULL = -3;
    private static final int ALIEN = -4;
    private static final int LONG = -5;
    private static final int ILLEGAL = -6;
    private static final int LEAST = Integer.MIN_VALUE;
    private static final int MOST = Integer.MAX_VALUE;

    public static void main(String[] args) {
        nothingAtFirst();
        registerDevices();
        registerFromNowOn();
        powerDevices();
        powerOnOrOff();
        typeCounts();
        typeFullDraft();
        wipeAnyDraft();
        sendEmptyDraft();
        sendOneOrParts();
        sendMostSeptetsOfAPart();
        sendTwoSeptetsAtTheCut();
        sendReferences();
        sendReferencesGoRound();
        sendMessageNumbers();
        sendMessageNumbersGoRound();
        sendBad();
        sendAlien();
        sendLong();
        sendFull();
        alterBytes();
        alterValues();
        receiveEmpty();
        receiveNumberOfSender();
        receiveFull();
        receiveIllegal();
        advanceBy();
        advanceCounts();
        takeFromInbox();
        takeLacking();
        takePartTwice();
        takePileIsGone();
        takeEmptyTexts();
        takeLongestText();
        copyRoom();
        swapTwo();
        reportAnswers();
        waitingLines();
        byteAtBytes();
        textCharacters();
        senderDevices();
        stateMessages();
        offersMessages();
        timeGoesOn();
        due.end();
    }

    /** A centre whose devices have the numbers 1 .. 4 and are on. */
    private static SeptetCentre four() {
        SeptetCentre x = new SeptetCentre();
        for (int d = 0; d < 4; d++) {
            x.register(d, d + 1);
            x.power(d, true);
        }
        return x;
    }

    /** Sends the draft from device d to a number; the centre gets all of it and offers it. */
    private static void deliver(SeptetCentre x, int d, long to) {
        x.send(d, to, 0, false);
        Steps.receiveAll(x);
        x.advance(0);
    }

    /** A part of its own make comes from device 0 to device 1, which takes it. */
    private static void part(SeptetCentre x, int reference, int parts, int part, String text, int want) {
        Steps.sendPart(x, 0, 2, new int[] {reference, parts, part}, text);
        due.is("receive", x.receive() >= 0, true);
        due.is("advance(0)", x.advance(0), 1);
        due.is("take of " + part + "/" + parts + ", reference " + reference, x.take(1), want);
    }

    private static void textIs(SeptetCentre x, int d, String want) {
        String got = Steps.text(x, d);
        due.is("text \"" + got + "\", due is \"" + want + "\"", got.equals(want), true);
    }

    private static void nothingAtFirst() {
        due.about("1: Nothing registered, sent or stored; the draft text is empty");
        SeptetCentre x = new SeptetCentre();
        for (int d = 0; d < 4; d++) {
            due.is("send from " + d, x.send(d, 1, 0, false), BAD);
        }
        for (int d = -1; d < 8; d++) {
            due.is("waiting(" + d + ")", x.waiting(d), 0);
        }
        due.is("receive()", x.receive(), NONE);
        due.is("state(0)", x.state(0), NONE);
        for (int k = 0; k < 3; k++) {
            due.is("room for 480 characters", x.type('a', 160), true);
        }
        due.is("and no more", x.type('a', 1), false);
        x = new SeptetCentre();
        x.register(0, 1);
        x.send(0, 1, 0, false);
        due.is("length of the first draft", x.byteAt(-1, 8), 0);
    }

    private static void registerDevices() {
        due.about("2: False when d is not 0 .. 3 or number is none");
        for (int d : new int[] {LEAST, -2, -1, 0, 1, 2, 3, 4, 5, MOST}) {
            SeptetCentre x = new SeptetCentre();
            boolean is = d >= 0 && d <= 3;
            due.is("register(" + d + ", 1)", x.register(d, 1), is);
            due.is("send from " + d, x.send(d, 1, 0, false), is ? 1 : BAD);
            due.is("register(" + d + ", 0)", x.register(d, 0), false);
            due.is("register(" + d + ", 10^12)", x.register(d, 1000000000000L), false);
        }
    }

    private static void registerFromNowOn() {
        due.about("2: Device d has this number from now on");
        SeptetCentre x = four();
        x.send(0, 2, 0, false);
        x.send(0, 22, 0, false);
        Steps.receiveAll(x);
        x.register(1, 22);
        due.is("both are settled", x.advance(0), 2);
        due.is("the old number", x.state(0), 3);
        due.is("the new one", x.state(1), 1);
    }

    private static void powerDevices() {
        due.about("3: False when d is not 0 .. 3");
        for (int d : new int[] {LEAST, -2, -1, 0, 1, 2, 3, 4, 5, MOST}) {
            SeptetCentre x = new SeptetCentre();
            due.is("power(" + d + ", true)", x.power(d, true), d >= 0 && d <= 3);
            due.is("power(" + d + ", false)", x.power(d, false), d >= 0 && d <= 3);
        }
    }

    private static void powerOnOrOff() {
        due.about("3: Device d is on, or off");
        for (int d = 0; d < 4; d++) {
            SeptetCentre x = four();
            x.power(d, false);
            for (int to = 1; to <= 4; to++) {
                x.send(0, to, 143, false);
            }
            Steps.receiveAll(x);
            due.is("one of four is off", x.advance(0), 3);
            due.is("state(" + d + ")", x.state(d), 0);
            x.power(d, false);
            due.is("off twice is off", x.advance(1), 0);
            x.power(d, true);
            x.power(d, true);
            due.is("on", x.advance(4), 1);
        }
    }

    private static void typeCounts() {
        due.about("4: False when n is not 1 .. 160");
        for (int n : new int[] {LEAST, -160, -1, 0, 1, 2, 159, 160, 161, 162, 320, 480, MOST}) {
            SeptetCentre x = four();
            boolean is = n >= 1 && n <= 160;
            due.is("type(a, " + n + ")", x.type('a', n), is);
            x.send(0, 2, 0, false);
            due.is("length", x.byteAt(-1, 8), is ? n : 0);
        }
    }

    private static void typeFullDraft() {
        due.about("4: or the draft would have more than 480 characters");
        for (int more = 1; more <= 160; more += 53) {
            SeptetCentre x = new SeptetCentre();
            x.type('a', 160);
            x.type('[', 160);
            due.is("to " + (480 - more), more == 160 || x.type('`', 160 - more), true);
            due.is("to 481", x.type('a', more + 1), false);
            due.is("to 480", x.type('a', more), true);
            due.is("to 481", x.type('a', 1), false);
            due.is("to 640", x.type('a', 160), false);
        }
    }

    private static void wipeAnyDraft() {
        due.about("5: The draft text is empty");
        SeptetCentre x = four();
        x.wipe();
        x.type('`', 160);
        x.type('a', 160);
        x.type('a', 160);
        due.is("send", x.send(0, 2, 0, false), ALIEN);
        x.wipe();
        due.is("send", x.send(0, 2, 0, false), 1);
        due.is("length", x.byteAt(-1, 8), 0);
        x.wipe();
        for (int k = 0; k < 3; k++) {
            due.is("room for 480", x.type('a', 160), true);
        }
        due.is("and no more", x.type('a', 1), false);
    }

    private static void sendEmptyDraft() {
        due.about("6: the draft text, which may be empty and stays");
        SeptetCentre x = four();
        due.is("send", x.send(0, 2, 0, false), 1);
        due.is("row", Steps.row(x, -1).equals("17 0 1 145 242 0 0 0 0"), true);
        x.receive();
        x.type('a', 1);
        due.is("send", x.send(0, 2, 0, false), 1);
        due.is("send", x.send(0, 2, 0, false), 1);
        due.is("row", Steps.row(x, -1).equals("17 1 1 145 242 0 0 0 1 97"), true);
        x.receive();
        due.is("row", Steps.row(x, -1).equals("17 2 1 145 242 0 0 0 1 97"), true);
    }

    /** How many parts a text of so many characters of one and of two septets has. */
    private static void parts(int ones, int twos, int want) {
        SeptetCentre x = four();
        Steps.type(x, 'a', ones);
        Steps.type(x, '{', twos);
        due.is(ones + " of one septet, " + twos + " of two", x.send(0, 2, 0, false), want);
        due.is("rows", x.waiting(-1), Math.max(want, 0));
        if (want > 0) {
            due.is("first byte", x.byteAt(-1, 0), want == 1 ? 17 : 81);
        }
    }

    private static void sendOneOrParts() {
        due.about("6: When its septets are at most 160, it is one SUBMIT without header. Else it is cut into parts");
        parts(159, 0, 1);
        parts(160, 0, 1);
        parts(161, 0, 2);
        parts(0, 80, 1);
        parts(1, 80, 2);
        parts(158, 1, 1);
        parts(159, 1, 2);
        parts(0, 81, 2);
    }

    private static void sendMostSeptetsOfAPart() {
        due.about("6: as many of the next characters as have at most 153 septets together");
        parts(306, 0, 2);
        parts(307, 0, 3);
        parts(459, 0, 3);
        // Characters of two septets leave one of the 153 free.
        parts(0, 152, 2);
        parts(0, 153, 3);
        parts(0, 228, 3);
        parts(1, 152, 2);
        parts(2, 152, 3);
        SeptetCentre x = four();
        Steps.type(x, 'a', 320);
        x.send(0, 2, 0, false);
        int[] lengths = {160, 160, 21};
        for (int k = 0; k < 3; k++) {
            due.is("length of part " + (k + 1), x.byteAt(-1, 8), lengths[k]);
            due.is("parts", x.byteAt(-1, 13), 3);
            due.is("part", x.byteAt(-1, 14), k + 1);
            x.receive();
        }
    }

    private static void sendTwoSeptetsAtTheCut() {
        due.about("6: a character of two septets is not cut");
        for (int before = 150; before <= 153; before++) {
            for (int part = 1; part <= 2; part++) {
                SeptetCentre x = four();
                Steps.type(x, 'a', part == 1 ? before : 153 + before);
                x.type('[', 1);
                Steps.type(x, 'b', 12);
                due.is("send", x.send(0, 2, 0, false), part + 1);
                for (int k = 1; k < part; k++) {
                    due.is("length of a part before", x.byteAt(-1, 8), 160);
                    x.receive();
                }
                int septets = before == 150 ? 153 : before == 151 ? 153 : before;
                due.is(before + " before it", x.byteAt(-1, 8), 7 + septets);
                x.receive();
                due.is("the last part", x.byteAt(-1, 8), 7 + before + 14 - septets);
                x.receive();
                x.advance(0);
                for (int k = part; k >= 1; k--) {
                    due.is("take(1)", x.take(1), -1 - k);
                }
                due.is("take(1)", x.take(1), 153 * (part - 1) + before + 13);
                due.is("the character", x.text(1, 153 * (part - 1) + before), '[');
            }
        }
    }

    private static void sendReferences() {
        due.about("6: the device's count of references as reference (which then grows by 1)");
        SeptetCentre x = four();
        int[] due0 = {0, 1, 2};
        for (int want : due0) {
            Steps.draft(x, "one part");
            x.send(0, 2, 0, false);
            Steps.receiveAll(x);
            x.wipe();
            Steps.type(x, 'a', 161);
            due.is("send", x.send(0, 2, 0, false), 2);
            due.is("reference of part 1", x.byteAt(-1, 12), want);
            x.receive();
            due.is("reference of part 2", x.byteAt(-1, 12), want);
            x.receive();
            x.advance(1000);
        }
        x.send(1, 2, 0, false);
        due.is("another device has a count of its own", x.byteAt(-1, 12), 0);
    }

    /**
     * 256 texts of two parts can't be sent in 512 calls, so this run is longer than what is promised of an
     * object; it is the only way to see the sentence hold.
     */
    private static void sendReferencesGoRound() {
        due.about("6: (which .. is 0 after 255), the references");
        SeptetCentre x = four();
        Steps.type(x, 'a', 161);
        for (int sent = 0; sent < 258; sent++) {
            due.is("send", x.send(0, 2, 0, false), 2);
            due.is("reference of text " + sent, x.byteAt(-1, 12), sent % 256);
            for (int part = 0; part < 2; part++) {
                x.alter(0, 2);
                due.is("receive", x.receive(), ILLEGAL);
            }
        }
    }

    private static void sendMessageNumbers() {
        due.about("6: Each SUBMIT has the device's count of messages as its message number (which then grows by 1)");
        SeptetCentre x = four();
        Steps.type(x, 'a', 320);
        x.send(0, 2, 0, false);
        x.wipe();
        x.send(0, 2, 0, false);
        x.send(1, 2, 0, false);
        x.send(0, 2, 0, false);
        x.send(1, 2, 0, false);
        for (int want : new int[] {0, 1, 2, 3, 0, 4, 1}) {
            due.is("message number", x.byteAt(-1, 1), want);
            x.receive();
        }
    }

    /** 257 rows in 512 calls: of those before the last a hundred become messages, the others are not legal. */
    private static void sendMessageNumbersGoRound() {
        due.about("6: (which .. is 0 after 255), the message numbers");
        SeptetCentre x = new SeptetCentre();
        x.register(2, 3);
        x.type('a', 160);
        x.type('a', 160);
        int calls = 3;
        for (int row = 0; row <= 256; row++) {
            if (row % 3 == 0) {
                due.is("send", x.send(2, 9, 0, false), 3);
                calls++;
            }
            if (row >= 255) {
                due.is("message number of row " + row, x.byteAt(-1, 1), row % 256);
                calls++;
            }
            boolean spoilt = row < 156;
            if (spoilt) {
                x.alter(0, 2);
                calls++;
            }
            if (row < 256) {
                due.is("receive, row " + row, x.receive(), spoilt ? ILLEGAL : row - 156);
                calls++;
            }
            if (!spoilt && row % 12 == 11) {
                x.advance(0);
                calls++;
            }
        }
        due.is("within 512 calls", calls <= 512, true);
    }

    private static void sendBad() {
        due.about("6: BAD when d is not 0 .. 3, to is no number, validity is not 0 .. 143, or d has no number");
        for (int d : new int[] {LEAST, -1, 0, 3, 4, MOST}) {
            due.is("send from " + d, four().send(d, 2, 0, false), d == 0 || d == 3 ? 1 : BAD);
        }
        for (long to : new long[] {Long.MIN_VALUE, -1, 0, 1, 999999999999L, 1000000000000L, Long.MAX_VALUE}) {
            due.is("send to " + to, four().send(0, to, 0, false), to == 1 || to == 999999999999L ? 1 : BAD);
        }
        for (int validity : new int[] {LEAST, -1, 0, 143, 144, MOST}) {
            boolean is = validity == 0 || validity == 143;
            due.is("validity " + validity, four().send(0, 2, validity, false), is ? 1 : BAD);
        }
        SeptetCentre x = new SeptetCentre();
        x.register(1, 2);
        x.power(0, true);
        for (int d = 0; d < 4; d++) {
            due.is("send from " + d, x.send(d, 2, 0, false), d == 1 ? 1 : BAD);
        }
        due.is("rows", x.waiting(-1), 1);
    }

    private static void sendAlien() {
        due.about("6: ALIEN when some character is not in the alphabet");
        for (int place = 0; place < 3; place++) {
            SeptetCentre x = four();
            for (int k = 0; k < 3; k++) {
                x.type(k == place ? '`' : 'a', k == place ? 1 : 100);
            }
            due.is("alien at " + place, x.send(0, 2, 0, false), ALIEN);
            due.is("rows", x.waiting(-1), 0);
        }
        SeptetCentre x = four();
        Steps.type(x, 'a', 458);
        x.type((char) 8364, 1);
        due.is("none is alien", x.send(0, 2, 0, false), LONG);
        x.type((char) 8363, 1);
        due.is("the last of many", x.send(0, 2, 0, false), ALIEN);
    }

    private static void sendLong() {
        due.about("6: LONG when there would be more than 3 parts");
        parts(459, 0, 3);
        parts(460, 0, LONG);
        parts(480, 0, LONG);
        parts(0, 228, 3);
        parts(0, 229, LONG);
        parts(0, 480, LONG);
        // Fewer than 459 septets do not fit when some places stay free.
        parts(1, 228, 3);
        parts(2, 228, LONG);
        parts(3, 227, 3);
        parts(4, 227, LONG);
    }

    /** What send answers with so many rows in the uplink to a text of so many parts. */
    private static void fits(int rows, int parts) {
        SeptetCentre x = four();
        for (int k = 0; k < rows; k++) {
            x.send(3, 2, 0, false);
        }
        Steps.type(x, 'a', new int[] {160, 161, 459}[parts - 1]);
        boolean fits = rows + parts <= 8;
        due.is(parts + " parts to " + rows + " rows", x.send(0, 2, 0, false), fits ? parts : FULL);
        due.is("rows", x.waiting(-1), fits ? rows + parts : rows);
    }

    private static void sendFull() {
        due.about("6: FULL when the uplink would have more than 8");
        for (int rows = 4; rows <= 8; rows++) {
            for (int parts = 1; parts <= 3; parts++) {
                fits(rows, parts);
            }
        }
    }

    private static void alterBytes() {
        due.about("7: False when there is none, there is no such byte");
        SeptetCentre x = four();
        due.is("none", x.alter(0, 1), false);
        x.send(0, 2, 0, false);
        int size = 9;
        for (int i : new int[] {LEAST, -1, 0, size - 1, size, size + 1, MOST}) {
            boolean is = i == 0 || i == size - 1;
            int before = x.byteAt(-1, i);
            due.is("alter(" + i + ", 1)", x.alter(i, 1), is);
            due.is("byteAt(-1, " + i + ")", x.byteAt(-1, i), is ? before ^ 1 : NONE);
        }
        due.is("receive", x.receive(), ILLEGAL);
        due.is("none", x.alter(0, 1), false);
    }

    private static void alterValues() {
        due.about("7: or x is not 1 .. 255");
        for (int change : new int[] {LEAST, -255, -1, 0, 1, 128, 254, 255, 256, 257, 511, MOST}) {
            SeptetCentre x = four();
            x.send(0, 2, 0, false);
            boolean is = change >= 1 && change <= 255;
            due.is("alter(0, " + change + ")", x.alter(0, change), is);
            due.is("byte 0", x.byteAt(-1, 0), is ? 17 ^ change : 17);
        }
        SeptetCentre x = four();
        x.send(0, 2, 0, false);
        x.send(0, 2, 0, false);
        x.alter(0, 255);
        x.alter(0, 255);
        due.is("the same change twice is none", x.receive(), 0);
        due.is("the second row stays as it was", x.receive(), 1);
    }

    private static void receiveEmpty() {
        due.about("8: NONE when the uplink is empty");
        SeptetCentre x = four();
        due.is("receive", x.receive(), NONE);
        x.send(0, 2, 0, false);
        due.is("receive", x.receive(), 0);
        due.is("receive", x.receive(), NONE);
        due.is("state(1)", x.state(1), NONE);
    }

    private static void receiveNumberOfSender() {
        due.about("8: sent by the device that sent it up, with that device's number as it is now");
        SeptetCentre x = four();
        x.send(2, 2, 0, true);
        x.register(2, 30);
        x.receive();
        x.register(2, 300);
        x.register(0, 30);
        due.is("advance(0)", x.advance(0), 1);
        due.is("take(1)", x.take(1), 0);
        due.is("sender(1)", x.sender(1), 30);
        due.is("waiting(6)", x.waiting(6), 1);
        due.is("waiting(4)", x.waiting(4), 0);
    }

    private static void receiveFull() {
        due.about("8: FULL when 12 wait (the row stays)");
        SeptetCentre x = four();
        x.power(1, false);
        for (int m = 0; m < 13; m++) {
            x.send(0, 2, m < 12 ? 0 : 7, false);
            due.is("receive", x.receive(), m < 12 ? m : FULL);
        }
        due.is("waiting(-1)", x.waiting(-1), 1);
        due.is("the same row", x.byteAt(-1, 7), 7);
        due.is("receive again", x.receive(), FULL);
        x.power(1, true);
        due.is("advance(0)", x.advance(0), 6);
        due.is("receive", x.receive(), 12);
        due.is("waiting(-1)", x.waiting(-1), 0);
        due.about("8: or there were 100");
        x = four();
        for (int m = 0; m < 101; m++) {
            x.send(0, 9, 0, false);
            due.is("receive", x.receive(), m < 100 ? m : FULL);
            x.advance(0);
        }
        due.is("waiting(-1)", x.waiting(-1), 1);
        due.is("none waits", x.state(99), 3);
    }

    private static void receiveIllegal() {
        due.about("8: ILLEGAL when it is not legal (it is taken off all the same)");
        SeptetCentre x = four();
        for (int k = 0; k < 3; k++) {
            x.send(0, 2, k, false);
        }
        x.alter(0, 4);
        due.is("receive", x.receive(), ILLEGAL);
        due.is("waiting(-1)", x.waiting(-1), 2);
        due.is("the next row", x.byteAt(-1, 7), 1);
        due.is("receive", x.receive(), 0);
        x.alter(8, 1);
        due.is("receive", x.receive(), ILLEGAL);
        due.is("waiting(-1)", x.waiting(-1), 0);
        due.is("state(1)", x.state(1), NONE);
    }

    private static void advanceBy() {
        due.about("9: BAD when by is not 0 .. 100000");
        for (int by : new int[] {LEAST, -1, 0, 1, 99999, 100000, 100001, MOST}) {
            SeptetCentre x = four();
            x.send(0, 2, 0, false);
            x.receive();
            boolean is = by >= 0 && by <= 100000;
            due.is("advance(" + by + ")", x.advance(by), is ? 1 : BAD);
            due.is("time()", x.time(), is ? by : 0);
            due.is("state(0)", x.state(0), is ? 1 : 0);
        }
    }

    private static void advanceCounts() {
        due.about("9: how many messages were settled");
        SeptetCentre x = four();
        due.is("none there", x.advance(7), 0);
        x.power(1, false);
        for (int m = 0; m < 12; m++) {
            x.send(0, m % 3 == 0 ? 2 : m % 3 == 1 ? 3 : 9, 0, false);
            x.receive();
        }
        due.is("taken and unknown", x.advance(0), 8);
        due.is("not yet", x.advance(4), 0);
        due.is("too old", x.advance(1), 4);
        due.is("none left", x.advance(100000), 0);
        for (int m = 0; m < 12; m++) {
            x.send(0, 9, 0, false);
            x.receive();
        }
        due.is("all twelve at once", x.advance(0), 12);
    }

    private static void takeFromInbox() {
        due.about("10: BAD when d is not 0 .. 3; -100 when the inbox is empty");
        for (int d : new int[] {LEAST, -1, 0, 3, 4, MOST}) {
            SeptetCentre x = four();
            boolean is = d == 0 || d == 3;
            due.is("take(" + d + ")", x.take(d), is ? -100 : BAD);
            if (is) {
                x.type('a', 2);
                deliver(x, 1, d + 1);
                due.is("take(" + d + ")", x.take(d), 2);
                due.is("take(" + d + ")", x.take(d), -100);
                textIs(x, d, "aa");
            }
        }
    }

    private static void takeLacking() {
        due.about("10: -1 minus how many parts its pile still lacks when none was");
        SeptetCentre x = four();
        part(x, 0, 1, 1, "one", 3);
        part(x, 0, 2, 2, "b", -2);
        textIs(x, 1, "one");
        part(x, 0, 3, 3, "c", -3);
        part(x, 0, 3, 1, "a", -2);
        part(x, 0, 2, 1, "a", 2);
        textIs(x, 1, "ab");
        part(x, 0, 3, 2, "b", 3);
        textIs(x, 1, "abc");
        due.is("sender(1)", x.sender(1), 1);
    }

    private static void takePartTwice() {
        due.about("10: (a part that is there already is not kept)");
        SeptetCentre x = four();
        part(x, 0, 2, 1, "first", -2);
        part(x, 0, 2, 1, "second", -2);
        part(x, 0, 2, 2, "!", 6);
        textIs(x, 1, "first!");
    }

    private static void takePileIsGone() {
        due.about("10: and the pile is gone");
        SeptetCentre x = four();
        part(x, 0, 2, 1, "a", -2);
        part(x, 0, 2, 2, "b", 2);
        part(x, 0, 2, 2, "d", -2);
        textIs(x, 1, "ab");
        part(x, 0, 2, 1, "c", 2);
        textIs(x, 1, "cd");
    }

    private static void takeEmptyTexts() {
        due.about("10: 0 is a text too");
        SeptetCentre x = four();
        Steps.draft(x, "abc");
        deliver(x, 2, 2);
        due.is("take(1)", x.take(1), 3);
        due.is("sender(1)", x.sender(1), 3);
        x.wipe();
        deliver(x, 3, 2);
        due.is("take(1)", x.take(1), 0);
        due.is("text(1, 0)", x.text(1, 0), NONE);
        due.is("sender(1)", x.sender(1), 4);
        part(x, 0, 2, 2, "", -2);
        due.is("sender(1)", x.sender(1), 4);
        part(x, 0, 2, 1, "", 0);
        due.is("text(1, 0)", x.text(1, 0), NONE);
        due.is("sender(1)", x.sender(1), 1);
        part(x, 0, 3, 1, "", -3);
        part(x, 0, 3, 3, "", -2);
        part(x, 0, 3, 2, "x", 1);
        textIs(x, 1, "x");
        part(x, 0, 1, 1, "", 0);
        due.is("text(1, 0)", x.text(1, 0), NONE);
    }

    private static void takeLongestText() {
        due.about("10: the longest text, 3 parts of 153 characters");
        SeptetCentre x = four();
        Steps.type(x, 'a', 306);
        Steps.type(x, 'b', 153);
        deliver(x, 0, 2);
        due.is("swap(1)", x.swap(1), true);
        due.is("take(1)", x.take(1), -3);
        due.is("take(1)", x.take(1), -2);
        due.is("take(1)", x.take(1), 459);
        int[] places = {0, 152, 153, 305, 306, 458};
        for (int i : places) {
            due.is("text(1, " + i + ")", x.text(1, i), i < 306 ? 'a' : 'b');
        }
        due.is("text(1, 459)", x.text(1, 459), NONE);
        due.is("text(1, 460)", x.text(1, 460), NONE);
    }

    private static void copyRoom() {
        due.about("11: False when d is not 0 .. 3, or the inbox is empty or has no room");
        for (int d : new int[] {LEAST, -1, 0, 3, 4, MOST}) {
            SeptetCentre x = four();
            boolean is = d == 0 || d == 3;
            due.is("copy(" + d + "), empty", x.copy(d), false);
            if (is) {
                deliver(x, 1, d + 1);
            }
            for (int size = 1; size <= 6; size++) {
                due.is("copy(" + d + "), " + size, x.copy(d), is && size < 6);
                due.is("waiting(" + d + ")", x.waiting(d), is ? Math.min(size + 1, 6) : d == -1 ? 0 : d == 4 ? 0 : BAD);
            }
        }
        due.about("11: comes once more at its end");
        SeptetCentre x = four();
        Steps.draft(x, "a");
        deliver(x, 0, 2);
        Steps.draft(x, "bb");
        deliver(x, 0, 2);
        x.copy(1);
        for (int want : new int[] {1, 2, 1, -100}) {
            due.is("take(1)", x.take(1), want);
        }
    }

    private static void swapTwo() {
        due.about("12: False when d is not 0 .. 3 or there are not two");
        for (int d : new int[] {LEAST, -1, 0, 3, 4, MOST}) {
            SeptetCentre x = four();
            boolean is = d == 0 || d == 3;
            for (int size = 0; size <= 6; size++) {
                due.is("swap(" + d + "), " + size, x.swap(d), is && size >= 2);
                if (is) {
                    x.type('a', 1);
                    deliver(x, 1, d + 1);
                }
            }
        }
        due.about("12: The first and the second change places");
        for (int size = 2; size <= 6; size++) {
            SeptetCentre x = four();
            for (int k = 1; k <= size; k++) {
                x.type('a', 1);
                deliver(x, 0, 2);
            }
            due.is("swap(1)", x.swap(1), true);
            due.is("waiting(1)", x.waiting(1), size);
            for (int k = 1; k <= size; k++) {
                due.is("take(1)", x.take(1), k == 1 ? 2 : k == 2 ? 1 : k);
            }
        }
    }

    private static void reportAnswers() {
        due.about("13: BAD when d is not 0 .. 3; NONE when there is none");
        for (int d : new int[] {LEAST, -1, 0, 3, 4, MOST}) {
            SeptetCentre x = four();
            boolean is = d == 0 || d == 3;
            due.is("report(" + d + ")", x.report(d), is ? NONE : BAD);
            if (is) {
                x.send(d, 2, 0, true);
                x.receive();
                due.is("not settled yet", x.report(d), NONE);
                x.advance(0);
                due.is("report(" + d + ")", x.report(d), 0);
                due.is("report(" + d + ")", x.report(d), NONE);
            }
        }
        due.about("13: 256 times its last byte plus its message number");
        int[] numbers = {0, 1, 255};
        for (int number : numbers) {
            for (int to : new int[] {2, 3, 9}) {
                SeptetCentre x = four();
                x.power(2, false);
                x.send(0, to, 0, true);
                Steps.set(x, 1, number);
                x.receive();
                due.is("advance(5)", x.advance(5), 1);
                due.is("report(0)", x.report(0), 256 * (to == 2 ? 0 : to == 3 ? 70 : 73) + number);
            }
        }
    }

    private static void waitingLines() {
        due.about("14: d = -1, 0 .. 3, 4 .. 7; BAD for others");
        SeptetCentre x = four();
        for (int d : new int[] {LEAST, -3, -2, -1, 0, 3, 4, 7, 8, 9, MOST}) {
            due.is("waiting(" + d + ")", x.waiting(d), d >= -1 && d <= 7 ? 0 : BAD);
        }
        for (int d = 0; d < 4; d++) {
            for (int k = 0; k <= d; k++) {
                x.send(d, 4 - d, 0, true);
                x.receive();
            }
        }
        x.advance(0);
        x.send(0, 1, 0, false);
        int[] want = {1, 4, 3, 2, 1, 1, 2, 3, 4};
        for (int d = -1; d <= 7; d++) {
            due.is("waiting(" + d + ")", x.waiting(d), want[d + 1]);
        }
    }

    private static void byteAtBytes() {
        due.about("15: Byte i (0 the first) of the first of those, d as in waiting; NONE when there is none");
        SeptetCentre x = four();
        int[] lines = {-1, 0, 3, 4, 7};
        int[] sizes = {9, 14, 14, 20, 20};
        int[] firsts = {17, 4, 4, 2, 2};
        for (int d = -1; d <= 7; d++) {
            due.is("byteAt(" + d + ", 0), empty", x.byteAt(d, 0), NONE);
        }
        x.send(0, 4, 0, true);
        x.send(3, 1, 0, true);
        Steps.receiveAll(x);
        x.advance(0);
        x.send(1, 4, 0, false);
        for (int k = 0; k < lines.length; k++) {
            for (int i : new int[] {LEAST, -1, 0, sizes[k] - 1, sizes[k], MOST}) {
                int want = i == 0 ? firsts[k] : i == sizes[k] - 1 ? 0 : NONE;
                due.is("byteAt(" + lines[k] + ", " + i + ")", x.byteAt(lines[k], i), want);
            }
        }
        for (int d : new int[] {LEAST, -2, 8, MOST}) {
            due.is("byteAt(" + d + ", 0)", x.byteAt(d, 0), NONE);
        }
        for (int d : new int[] {1, 2, 5, 6}) {
            due.is("byteAt(" + d + ", 0), empty", x.byteAt(d, 0), NONE);
        }
    }

    private static void textCharacters() {
        due.about("16: Character i (0 the first) of the text that device d put together last; NONE when there is none");
        SeptetCentre x = four();
        Steps.draft(x, "abc");
        deliver(x, 0, 4);
        due.is("not taken", x.text(3, 0), NONE);
        x.take(3);
        for (int i : new int[] {LEAST, -1, 0, 1, 2, 3, 4, MOST}) {
            due.is("text(3, " + i + ")", x.text(3, i), i >= 0 && i <= 2 ? 'a' + i : NONE);
        }
        for (int d : new int[] {LEAST, -1, 0, 1, 2, 4, MOST}) {
            due.is("text(" + d + ", 0)", x.text(d, 0), NONE);
        }
        Steps.draft(x, "d");
        deliver(x, 0, 4);
        x.take(3);
        due.is("a shorter text", x.text(3, 0), 'd');
        due.is("behind it", x.text(3, 1), NONE);
    }

    private static void senderDevices() {
        due.about("17: 0 when d is not 0 .. 3 or no text was put together");
        SeptetCentre x = four();
        x.register(0, 999999999999L);
        deliver(x, 0, 4);
        due.is("not taken", x.sender(3), 0);
        x.take(3);
        for (int d : new int[] {LEAST, -1, 0, 1, 2, 3, 4, MOST}) {
            due.is("sender(" + d + ")", x.sender(d), d == 3 ? 999999999999L : 0);
        }
        Steps.sendPart(x, 0, 2, new int[] {0, 2, 1}, "a");
        x.receive();
        x.advance(0);
        due.is("a part is no text", x.take(1), -2);
        due.is("sender(1)", x.sender(1), 0);
    }

    private static SeptetCentre fourStates() {
        SeptetCentre x = four();
        x.power(1, false);
        for (long to : new long[] {3, 2, 9, 2}) {
            x.send(0, to, to == 2 && x.state(1) == NONE ? 0 : 143, false);
            x.receive();
        }
        x.advance(5);
        return x;
    }

    private static void stateMessages() {
        due.about("18: 0 it waits, 1 taken, 2 too old, 3 unknown; NONE when there is no such message");
        SeptetCentre x = fourStates();
        int[] states = {1, 2, 3, 0};
        for (int m : new int[] {LEAST, -1, 0, 1, 2, 3, 4, 99, 100, MOST}) {
            due.is("state(" + m + ")", x.state(m), m >= 0 && m <= 3 ? states[m] : NONE);
        }
        due.is("before the first", new SeptetCentre().state(0), NONE);
    }

    private static void offersMessages() {
        due.about("19: How often message m was offered; NONE when there is no such message");
        SeptetCentre x = fourStates();
        int[] offers = {1, 2, 1, 3};
        for (int m : new int[] {LEAST, -1, 0, 1, 2, 3, 4, 99, 100, MOST}) {
            due.is("offers(" + m + ")", x.offers(m), m >= 0 && m <= 3 ? offers[m] : NONE);
        }
        x.send(0, 2, 0, false);
        x.receive();
        due.is("not yet offered", x.offers(4), 0);
        due.is("before the first", new SeptetCentre().offers(0), NONE);
    }

    private static void timeGoesOn() {
        due.about("20: The time");
        SeptetCentre x = four();
        due.is("time()", x.time(), 0);
        x.advance(0);
        due.is("time()", x.time(), 0);
        x.advance(100000);
        due.is("time()", x.time(), 100000);
        x.advance(100001);
        due.is("time()", x.time(), 100000);
        x.advance(-1);
        due.is("time()", x.time(), 100000);
        x.advance(99999);
        due.is("time()", x.time(), 199999);
    }
}
