/**
 * The sentences of "What it is", "The public face" and "Terms" that name a limit, each tested on both sides
 * of it. What follows "about" is the sentence, or as much of it as names the limit.
 */
public final class TermsEdgeTest {
    private static final Due due = new Due("TermsEdgeTest");
    private static final int NONE = -2;
    private static final int FULL = -3;
    private static final int ILLEGAL = -6;
    private static final long LEAST = 1;
    private static final long MOST = 999999999999L;

    public static void main(String[] args) {
        calls();
        codes();
        escapeIsNoCharacter();
        secondCodes();
        otherChars();
        septetsOfTheTen();
        nobodysBits();
        nobodysBitsAreRead();
        numbers();
        digitsOfAddresses();
        digitsThatAreRead();
        oddAddresses();
        times();
        bytesOfUserData();
        lengthWithoutHeader();
        lengthWithHeader();
        partsOfHeader();
        references();
        firstBytes();
        validities();
        lastByteOfReport();
        legalTexts();
        devicesAtFirst();
        inboxOfSix();
        reportsOfSix();
        countsAtFirst();
        sameSenderReferenceAndParts();
        threePiles();
        uplinkOfEight();
        timeAtFirst();
        hundredMessages();
        twelveWait();
        tooOld();
        nextOffer();
        notAfter();
        earliestMoment();
        leastNumber();
        tooOldWhenBothAreTheSame();
        unknown();
        leastDevice();
        onAndRoom();
        oneFourSixteen();
        settledWaitsNoMore();
        roomForReports();
        timeOfSettling();
        due.end();
    }

    /** A centre whose devices 0 and 1 have these numbers; device 1 is on. */
    private static SeptetCentre two(long from, long to) {
        SeptetCentre x = new SeptetCentre();
        x.register(0, from);
        x.register(1, to);
        x.power(1, true);
        return x;
    }

    private static void accept(SeptetCentre x, int d, long to, int validity, boolean report) {
        due.is("send", x.send(d, to, validity, report), 1);
        due.is("receive", x.receive() >= 0, true);
    }

    private static void rowIs(SeptetCentre x, int d, String want) {
        String got = Steps.row(x, d);
        due.is("row " + got + ", due is " + want, got.equals(want), true);
    }

    private static void calls() {
        due.about("An object is used for at most 512 calls after it has been made");
        SeptetCentre x = new SeptetCentre();
        for (int call = 1; call <= 511; call++) {
            due.is("advance, call " + call, x.advance(100000), 0);
        }
        due.is("time, call 512", x.time(), 51100000);
        x = two(7, 8);
        for (int call = 4; call <= 500; call++) {
            x.advance(100000);
        }
        accept(x, 0, 8, 0, true);
        due.is("advance, call 503", x.advance(0), 1);
        due.is("byte of the time", x.byteAt(1, 6), 0);
        due.is("byte of the time", x.byteAt(1, 7), 0);
        due.is("byte of the time", x.byteAt(1, 8), 0);
        due.is("byte of the time", x.byteAt(1, 9), 0x94);
        due.is("byte of the time", x.byteAt(1, 10), 0x07);
        due.is("byte of the time", x.byteAt(1, 11), 0);
        due.is("byte of the time", x.byteAt(1, 12), 0);
        due.is("take, call 511", x.take(1), 0);
        due.is("report, call 512", x.report(0), 0);
    }

    /** What send answers to one character, and the one byte of its septet. */
    private static void code(int c, int code) {
        SeptetCentre x = two(7, 8);
        x.type((char) c, 1);
        due.is("send of character " + c, x.send(0, 8, 0, false), 1);
        due.is("septets of " + c, x.byteAt(-1, 8), 1);
        due.is("code of " + c, x.byteAt(-1, 9), code);
        x.receive();
        x.advance(0);
        due.is("take", x.take(1), 1);
        due.is("text", x.text(1, 0), c);
    }

    private static void codes() {
        due.about("For the codes 32 .. 126 the character is that of the same number, but for ..");
        code(201, 31);
        code(32, 32);
        code(35, 35);
        code(164, 36);
        code(37, 37);
        code(63, 63);
        code(161, 64);
        code(65, 65);
        code(90, 90);
        code(196, 91);
        code(191, 96);
        code(97, 97);
        code(122, 122);
        code(228, 123);
        code(252, 126);
        code(224, 127);
        due.about("CODES 0 .. 127");
        code(64, 0);
        code(926, 26);
        code(198, 28);
    }

    private static void escapeIsNoCharacter() {
        due.about("but 27, which is ESCAPE and no character");
        SeptetCentre x = two(7, 8);
        x.type((char) 27, 1);
        due.is("send of character 27", x.send(0, 8, 0, false), -4);
        int[] codes = {26, 27, 28};
        for (int code : codes) {
            x = two(7, 8);
            x.type('@', 1);
            x.send(0, 8, 0, false);
            x.alter(9, code);
            due.is("code " + code, x.receive(), code == 27 ? ILLEGAL : 0);
        }
    }

    private static void secondCodes() {
        due.about("Ten more characters are written as ESCAPE and a SECOND CODE");
        int[] characters = {12, 94, 123, 125, 92, 91, 126, 93, 124, 8364};
        int[] second = {10, 20, 40, 41, 47, 60, 61, 62, 64, 101};
        for (int k = 0; k < characters.length; k++) {
            SeptetCentre x = two(7, 8);
            x.type((char) characters[k], 1);
            due.is("send of " + characters[k], x.send(0, 8, 0, false), 1);
            due.is("septets", x.byteAt(-1, 8), 2);
            due.is("escape and the lowest bit", x.byteAt(-1, 9), 27 + ((second[k] & 1) << 7));
            due.is("the other bits", x.byteAt(-1, 10), second[k] >> 1);
            x.receive();
            x.advance(0);
            due.is("take", x.take(1), 1);
            due.is("text", x.text(1, 0), characters[k]);
        }
    }

    private static void otherChars() {
        due.about("Other chars are not in the alphabet");
        int[] others = {0, 9, 11, 14, 27, 31, 96, 127, 128, 162, 166, 225, 253, 255, 256, 914, 938, 8363, 8365, 65535};
        for (int c : others) {
            SeptetCentre x = two(7, 8);
            x.type((char) c, 1);
            due.is("send of " + c, x.send(0, 8, 0, false), -4);
            due.is("nothing was sent up", x.waiting(-1), 0);
        }
    }

    private static void septetsOfTheTen() {
        due.about("(for the ten, two of them)");
        for (int plain = 0; plain <= 2; plain++) {
            SeptetCentre x = two(7, 8);
            Steps.type(x, "[".repeat(3) + "a".repeat(plain));
            x.send(0, 8, 0, false);
            due.is("length", x.byteAt(-1, 8), 6 + plain);
        }
    }

    private static void nobodysBits() {
        due.about("Bits that are nobody's are 0");
        for (int septets = 1; septets <= 8; septets++) {
            SeptetCentre x = two(7, 8);
            x.type((char) 224, septets);
            x.send(0, 8, 0, false);
            int used = septets == 8 ? 8 : 8 - septets;
            due.is("last byte of " + septets, x.byteAt(-1, septets == 8 ? 15 : 8 + septets), (1 << used) - 1);
        }
        SeptetCentre x = two(7, 8);
        x.type((char) 224, 160);
        x.type((char) 224, 1);
        x.send(0, 8, 0, false);
        due.is("bit 48 of user data with header", x.byteAt(-1, 15), 254);
        x.receive();
        due.is("bit 48 in the second part", x.byteAt(-1, 15), 254);
        due.is("behind eight septets", x.byteAt(-1, 21), 255);
        due.is("behind them", x.byteAt(-1, 22), 1);
        due.is("length of the second part", x.byteAt(-1, 8), 15);
    }

    private static void nobodysBitsAreRead() {
        due.about("LEGAL: Bits that are nobody's are 0");
        for (int septets : new int[] {1, 2, 6, 7, 8, 9, 15, 16, 153, 159, 160}) {
            int used = 7 * septets % 8;
            int last = 8 + (7 * septets + 7) / 8;
            for (int bit = 0; bit < 8; bit++) {
                SeptetCentre x = two(7, 8);
                x.type('@', septets);
                x.send(0, 8, 0, false);
                x.alter(last, 1 << bit);
                boolean nobodys = used != 0 && bit >= used;
                due.is(septets + " septets, bit " + bit + " of the last byte", x.receive(), nobodys ? ILLEGAL : 0);
            }
        }
        for (int bit = 0; bit < 8; bit++) {
            for (int septets = 0; septets <= 1; septets++) {
                SeptetCentre x = two(7, 8);
                Steps.sendPart(x, 0, 8, new int[] {0, 1, 1}, "@".repeat(septets));
                x.alter(15, 1 << bit);
                boolean nobodys = septets == 0 || bit == 0;
                due.is(septets + " septets behind a header, bit " + (48 + bit), x.receive(), nobodys ? ILLEGAL : 0);
            }
        }
    }

    private static void numbers() {
        due.about("A NUMBER of a subscriber is 1 .. 999999999999");
        long[] numbers = {LEAST, MOST};
        long[] none = {LEAST - 1, MOST + 1, -LEAST, -MOST, Long.MIN_VALUE, Long.MAX_VALUE};
        for (long number : numbers) {
            SeptetCentre x = new SeptetCentre();
            due.is("register(0, " + number + ")", x.register(0, number), true);
            x.power(0, true);
            accept(x, 0, number, 0, false);
            due.is("advance(0)", x.advance(0), 1);
            due.is("take(0)", x.take(0), 0);
            due.is("sender(0)", x.sender(0), number);
        }
        for (long number : none) {
            SeptetCentre x = new SeptetCentre();
            due.is("register(0, " + number + ")", x.register(0, number), false);
            due.is("there is no number", x.send(0, 7, 0, false), -1);
            x.register(0, 7);
            due.is("send to " + number, x.send(0, number, 0, false), -1);
        }
        SeptetCentre x = two(7, 8);
        x.send(0, 1, 0, false);
        x.alter(4, 1);
        due.is("an address of 0", x.receive(), ILLEGAL);
    }

    /** Sends from the number to itself, and looks at it in SUBMIT, DELIVER and REPORT. */
    private static void addressIs(long number, String address) {
        SeptetCentre x = new SeptetCentre();
        x.register(0, number);
        x.power(0, true);
        x.send(0, number, 0, true);
        rowIs(x, -1, "49 0 " + address + " 0 0 0 0");
        due.is("receive", x.receive(), 0);
        x.advance(0);
        rowIs(x, 0, "4 " + address + " 0 0" + " 0".repeat(7) + " 0");
        rowIs(x, 4, "2 0 " + address + " 0".repeat(14) + " 0");
        due.is("take(0)", x.take(0), 0);
        due.is("sender(0)", x.sender(0), number);
    }

    private static void digitsOfAddresses() {
        due.about("a byte, how many decimal digits it has");
        addressIs(9, "1 145 249");
        addressIs(10, "2 145 1");
        addressIs(99, "2 145 153");
        addressIs(100, "3 145 1 240");
        addressIs(999, "3 145 153 249");
        addressIs(1000, "4 145 1 0");
        addressIs(99999, "5 145 153 153 249");
        addressIs(100000, "6 145 1 0 0");
        addressIs(9999999, "7 145 153 153 153 249");
        addressIs(10000000, "8 145 1 0 0 0");
        addressIs(999999999, "9 145 153 153 153 153 249");
        addressIs(1000000000, "10 145 1 0 0 0 0");
        addressIs(2147483648L, "10 145 18 116 132 99 132");
        addressIs(99999999999L, "11 145 153 153 153 153 153 249");
        addressIs(100000000000L, "12 145 1 0 0 0 0 0");
        addressIs(MOST, "12 145 153 153 153 153 153 153");
    }

    /** What receive answers to a row for a number of twelve digits whose bytes from the address on are these. */
    private static void readAs(String what, boolean legal, int... bytes) {
        SeptetCentre x = two(7, 8);
        x.type('@', 8);
        x.send(0, 123456789012L, 0, false);
        for (int k = 0; k < bytes.length; k++) {
            Steps.set(x, 2 + k, bytes[k]);
        }
        due.is(what, x.receive(), legal ? 0 : ILLEGAL);
    }

    private static void digitsThatAreRead() {
        due.about("LEGAL: a byte, how many decimal digits it has; the byte 145; its digits");
        // The row has 21 bytes: an address of other size leaves more or fewer of them to user data.
        readAs("no digits", false, 0, 145, 0, 0, 0, 14, 0);
        readAs("one digit", true, 1, 145, 0xF1, 0, 0, 0, 13);
        readAs("one digit, 0", false, 1, 145, 0xF0, 0, 0, 0, 13);
        readAs("two digits", true, 2, 145, 0x01, 0, 0, 0, 13);
        readAs("two digits, a zero in front", false, 2, 145, 0x10, 0, 0, 0, 13);
        readAs("eleven digits", true, 11, 145, 0x21, 0x43, 0x65, 0x87, 0x09, 0xF1, 0, 0, 0, 8);
        readAs("twelve digits", true, 12, 145, 0x21, 0x43, 0x65, 0x87, 0x09, 0x21, 0, 0, 0, 8);
        readAs("thirteen digits", false, 13, 145, 0x21, 0x43, 0x65, 0x87, 0x09, 0x21, 0xF3, 0, 0, 0, 6);
        readAs("fourteen digits", false, 14, 145, 0x21, 0x43, 0x65, 0x87, 0x09, 0x21, 0x43, 0, 0, 0, 6);
        readAs("144", false, 12, 144);
        readAs("146", false, 12, 146);
        readAs("a digit 9", true, 12, 145, 0x29);
        readAs("a digit 10", false, 12, 145, 0x2A);
        readAs("a digit 9", true, 12, 145, 0x91);
        readAs("a digit 10", false, 12, 145, 0xA1);
        readAs("a zero behind the first", true, 12, 145, 0x01);
        due.about("LEGAL: 0; 0");
        readAs("0; 0", true, 12, 145, 0x21, 0x43, 0x65, 0x87, 0x09, 0x21, 0, 0);
        readAs("1; 0", false, 12, 145, 0x21, 0x43, 0x65, 0x87, 0x09, 0x21, 1, 0);
        readAs("0; 1", false, 12, 145, 0x21, 0x43, 0x65, 0x87, 0x09, 0x21, 0, 1);
    }

    private static void oddAddresses() {
        due.about("if they are odd in number, the last byte has 15 in its upper bits");
        for (int upper = 0; upper < 16; upper++) {
            SeptetCentre x = two(7, 8);
            x.send(0, 8, 0, false);
            Steps.set(x, 4, upper << 4 | 8);
            due.is("one digit, upper bits " + upper, x.receive(), upper == 15 ? 0 : ILLEGAL);
            x.send(0, 18, 0, false);
            Steps.set(x, 4, upper << 4 | 1);
            due.is("two digits, upper bits " + upper, x.receive() == ILLEGAL, upper > 9);
        }
    }

    /** A message accepted at this time shows it in the DELIVER. */
    private static void timeIs(int time, String digits) {
        SeptetCentre x = two(7, 8);
        for (int left = time; left > 0; left -= 100000) {
            x.advance(Math.min(left, 100000));
        }
        accept(x, 0, 8, 0, false);
        x.advance(0);
        rowIs(x, 1, "4 1 145 247 0 0 " + digits + " 0");
    }

    private static void times() {
        due.about("A TIME is, as seven bytes, fourteen decimal digits (zeros in front)");
        timeIs(0, "0 0 0 0 0 0 0");
        timeIs(1, "0 0 0 0 0 0 16");
        timeIs(9, "0 0 0 0 0 0 144");
        timeIs(10, "0 0 0 0 0 0 1");
        timeIs(99, "0 0 0 0 0 0 153");
        timeIs(100, "0 0 0 0 0 16 0");
        timeIs(99999, "0 0 0 0 144 153 153");
        timeIs(100000, "0 0 0 0 1 0 0");
        timeIs(999999, "0 0 0 0 153 153 153");
        timeIs(1000000, "0 0 0 16 0 0 0");
        timeIs(9999999, "0 0 0 144 153 153 153");
        timeIs(10000000, "0 0 0 1 0 0 0");
        timeIs(12345678, "0 0 0 33 67 101 135");
    }

    private static void bytesOfUserData() {
        due.about("as many bytes as seven eighths of it, rounded up");
        for (int septets = 0; septets <= 160; septets++) {
            SeptetCentre x = two(7, 8);
            Steps.type(x, 'z', septets);
            due.is("send", x.send(0, 8, 0, false), 1);
            int bytes = (int) Math.ceil(septets * 7 / 8.0);
            due.is("length", x.byteAt(-1, 8), septets);
            due.is("last byte of " + septets, x.byteAt(-1, 8 + bytes) >= 0, true);
            due.is("behind it", x.byteAt(-1, 9 + bytes), NONE);
        }
        for (int septets = 161; septets <= 306; septets++) {
            SeptetCentre x = two(7, 8);
            Steps.type(x, 'z', septets);
            due.is("send", x.send(0, 8, 0, false), 2);
            x.receive();
            int length = 7 + septets - 153;
            int bytes = (int) Math.ceil(length * 7 / 8.0);
            due.is("length with header", x.byteAt(-1, 8), length);
            due.is("last byte of " + length, x.byteAt(-1, 8 + bytes) >= 0, true);
            due.is("behind it", x.byteAt(-1, 9 + bytes), NONE);
        }
    }

    /**
     * A row of n times @ for a number of twelve digits whose address is cut to ten of them: what is behind it
     * moves by a byte, so that user data has a byte more than n septets need.
     */
    private static SeptetCentre moved(int n, int length, int kind) {
        SeptetCentre x = two(7, 8);
        x.type('@', n);
        x.send(0, 123456789012L, 0, false);
        int[] bytes = {kind, 0, 10, 145, 0x21, 0x43, 0x65, 0x87, 0x09, 0, 0, 0, length};
        for (int i = 0; i < bytes.length; i++) {
            Steps.set(x, i, bytes[i]);
        }
        return x;
    }

    private static void lengthWithoutHeader() {
        due.about("Without header: the length is the number of septets (0 .. 160)");
        SeptetCentre x = two(7, 8);
        accept(x, 0, 8, 0, false);
        due.is("length 158 in 140 bytes", moved(158, 158, 17).receive(), ILLEGAL);
        due.is("length 159 in 140 bytes", moved(158, 159, 17).receive(), 0);
        due.is("length 160 in 140 bytes", moved(158, 160, 17).receive(), 0);
        due.is("length 161 in 141 bytes", moved(160, 161, 17).receive(), ILLEGAL);
        x.advance(0);
        due.is("take of none", x.take(1), 0);
        x.type('a', 160);
        accept(x, 0, 8, 0, false);
        x.advance(0);
        due.is("take of 160", x.take(1), 160);
    }

    private static SeptetCentre movedHeader(int n, int length) {
        SeptetCentre x = moved(n, length, 81);
        int[] header = {5, 0, 3, 0, 1, 1};
        for (int k = 0; k < header.length; k++) {
            Steps.set(x, 13 + k, header[k]);
        }
        return x;
    }

    private static void lengthWithHeader() {
        due.about("With header: the length is 7 plus their number, at most 160");
        due.is("length 160", movedHeader(158, 160).receive(), 0);
        due.is("length 161", movedHeader(160, 161).receive(), ILLEGAL);
        for (int septets = 6; septets <= 9; septets++) {
            SeptetCentre x = two(7, 8);
            x.type('@', septets);
            x.send(0, 8, 0, false);
            x.alter(0, 64);
            int[] header = {5, 0, 3, 0, 1, 1};
            for (int k = 0; k < 6; k++) {
                Steps.set(x, 9 + k, header[k]);
            }
            due.is("length " + septets, x.receive(), septets < 7 ? ILLEGAL : 0);
            due.is("advance", x.advance(0), septets < 7 ? 0 : 1);
            due.is("take", x.take(1), septets < 7 ? -100 : septets - 7);
        }
        SeptetCentre x = two(7, 8);
        x.type('a', 160);
        x.type('a', 146);
        due.is("send", x.send(0, 8, 0, false), 2);
        due.is("length of the first part", x.byteAt(-1, 8), 160);
        x.receive();
        due.is("length of the second part", x.byteAt(-1, 8), 160);
    }

    private static void partsOfHeader() {
        due.about("the number of PARTS 1 .. 3, and the number of this part, 1 .. that");
        int[] values = {0, 1, 2, 3, 4, 5, 127, 128, 255};
        for (int parts : values) {
            for (int part : values) {
                SeptetCentre x = two(7, 8);
                Steps.sendPart(x, 0, 8, new int[] {9, parts, part}, "a");
                boolean legal = parts >= 1 && parts <= 3 && part >= 1 && part <= parts;
                due.is("part " + part + " of " + parts, x.receive(), legal ? 0 : ILLEGAL);
                x.advance(0);
                due.is("take", x.take(1), legal ? parts == 1 ? 1 : -parts : -100);
            }
        }
    }

    private static void references() {
        due.about("the REFERENCE, a byte");
        for (int reference : new int[] {0, 1, 127, 128, 254, 255}) {
            SeptetCentre x = two(7, 8);
            for (int part = 2; part >= 1; part--) {
                Steps.sendPart(x, 0, 8, new int[] {reference, 2, part}, "" + part);
                due.is("receive", x.receive() >= 0, true);
                x.advance(0);
                due.is("take, reference " + reference, x.take(1), part == 2 ? -2 : 2);
            }
            due.is("text", Steps.text(x, 1).equals("12"), true);
        }
    }

    private static void firstBytes() {
        due.about("the byte 17, plus 32 if a report is wanted, plus 64 with header");
        SeptetCentre x = two(7, 8);
        x.type('a', 160);
        int[] kinds = {17, 49, 81, 81, 113, 113};
        x.send(0, 8, 0, false);
        x.send(0, 8, 0, true);
        x.type('a', 1);
        x.send(0, 8, 0, false);
        x.send(0, 8, 0, true);
        for (int kind : kinds) {
            due.is("first byte", x.byteAt(-1, 0), kind);
            due.is("receive", x.receive() >= 0, true);
        }
        due.about("A DELIVER is: the byte 4, plus 64 with header");
        x.advance(0);
        for (int kind : kinds) {
            due.is("first byte", x.byteAt(1, 0), (kind & 64) == 0 ? 4 : 68);
            x.take(1);
        }
        due.about("A REPORT is: the byte 2; the message number");
        for (int number : new int[] {1, 4, 5}) {
            due.is("first byte", x.byteAt(4, 0), 2);
            due.is("message number", x.byteAt(4, 1), number);
            due.is("report(0)", x.report(0), number);
        }
        due.is("no more", x.report(0), NONE);
    }

    private static void validities() {
        due.about("the VALIDITY, 0 .. 143");
        int[] validities = {-1, 0, 143, 144, 255, 256, Integer.MIN_VALUE, Integer.MAX_VALUE};
        for (int validity : validities) {
            boolean good = validity == 0 || validity == 143;
            SeptetCentre x = two(7, 8);
            due.is("send with " + validity, x.send(0, 8, validity, false), good ? 1 : -1);
            due.is("byte", x.byteAt(-1, 7), good ? validity : NONE);
        }
        for (int validity : new int[] {0, 142, 143, 144, 145, 255}) {
            SeptetCentre x = two(7, 8);
            x.send(0, 8, 1, false);
            Steps.set(x, 7, validity);
            due.is("receive with " + validity, x.receive(), validity <= 143 ? 0 : ILLEGAL);
        }
    }

    private static void lastByteOfReport() {
        due.about("0 if it was taken, 70 if it was too old, 73 if nobody has the number");
        SeptetCentre x = two(7, 8);
        accept(x, 0, 8, 0, true);
        accept(x, 0, 7, 0, true);
        accept(x, 0, 9, 0, true);
        due.is("advance(5)", x.advance(5), 3);
        int[] last = {0, 73, 70};
        int[] numbers = {0, 2, 1};
        for (int k = 0; k < 3; k++) {
            due.is("last byte", x.byteAt(4, 19), last[k]);
            due.is("none behind it", x.byteAt(4, 20), NONE);
            due.is("report(0)", x.report(0), 256 * last[k] + numbers[k]);
        }
    }

    /** What receive answers to user data of these septets without header. */
    private static void septets(boolean legal, int... septets) {
        SeptetCentre x = two(7, 8);
        Steps.type(x, '@', septets.length);
        x.send(0, 8, 0, false);
        int[] bytes = new int[(7 * septets.length + 7) / 8];
        for (int bit = 0; bit < 7 * septets.length; bit++) {
            bytes[bit / 8] |= (septets[bit / 7] >> bit % 7 & 1) << bit % 8;
        }
        for (int k = 0; k < bytes.length; k++) {
            Steps.set(x, 9 + k, bytes[k]);
        }
        due.is("septets " + java.util.Arrays.toString(septets), x.receive(), legal ? 0 : ILLEGAL);
    }

    private static void legalTexts() {
        due.about("an ESCAPE is followed by one of the ten second codes, and none stands at the end");
        septets(true);
        septets(true, 1);
        septets(false, 27);
        septets(false, 1, 27);
        septets(true, 27, 10);
        septets(false, 27, 10, 27);
        septets(true, 27, 10, 10);
        septets(false, 27, 27);
        septets(false, 27, 27, 10);
        septets(true, 27, 101, 27, 101);
        int[] second = {10, 20, 40, 41, 47, 60, 61, 62, 64, 101};
        for (int code : second) {
            septets(true, 27, code);
            for (int near = code - 1; near <= code + 1; near += 2) {
                boolean isSecond = false;
                for (int other : second) {
                    isSecond |= other == near;
                }
                septets(isSecond, 27, near);
                septets(true, 1, near);
            }
        }
        septets(false, 27, 0);
        septets(false, 27, 127);
        for (int count : new int[] {7, 8, 9, 159, 160}) {
            int[] codes = new int[count];
            codes[count - 2] = 27;
            codes[count - 1] = 10;
            septets(true, codes);
            codes[count - 1] = 11;
            septets(false, codes);
            codes[count - 2] = 0;
            septets(true, codes);
            codes[count - 1] = 27;
            septets(false, codes);
        }
    }

    private static void devicesAtFirst() {
        due.about("DEVICES 0 .. 3 have each a number (none at first), are ON or off (off at first)");
        for (int d = 0; d < 4; d++) {
            SeptetCentre x = new SeptetCentre();
            due.is("send without number", x.send(d, 7, 0, false), -1);
            due.is("register(" + d + ", 7)", x.register(d, 7), true);
            accept(x, d, 7, 143, false);
            due.is("off", x.advance(0), 0);
            due.is("power(" + d + ", true)", x.power(d, true), true);
            due.is("on", x.advance(1), 1);
            due.is("waiting(" + d + ")", x.waiting(d), 1);
            due.is("no text at first", x.text(d, 0), NONE);
            due.is("no sender at first", x.sender(d), 0);
        }
        SeptetCentre x = new SeptetCentre();
        for (int d : new int[] {-1, 4}) {
            due.is("register(" + d + ", 7)", x.register(d, 7), false);
            due.is("power(" + d + ", true)", x.power(d, true), false);
        }
        due.about("The number that a new object has for none is nobody's: an unknown number stays unknown");
        x.register(0, 7);
        accept(x, 0, 8, 0, false);
        due.is("advance(0)", x.advance(0), 1);
        due.is("state(0)", x.state(0), 3);
    }

    private static void inboxOfSix() {
        due.about("an INBOX of at most 6 DELIVERs");
        SeptetCentre x = two(7, 8);
        for (int k = 1; k <= 7; k++) {
            accept(x, 0, 8, 143, false);
            due.is("advance(0), message " + k, x.advance(0), k <= 6 ? 1 : 0);
            due.is("waiting(1)", x.waiting(1), Math.min(k, 6));
        }
        due.is("copy(1)", x.copy(1), false);
        due.is("take(1)", x.take(1), 0);
        due.is("copy(1) into the sixth place", x.copy(1), true);
        due.is("no room for the one that waits", x.advance(1), 0);
        due.is("take(1)", x.take(1), 0);
        due.is("room", x.advance(4), 1);
        due.is("waiting(1)", x.waiting(1), 6);
    }

    private static void reportsOfSix() {
        due.about("a line of at most 6 REPORTs");
        SeptetCentre x = two(7, 8);
        for (int k = 1; k <= 7; k++) {
            accept(x, 0, 9, 0, true);
            due.is("advance(0)", x.advance(0), 1);
            due.is("waiting(4)", x.waiting(4), Math.min(k, 6));
        }
        due.is("report(0)", x.report(0), 256 * 73);
        accept(x, 0, 9, 0, true);
        x.advance(0);
        due.is("waiting(4)", x.waiting(4), 6);
        for (int number : new int[] {1, 2, 3, 4, 5, 7}) {
            due.is("report(0)", x.report(0), 256 * 73 + number);
        }
        due.is("report(0)", x.report(0), NONE);
    }

    private static void countsAtFirst() {
        due.about("a count of messages and a count of references (0 at first)");
        for (int d = 0; d < 4; d++) {
            SeptetCentre x = new SeptetCentre();
            x.register(d, 7);
            x.type('a', 160);
            x.type('a', 1);
            due.is("send", x.send(d, 8, 0, false), 2);
            due.is("message number", x.byteAt(-1, 1), 0);
            due.is("reference", x.byteAt(-1, 12), 0);
            x.receive();
            due.is("message number", x.byteAt(-1, 1), 1);
            due.is("reference", x.byteAt(-1, 12), 0);
        }
    }

    /** Device d (numbers 7 and up) sends a part to number 10, device 3, which takes it. */
    private static void part(SeptetCentre x, int d, int reference, int parts, int part, int want) {
        Steps.sendPart(x, d, 10, new int[] {reference, parts, part}, String.valueOf(part));
        due.is("receive", x.receive() >= 0, true);
        due.is("advance(0)", x.advance(0), 1);
        due.is("take of " + part + "/" + parts + ", reference " + reference + ", from " + d, x.take(3), want);
    }

    private static SeptetCentre four() {
        SeptetCentre x = new SeptetCentre();
        for (int d = 0; d < 4; d++) {
            x.register(d, 7 + d);
        }
        x.power(3, true);
        return x;
    }

    private static void sameSenderReferenceAndParts() {
        due.about("A PILE of a device gathers parts with the same sender, reference and number of parts");
        SeptetCentre x = four();
        part(x, 0, 5, 2, 1, -2);
        part(x, 1, 5, 2, 2, -2);
        part(x, 0, 6, 2, 2, -2);
        x = four();
        part(x, 0, 5, 2, 1, -2);
        part(x, 0, 5, 3, 2, -3);
        part(x, 0, 5, 2, 2, 2);
        part(x, 0, 5, 3, 3, -2);
        part(x, 0, 5, 3, 1, 3);
    }

    private static void threePiles() {
        due.about("there are at most 3 piles; when a fourth is needed, the oldest one is thrown away first");
        SeptetCentre x = four();
        for (int reference = 1; reference <= 3; reference++) {
            part(x, 0, reference, 2, 1, -2);
        }
        for (int reference = 1; reference <= 3; reference++) {
            part(x, 0, reference, 2, 2, 2);
        }
        x = four();
        for (int reference = 1; reference <= 4; reference++) {
            part(x, 0, reference, 2, 1, -2);
        }
        part(x, 0, 4, 2, 2, 2);
        part(x, 0, 2, 2, 2, 2);
        part(x, 0, 3, 2, 2, 2);
        part(x, 0, 1, 2, 2, -2);
        due.about("(by when it was begun)");
        x = four();
        part(x, 0, 1, 3, 1, -3);
        part(x, 0, 2, 3, 1, -3);
        part(x, 0, 3, 3, 1, -3);
        part(x, 0, 1, 3, 2, -2);
        part(x, 0, 4, 3, 1, -3);
        part(x, 0, 2, 3, 2, -2);
        part(x, 0, 3, 3, 2, -2);
        part(x, 0, 4, 3, 2, -2);
        part(x, 0, 1, 3, 3, -3);
        due.about("a pile that is gone leaves its place to another");
        x = four();
        part(x, 0, 1, 2, 1, -2);
        part(x, 0, 2, 2, 1, -2);
        part(x, 0, 3, 2, 1, -2);
        part(x, 0, 2, 2, 2, 2);
        part(x, 0, 4, 2, 1, -2);
        part(x, 0, 1, 2, 2, 2);
        part(x, 0, 3, 2, 2, 2);
        part(x, 0, 4, 2, 2, 2);
    }

    private static void uplinkOfEight() {
        due.about("THE UPLINK is a line of at most 8 rows of bytes");
        SeptetCentre x = two(7, 8);
        for (int k = 1; k <= 9; k++) {
            due.is("send", x.send(0, 8, 0, false), k <= 8 ? 1 : FULL);
            due.is("waiting(-1)", x.waiting(-1), Math.min(k, 8));
        }
        x.receive();
        due.is("send", x.send(0, 8, 0, false), 1);
        due.is("send", x.send(0, 8, 0, false), FULL);
    }

    private static void timeAtFirst() {
        due.about("THE CENTRE has a TIME, at first 0");
        SeptetCentre x = two(7, 8);
        due.is("time()", x.time(), 0);
        accept(x, 0, 8, 0, true);
        x.advance(0);
        due.is("time()", x.time(), 0);
        rowIs(x, 1, "4 1 145 247 0 0 0 0 0 0 0 0 0 0");
        due.is("advance(1)", x.advance(1), 0);
        due.is("time()", x.time(), 1);
    }

    private static void hundredMessages() {
        due.about("MESSAGES with numbers 0, 1, .. in the order in which they were accepted, at most 100");
        SeptetCentre x = two(7, 8);
        for (int m = 0; m < 100; m++) {
            due.is("state(" + m + ")", x.state(m), NONE);
            x.send(0, 9, 0, false);
            due.is("receive", x.receive(), m);
            if (m % 10 == 9) {
                due.is("advance(0)", x.advance(0), 10);
            }
        }
        x.send(0, 9, 0, false);
        due.is("the hundred and first", x.receive(), FULL);
        due.is("state(99)", x.state(99), 3);
        due.is("state(100)", x.state(100), NONE);
        due.is("offers(99)", x.offers(99), 1);
        due.is("offers(100)", x.offers(100), NONE);
        x.advance(1000);
        due.is("also when none waits", x.receive(), FULL);
        due.is("the row stays", x.waiting(-1), 1);
    }

    private static void twelveWait() {
        due.about("of which at most 12 WAIT");
        SeptetCentre x = two(7, 8);
        x.power(1, false);
        for (int m = 0; m < 12; m++) {
            x.send(0, 8, m == 11 ? 0 : 143, false);
            due.is("receive", x.receive(), m);
        }
        x.send(0, 8, 143, false);
        due.is("the thirteenth", x.receive(), FULL);
        due.is("none is settled", x.advance(4), 0);
        due.is("the thirteenth", x.receive(), FULL);
        due.is("one is settled", x.advance(1), 1);
        due.is("eleven waited", x.receive(), 12);
        x.send(0, 8, 143, false);
        due.is("twelve wait again", x.receive(), FULL);
    }

    private static void tooOld() {
        due.about("A message accepted at time a is TOO OLD at a + 5 (validity + 1)");
        for (int accepted : new int[] {0, 1, 777}) {
            for (int validity : new int[] {0, 1, 2, 142, 143}) {
                SeptetCentre x = two(7, 8);
                x.power(1, false);
                x.advance(accepted);
                accept(x, 0, 8, validity, true);
                due.is("one before", x.advance(5 * validity + 4), 0);
                due.is("state(0)", x.state(0), 0);
                due.is("at that time", x.advance(1), 1);
                due.is("state(0)", x.state(0), 2);
                due.is("report(0)", x.report(0), 256 * 70);
                due.is("time()", x.time(), accepted + 5 * (validity + 1));
            }
        }
    }

    private static void nextOffer() {
        due.about("its NEXT offer is due at a");
        SeptetCentre x = two(7, 8);
        x.advance(41);
        accept(x, 0, 8, 0, true);
        due.is("offers before the time goes on", x.offers(0), 0);
        due.is("state(0)", x.state(0), 0);
        due.is("advance(0)", x.advance(0), 1);
        due.is("offers(0)", x.offers(0), 1);
        due.is("settled at 41", x.byteAt(4, 18), 0x14);
        x.send(0, 8, 0, true);
        x.advance(1);
        due.is("receive", x.receive(), 1);
        x.advance(100);
        x.report(0);
        due.is("settled at 42", x.byteAt(4, 18), 0x24);
    }

    private static void notAfter() {
        due.about("waiting messages whose MOMENT is not after t");
        SeptetCentre x = two(7, 8);
        x.power(1, false);
        accept(x, 0, 8, 143, false);
        int[] moments = {0, 1, 5, 21, 37};
        for (int k = 0; k < moments.length; k++) {
            if (moments[k] > 0) {
                x.advance(moments[k] - 1 - x.time());
                due.is("offers just before " + moments[k], x.offers(0), k);
                x.advance(1);
            } else {
                x.advance(0);
            }
            due.is("offers at " + moments[k], x.offers(0), k + 1);
            x.advance(0);
            due.is("not twice at " + moments[k], x.offers(0), k + 1);
        }
    }

    private static void earliestMoment() {
        due.about("the one with the earliest moment .. is dealt with");
        SeptetCentre x = two(7, 8);
        x.power(1, false);
        x.register(2, 9);
        accept(x, 0, 8, 143, false);
        x.advance(1);
        x.advance(1);
        // Message 0 is due at 5, message 1 at 2 and then at 3: it comes first though its number is greater.
        accept(x, 2, 8, 143, false);
        x.advance(0);
        x.power(1, true);
        due.is("advance(100)", x.advance(100), 2);
        due.is("take(1)", x.take(1), 0);
        due.is("sender(1)", x.sender(1), 9);
        due.is("take(1)", x.take(1), 0);
        due.is("sender(1)", x.sender(1), 7);
    }

    private static void leastNumber() {
        due.about("of these that with the least number");
        SeptetCentre x = two(7, 8);
        x.register(2, 9);
        for (int k = 0; k < 5; k++) {
            x.send(0, 8, 143, false);
        }
        x.send(2, 8, 143, false);
        x.send(0, 8, 143, false);
        Steps.receiveAll(x);
        due.is("advance(0)", x.advance(0), 6);
        due.is("state(5)", x.state(5), 1);
        due.is("state(6)", x.state(6), 0);
        for (int k = 0; k < 6; k++) {
            due.is("take(1)", x.take(1), 0);
            due.is("sender(1)", x.sender(1), k < 5 ? 7 : 9);
        }
    }

    private static void tooOldWhenBothAreTheSame() {
        due.about("when the moment is that of too old (also when both are the same), it is SETTLED as too old");
        // Offers are due at 0, 1, 5, 21, 37, 53, 69, 85: with validity 0 and 16 too old is one of them.
        for (int validity : new int[] {0, 16}) {
            SeptetCentre x = two(7, 8);
            x.power(1, false);
            accept(x, 0, 8, validity, true);
            x.advance(5 * validity + 4);
            int offers = x.offers(0);
            x.power(1, true);
            due.is("advance(1)", x.advance(1), 1);
            due.is("state(0)", x.state(0), 2);
            due.is("offers(0)", x.offers(0), offers);
            due.is("waiting(1)", x.waiting(1), 0);
        }
        // With validity 3 and 4, too old at 20 and 25, the offer at 21 is just behind and just before.
        for (int validity = 3; validity <= 4; validity++) {
            SeptetCentre x = two(7, 8);
            x.power(1, false);
            accept(x, 0, 8, validity, true);
            x.advance(19);
            x.power(1, true);
            due.is("advance(6)", x.advance(6), 1);
            due.is("state(0)", x.state(0), validity == 3 ? 2 : 1);
            due.is("offers(0)", x.offers(0), validity == 3 ? 3 : 4);
        }
    }

    private static void unknown() {
        due.about("when no device has the number, it is settled as unknown");
        SeptetCentre x = two(7, 8);
        accept(x, 0, 9, 0, true);
        accept(x, 0, 8, 0, true);
        due.is("advance(0)", x.advance(0), 2);
        due.is("state(0)", x.state(0), 3);
        due.is("offers(0)", x.offers(0), 1);
        due.is("state(1)", x.state(1), 1);
        x.register(3, 9);
        due.is("what is settled stays so", x.advance(100), 0);
        due.is("state(0)", x.state(0), 3);
        accept(x, 0, 9, 0, true);
        due.is("the device is off, not unknown", x.advance(0), 0);
        due.is("state(2)", x.state(2), 0);
    }

    private static void leastDevice() {
        due.about("the device that has it (of several the least)");
        for (int least = 0; least < 4; least++) {
            SeptetCentre x = new SeptetCentre();
            for (int d = 3; d >= least; d--) {
                x.register(d, 5);
                x.power(d, true);
            }
            accept(x, 3, 5, 0, false);
            x.advance(0);
            for (int d = 0; d < 4; d++) {
                due.is("least is " + least + ", waiting(" + d + ")", x.waiting(d), d == least ? 1 : 0);
            }
            x.power(least, false);
            accept(x, 3, 5, 0, false);
            due.is("a greater one that is on does not count", x.advance(0), 0);
        }
    }

    private static void onAndRoom() {
        due.about("is on and has room in its inbox");
        for (int set = 0; set < 4; set++) {
            boolean on = (set & 1) != 0;
            boolean room = (set & 2) != 0;
            SeptetCentre x = two(7, 8);
            for (int k = 0; k < (room ? 5 : 6); k++) {
                accept(x, 0, 8, 0, false);
            }
            x.advance(0);
            x.power(1, on);
            accept(x, 0, 8, 0, false);
            due.is("on " + on + ", room " + room, x.advance(0), on && room ? 1 : 0);
            due.is("waiting(1)", x.waiting(1), room && !on ? 5 : 6);
        }
    }

    private static void oneFourSixteen() {
        due.about("1 after this moment if this was its first, 4 .. its second, 16 .. from its third on");
        int[] moments = {0, 1, 5, 21, 37, 53, 69};
        for (int k = 1; k < moments.length; k++) {
            for (int early = 0; early <= 1; early++) {
                SeptetCentre x = two(7, 8);
                x.power(1, false);
                x.advance(3);
                accept(x, 0, 8, 143, true);
                x.advance(moments[k] - 1);
                x.power(1, true);
                due.is("offer " + (k + 1) + " at " + moments[k], x.advance(1 - early), 1 - early);
                due.is("offers(0)", x.offers(0), k + 1 - early);
            }
        }
        due.about("after this moment, not after the time of the call");
        SeptetCentre x = two(7, 8);
        x.power(1, false);
        accept(x, 0, 8, 143, false);
        due.is("advance(36)", x.advance(36), 0);
        due.is("offers(0)", x.offers(0), 4);
        due.is("advance(1)", x.advance(1), 0);
        due.is("offers(0)", x.offers(0), 5);
    }

    private static void settledWaitsNoMore() {
        due.about("What is settled waits no more");
        SeptetCentre x = two(7, 8);
        for (int k = 0; k < 3; k++) {
            accept(x, 0, k == 0 ? 8 : k == 1 ? 9 : 7, 0, true);
        }
        due.is("advance(5)", x.advance(5), 3);
        x.power(0, true);
        x.register(2, 9);
        x.power(2, true);
        due.is("advance(100000)", x.advance(100000), 0);
        int[] states = {1, 3, 2};
        int[] offers = {1, 1, 2};
        for (int m = 0; m < 3; m++) {
            due.is("state(" + m + ")", x.state(m), states[m]);
            due.is("offers(" + m + ")", x.offers(m), offers[m]);
        }
        due.is("waiting(4)", x.waiting(4), 3);
    }

    private static void roomForReports() {
        due.about("if a report was wanted, and the device that sent it up has room in its line of REPORTs");
        for (int before = 5; before <= 6; before++) {
            for (int wanted = 0; wanted <= 1; wanted++) {
                SeptetCentre x = two(7, 8);
                for (int k = 0; k < before; k++) {
                    accept(x, 0, 9, 0, true);
                }
                due.is("advance(0)", x.advance(0), before);
                accept(x, 0, 8, 0, wanted == 1);
                due.is("advance(0)", x.advance(0), 1);
                due.is("waiting(4)", x.waiting(4), before == 6 || wanted == 1 ? 6 : 5);
                due.is("no other device gets it", x.waiting(5), 0);
                due.is("it is taken all the same", x.state(before), 1);
            }
        }
    }

    private static void timeOfSettling() {
        due.about("its time of settling is the moment");
        SeptetCentre x = two(7, 8);
        x.power(1, false);
        x.advance(2);
        accept(x, 0, 8, 1, true);
        accept(x, 0, 9, 1, true);
        due.is("advance(5000)", x.advance(5000), 2);
        rowIs(x, 4, "2 1 1 145 249 0 0 0 0 0 0 32 0 0 0 0 0 0 32 73");
        x.report(0);
        rowIs(x, 4, "2 0 1 145 248 0 0 0 0 0 0 32 0 0 0 0 0 0 33 70");
        x.report(0);
        accept(x, 0, 8, 143, true);
        x.advance(4);
        x.power(1, true);
        due.is("advance(900)", x.advance(900), 1);
        // Accepted at 5002, offered at 5002, 5003 and 5007.
        rowIs(x, 4, "2 2 1 145 248 0 0 0 0 0 5 32 0 0 0 0 0 5 112 0");
    }
}
