/** Promises 7 and 8: alter, receive, and what is legal. */
public final class ReceiveTest {
    private static final Due due = new Due("ReceiveTest");
    /** Where the bytes of a SUBMIT to a number of two digits stand. */
    private static final int NUMBER = 1;
    private static final int DIGITS = 2;
    private static final int DIGIT_BYTE = 4;
    private static final int VALIDITY = 7;
    private static final int LENGTH = 8;
    private static final int DATA = 9;

    public static void main(String[] args) {
        alterEdges();
        alterChangesTheFirstRow();
        kinds();
        addresses();
        fillers();
        addressesOfOtherSizes();
        middles();
        lengths();
        spareBits();
        escapes();
        everyCode();
        headers();
        headerLengths();
        headerTooLong();
        headerMadeByHand();
        headerReadAsText();
        freeBytes();
        noneAndFull();
        fullComesBeforeIllegal();
        hundred();
        senderAsItIsNow();
        alteredReceiver();
        alteredReportWish();
        due.end();
    }

    private static SeptetCentre sent(String text) {
        return sent(text, 42);
    }

    private static SeptetCentre sent(String text, long to) {
        SeptetCentre x = new SeptetCentre();
        x.register(0, 7);
        Steps.draft(x, text);
        x.send(0, to, 9, false);
        return x;
    }

    /** What receive answers to the SUBMIT of this text with bytes set: places and values in turn. */
    private static void received(String what, boolean legal, String text, int... sets) {
        SeptetCentre x = sent(text);
        for (int k = 0; k < sets.length; k += 2) {
            Steps.set(x, sets[k], sets[k + 1]);
        }
        int rows = x.waiting(-1);
        due.is(what, x.receive(), legal ? 0 : -6);
        due.is(what + ", rows left", x.waiting(-1), rows - 1);
        due.is(what + ", state(0)", x.state(0), legal ? 0 : -2);
    }

    private static void alterEdges() {
        due.about("promise 7, edges");
        SeptetCentre x = sent("abc");
        int size = DATA + 3;
        due.is("alter(-1, 1)", x.alter(-1, 1), false);
        due.is("alter(size, 1)", x.alter(size, 1), false);
        due.is("alter(most int, 1)", x.alter(Integer.MAX_VALUE, 1), false);
        due.is("alter(least int, 1)", x.alter(Integer.MIN_VALUE, 1), false);
        due.is("alter(0, 0)", x.alter(0, 0), false);
        due.is("alter(0, 256)", x.alter(0, 256), false);
        due.is("alter(0, -1)", x.alter(0, -1), false);
        due.is("nothing is changed", x.byteAt(-1, 0), 17);
        due.is("alter(size - 1, 1)", x.alter(size - 1, 1), true);
        due.is("alter(0, 255)", x.alter(0, 255), true);
        due.is("byte 0", x.byteAt(-1, 0), 238);
        due.is("alter(0, 1)", x.alter(0, 1), true);
        due.is("byte 0", x.byteAt(-1, 0), 239);
        due.is("alter(0, 254) back", x.alter(0, 254), true);
        due.is("byte 0", x.byteAt(-1, 0), 17);
        due.is("alter(size - 1, 1) back", x.alter(size - 1, 1), true);
        due.is("receive", x.receive(), 0);
        due.is("empty uplink", x.alter(0, 1), false);
    }

    private static void alterChangesTheFirstRow() {
        due.about("promise 7, the first row alone");
        SeptetCentre x = sent("abc");
        x.send(0, 42, 9, false);
        x.alter(0, 2);
        due.is("receive", x.receive(), -6);
        due.is("kind of the second", x.byteAt(-1, 0), 17);
        due.is("receive", x.receive(), 0);
    }

    private static void kinds() {
        due.about("promise 8, the first byte");
        for (int kind = 0; kind < 256; kind++) {
            boolean legal = kind == 17 || kind == 49;
            received("kind " + kind, legal, "abc", 0, kind);
        }
        String longText = "a".repeat(161);
        received("kind 81 with header", true, longText);
        received("kind 113 with header", true, longText, 0, 113);
        received("kind 209 with header", false, longText, 0, 209);
    }

    private static void addresses() {
        due.about("promise 8, the address");
        received("as it was sent", true, "abc");
        for (int digits = 0; digits < 256; digits++) {
            received("digits " + digits, digits == 2, "abc", DIGITS, digits);
        }
        for (int kind = 0; kind < 256; kind++) {
            received("kind of number " + kind, kind == 145, "abc", 3, kind);
        }
        for (int pair = 0; pair < 256; pair++) {
            boolean legal = pair % 16 >= 1 && pair % 16 <= 9 && pair / 16 <= 9;
            received("digit byte " + pair, legal, "abc", DIGIT_BYTE, pair);
        }
    }

    private static void fillers() {
        due.about("promise 8, an odd number of digits");
        for (int pair = 0; pair < 256; pair++) {
            SeptetCentre x = sent("abc", 123);
            Steps.set(x, DIGIT_BYTE + 1, pair);
            boolean legal = pair / 16 == 15 && pair % 16 <= 9;
            due.is("last digit byte " + pair, x.receive(), legal ? 0 : -6);
        }
        SeptetCentre x = sent("abc", 12);
        x.alter(DIGITS, 3);
        Steps.set(x, DIGIT_BYTE, 0xF1);
        due.is("12 made to 1", x.receive(), 0);
        x = sent("abc", 123456789012L);
        due.is("twelve digits", x.receive(), 0);
        x = sent("abc", 900000000000L);
        due.is("zeros inside", x.receive(), 0);
        x = sent("abc", 123456789012L);
        Steps.set(x, DIGITS, 11);
        Steps.set(x, DIGIT_BYTE + 5, 0xF1);
        due.is("eleven digits", x.receive(), 0);
    }

    /** What receive answers to a row of n times @ whose bytes from the count of digits on are these. */
    private static void shifted(String what, boolean legal, int n, long to, int... values) {
        SeptetCentre x = sent("@".repeat(n), to);
        for (int k = 0; k < values.length; k++) {
            Steps.set(x, DIGITS + k, values[k]);
        }
        due.is(what, x.receive(), legal ? 0 : -6);
    }

    /** An address of another size moves all that is behind it, so that user data gets more or fewer bytes. */
    private static void addressesOfOtherSizes() {
        due.about("promise 8, all right but for one thing");
        shifted("no digits", false, 8, 42, 0, 145, 0, 0, 9, 9);
        shifted("one digit instead of two", true, 8, 42, 1, 145, 0xF4, 0, 0, 9, 8);
        shifted("three digits", true, 8, 42, 3, 145, 0x24, 0xF1, 0, 0, 9, 6);
        shifted("eleven digits", true, 8, 123456789012L,
            11, 145, 0x21, 0x43, 0x65, 0x87, 0x09, 0xF1, 0, 0, 9, 8);
        shifted("thirteen digits", false, 8, 123456789012L,
            13, 145, 0x21, 0x43, 0x65, 0x87, 0x09, 0x21, 0xF3, 0, 0, 9, 6);
        shifted("fourteen digits", false, 8, 123456789012L,
            14, 145, 0x21, 0x43, 0x65, 0x87, 0x09, 0x21, 0x43, 0, 0, 9, 6);
        shifted("ten digits and 160 septets", true, 158, 123456789012L,
            10, 145, 0x21, 0x43, 0x65, 0x87, 0x09, 0, 0, 9, 160);
        shifted("ten digits and 161 septets", false, 160, 123456789012L,
            10, 145, 0x21, 0x43, 0x65, 0x87, 0x09, 0, 0, 9, 161);
        shifted("two digits and 166 septets", false, 160, 123456789012L,
            2, 145, 0x21, 0, 0, 9, 166);
    }

    private static void middles() {
        due.about("promise 8, zeros and validity");
        for (int value = 0; value < 256; value++) {
            received("first zero " + value, value == 0, "abc", 5, value);
            received("second zero " + value, value == 0, "abc", 6, value);
            received("validity " + value, value <= 143, "abc", VALIDITY, value);
        }
    }

    private static void lengths() {
        due.about("promise 8, the length");
        for (int length = 0; length < 256; length++) {
            received("length " + length, length == 3, "abc", LENGTH, length);
        }
        received("empty", true, "");
        received("empty, length 1", false, "", LENGTH, 1);
        // Seven and eight septets both take seven bytes.
        received("eight, length 7", false, "aaaaaaaa", LENGTH, 7);
        received("seven and @ told by the length", true, "aaaaaaa@", LENGTH, 7);
        received("seven read as eight", true, "aaaaaaa", LENGTH, 8);
        received("160", true, "a".repeat(160));
        received("160, length 161", false, "a".repeat(160), LENGTH, 161);
        received("160, length 159", false, "a".repeat(160), LENGTH, 159);
    }

    private static void spareBits() {
        due.about("promise 8, bits that are nobody's");
        for (int septets = 0; septets <= 160; septets++) {
            int used = 7 * septets % 8;
            for (int bit = used; used != 0 && bit < 8; bit++) {
                SeptetCentre x = sent("a".repeat(septets));
                x.alter(LENGTH + (7 * septets + 7) / 8, 1 << bit);
                due.is(septets + " septets, bit " + bit, x.receive(), -6);
            }
            if (septets > 0) {
                SeptetCentre x = sent("a".repeat(septets));
                x.alter(LENGTH + (7 * septets + 7) / 8, used == 0 ? 128 : 1 << used - 1);
                due.is(septets + " septets, the last used bit", x.receive(), 0);
            }
        }
    }

    private static void escapes() {
        due.about("promise 8, escapes");
        int[] second = {10, 20, 40, 41, 47, 60, 61, 62, 64, 101};
        for (int code = 0; code < 128; code++) {
            boolean known = false;
            for (int one : second) {
                known |= one == code;
            }
            received("escape and " + code, known, "aa", DATA, 27 | (code & 1) << 7, DATA + 1, code >> 1);
        }
        received("escape alone", false, "a", DATA, 27);
        received("escape at the end", false, "aa", DATA, 97 | (27 & 1) << 7, DATA + 1, 27 >> 1);
        received("escape, second, escape", false, "[a", DATA + 1, 60 >> 1 | (27 << 6 & 255), DATA + 2, 27 >> 2);
        received("a second code behind a second code", true, "[[");
        received("escape at the end of 160", false, "a".repeat(160), DATA + 139, 27 << 1 | 1);
    }

    private static void everyCode() {
        due.about("promise 8, each code alone");
        for (int code = 0; code < 128; code++) {
            received("code " + code, code != 27, "a", DATA, code);
        }
    }

    private static void headers() {
        due.about("promise 8, the header");
        String text = "a".repeat(170);
        for (int value = 0; value < 256; value++) {
            received("first byte " + value, value == 5, text, DATA, value);
            received("second byte " + value, value == 0, text, DATA + 1, value);
            received("third byte " + value, value == 3, text, DATA + 2, value);
            received("reference " + value, true, text, DATA + 3, value);
            received("parts " + value, value >= 1 && value <= 3, text, DATA + 4, value);
            received("part " + value, value == 1 || value == 2, text, DATA + 5, value);
        }
        for (int parts = 0; parts < 5; parts++) {
            for (int part = 0; part < 6; part++) {
                boolean legal = parts >= 1 && parts <= 3 && part >= 1 && part <= parts;
                received("part " + part + " of " + parts, legal, text, DATA + 4, parts, DATA + 5, part);
            }
        }
        SeptetCentre x = sent(text);
        x.alter(DATA + 6, 1);
        due.is("bit 48", x.receive(), -6);
        x = sent(text);
        x.alter(DATA + 6, 2);
        due.is("bit 49", x.receive(), 0);
    }

    private static void headerLengths() {
        due.about("promise 8, lengths with header");
        for (int length = 0; length < 256; length++) {
            received("length " + length, length == 160, "a".repeat(170), LENGTH, length);
        }
        // A text of n septets turned into a part with a header and n - 7 septets of zero.
        for (int n = 0; n <= 160; n++) {
            SeptetCentre x = sent("@".repeat(n));
            x.alter(0, 64);
            int[] header = {5, 0, 3, 0, 1, 1};
            for (int k = 0; k < header.length; k++) {
                Steps.set(x, DATA + k, header[k]);
            }
            due.is("header in " + n + " septets", x.receive(), n >= 7 ? 0 : -6);
        }
    }

    private static void headerTooLong() {
        due.about("promise 8, more than 153 septets with header");
        // With ten digits instead of twelve, user data of 140 bytes gets one more.
        int[] plain = {10, 145, 0x21, 0x43, 0x65, 0x87, 0x09, 0, 0, 9, 161, 5, 0, 3, 0, 1, 1, 0};
        SeptetCentre x = sent("@".repeat(160), 123456789012L);
        x.alter(0, 64);
        for (int k = 0; k < plain.length; k++) {
            Steps.set(x, DIGITS + k, plain[k]);
        }
        due.is("154 septets", x.receive(), -6);
    }

    private static void headerMadeByHand() {
        due.about("promises 8 and 10, a header of one part");
        SeptetCentre x = Steps.ready();
        Steps.sendPart(x, 0, 1002, new int[] {200, 1, 1}, "b");
        due.is("receive", x.receive(), 0);
        due.is("advance(0)", x.advance(0), 1);
        due.is("kind", x.byteAt(1, 0), 68);
        due.is("take", x.take(1), 1);
        due.is("text", x.text(1, 0), 98);
        due.is("sender", x.sender(1), 1001);
    }

    private static void headerReadAsText() {
        due.about("promise 8, the bytes of a header as text");
        SeptetCentre x = sent("a".repeat(153) + "b".repeat(8));
        x.alter(0, 64);
        due.is("receive", x.receive(), 0);
        x = sent("a".repeat(153) + "b".repeat(8));
        x.alter(0, 64);
        x.alter(DATA, 5 ^ 27);
        due.is("receive with an escape and @", x.receive(), -6);
    }

    private static void freeBytes() {
        due.about("promise 8, the message number is free");
        for (int value = 0; value < 256; value++) {
            received("message number " + value, true, "abc", NUMBER, value);
        }
    }

    private static void noneAndFull() {
        due.about("promise 8, NONE and FULL");
        SeptetCentre x = Steps.ready();
        x.power(1, false);
        due.is("receive", x.receive(), -2);
        for (int k = 0; k < 12; k++) {
            x.send(0, 1002, 143, false);
            due.is("receive", x.receive(), k);
        }
        due.is("empty before full", x.receive(), -2);
        x.send(0, 1002, 143, false);
        due.is("twelve wait", x.receive(), -3);
        due.is("the row stays", x.waiting(-1), 1);
        due.is("state(12)", x.state(12), -2);
        x.power(1, true);
        due.is("six find room", x.advance(0), 6);
        due.is("receive", x.receive(), 12);
        due.is("the row is gone", x.waiting(-1), 0);
    }

    private static void fullComesBeforeIllegal() {
        due.about("promise 8, FULL before ILLEGAL");
        SeptetCentre x = Steps.ready();
        x.power(1, false);
        for (int k = 0; k < 12; k++) {
            x.send(0, 1002, 0, false);
            x.receive();
        }
        x.send(0, 1002, 0, false);
        x.alter(0, 128);
        due.is("receive", x.receive(), -3);
        due.is("the row stays", x.byteAt(-1, 0), 145);
        due.is("all too old", x.advance(5), 12);
        due.is("receive", x.receive(), -6);
        due.is("waiting(-1)", x.waiting(-1), 0);
        due.is("no new message", x.state(12), -2);
    }

    private static void hundred() {
        due.about("promise 8, a hundred messages");
        SeptetCentre x = new SeptetCentre();
        x.register(0, 7);
        for (int k = 0; k < 100; k++) {
            x.send(0, 8, 0, false);
            due.is("receive", x.receive(), k);
            if (k % 12 == 11) {
                due.is("advance", x.advance(0), 12);
            }
        }
        x.advance(0);
        x.send(0, 8, 0, false);
        due.is("receive", x.receive(), -3);
        due.is("the row stays", x.waiting(-1), 1);
        due.is("state(99)", x.state(99), 3);
        due.is("state(100)", x.state(100), -2);
        due.is("offers(99)", x.offers(99), 1);
        due.is("offers(100)", x.offers(100), -2);
        x.alter(0, 2);
        due.is("illegal, receive", x.receive(), -3);
    }

    private static void senderAsItIsNow() {
        due.about("promise 8, the sender's number as it is now");
        SeptetCentre x = Steps.ready();
        x.power(1, false);
        x.send(0, 1002, 143, true);
        x.register(0, 314);
        due.is("receive", x.receive(), 0);
        x.register(0, 999);
        x.power(1, true);
        x.advance(0);
        due.is("DELIVER", Steps.row(x, 1).equals("4 3 145 19 244 0 0 0 0 0 0 0 0 0 0"), true);
        due.is("take", x.take(1), 0);
        due.is("sender", x.sender(1), 314);
        due.is("the report comes to the device", x.waiting(4), 1);
    }

    private static void alteredReceiver() {
        due.about("promises 7 and 8, another receiver");
        SeptetCentre x = Steps.ready();
        x.send(0, 1002, 0, true);
        // The last digit stands in the upper four bits of the second digit byte.
        x.alter(5, (2 ^ 3) << 4);
        due.is("receive", x.receive(), 0);
        due.is("advance(0)", x.advance(0), 1);
        due.is("waiting(1)", x.waiting(1), 0);
        due.is("waiting(2)", x.waiting(2), 1);
        due.is("REPORT", Steps.row(x, 4).equals("2 0 4 145 1 48 0 0 0 0 0 0 0 0 0 0 0 0 0 0 0"), true);
    }

    private static void alteredReportWish() {
        due.about("promises 7 and 8, the wish for a report and the validity");
        SeptetCentre x = Steps.ready();
        x.power(1, false);
        x.send(0, 1002, 0, false);
        x.alter(0, 32);
        x.alter(1, 77);
        x.alter(8, 1);
        due.is("receive", x.receive(), 0);
        due.is("advance(9)", x.advance(9), 0);
        due.is("advance(1)", x.advance(1), 1);
        due.is("report(0)", x.report(0), 256 * 70 + 77);
    }
}
