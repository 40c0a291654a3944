import java.util.HashMap;
import java.util.Map;

/** Promises 4 to 6: type, wipe, send, and the alphabet and the packing of the terms. */
public final class SendTest {
    private static final Due due = new Due("SendTest");
    /** The exceptions and the other codes, in the words of the document. */
    private static final String CODES =
        "36: 164; 64: 161; 91: 196; 92: 214; 93: 209; 94: 220; 95: 167; 96: 191; 123: 228; 124: 246; 125: 241; "
        + "126: 252; 0: 64; 1: 163; 2: 36; 3: 165; 4: 232; 5: 233; 6: 249; 7: 236; 8: 242; 9: 199; 10: 10; "
        + "11: 216; 12: 248; 13: 13; 14: 197; 15: 229; 16: 916; 17: 95; 18: 934; 19: 915; 20: 923; 21: 937; "
        + "22: 928; 23: 936; 24: 931; 25: 920; 26: 926; 28: 198; 29: 230; 30: 223; 31: 201; 127: 224";
    private static final String SECOND = "12 as 10, 94 as 20, 123 as 40, 125 as 41, 92 as 47, 91 as 60, 126 as 61, "
        + "93 as 62, 124 as 64, 8364 as 101";

    public static void main(String[] args) {
        typeEdges();
        typeFills();
        refusedTypeChangesNothing();
        wipes();
        everyCharacter();
        submitBytes();
        addresses();
        packing();
        sendBad();
        orderOfCodes();
        oneOrMoreParts();
        headers();
        escapeIsNotCut();
        longTexts();
        fullUplink();
        countsByDevice();
        draftStays();
        due.end();
    }

    private static void typeEdges() {
        due.about("promise 4, edges");
        SeptetCentre x = new SeptetCentre();
        due.is("type(a, 0)", x.type('a', 0), false);
        due.is("type(a, -1)", x.type('a', -1), false);
        due.is("type(a, 161)", x.type('a', 161), false);
        due.is("type(a, least int)", x.type('a', Integer.MIN_VALUE), false);
        due.is("type(a, most int)", x.type('a', Integer.MAX_VALUE), false);
        due.is("type(a, 1)", x.type('a', 1), true);
        due.is("type(a, 160)", x.type('a', 160), true);
        due.is("a character of no alphabet", x.type((char) 65535, 1), true);
        due.is("character 0", x.type((char) 0, 1), true);
    }

    private static void typeFills() {
        due.about("promise 4, 480 characters");
        SeptetCentre x = new SeptetCentre();
        due.is("160", x.type('a', 160), true);
        due.is("320", x.type('[', 160), true);
        due.is("479", x.type('b', 159), true);
        due.is("481", x.type('c', 2), false);
        due.is("480", x.type('c', 1), true);
        due.is("481", x.type('c', 1), false);
        due.is("640", x.type('c', 160), false);
        x.wipe();
        due.is("after wipe", x.type('c', 160), true);
    }

    private static void refusedTypeChangesNothing() {
        due.about("promise 4, refused");
        SeptetCentre x = Steps.ready();
        x.type('a', 0);
        x.type((char) 1, 161);
        x.type('a', 3);
        due.is("send", x.send(0, 1002, 0, false), 1);
        due.is("length", x.byteAt(-1, 9), 3);
    }

    private static void wipes() {
        due.about("promise 5");
        SeptetCentre x = Steps.ready();
        x.wipe();
        x.type((char) 9, 2);
        x.type('a', 20);
        x.wipe();
        x.type('b', 1);
        due.is("send", x.send(0, 1002, 0, false), 1);
        due.is("length", x.byteAt(-1, 9), 1);
        due.is("data", x.byteAt(-1, 10), 98);
        due.is("no more", x.byteAt(-1, 11), -2);
    }

    private static void everyCharacter() {
        due.about("promise 6 and the alphabet");
        Map<Integer, Integer> septets = alphabet();
        due.is("characters of the alphabet", septets.size(), 137);
        for (int c = 0; c < 65536; c++) {
            SeptetCentre x = new SeptetCentre();
            x.register(0, 7);
            x.register(1, 8);
            x.power(1, true);
            x.type((char) c, 1);
            Integer form = septets.get(c);
            int parts = x.send(0, 8, 0, false);
            due.is("character " + c, parts, form == null ? -4 : 1);
            if (form != null && parts == 1) {
                due.is("length for " + c, x.byteAt(-1, 8), form >= 128 ? 2 : 1);
                due.is("first byte for " + c, x.byteAt(-1, 9), form & 255);
                due.is("second byte for " + c, x.byteAt(-1, 10), form >= 128 ? form >> 8 : -2);
                x.receive();
                x.advance(0);
                due.is("take for " + c, x.take(1), 1);
                due.is("text for " + c, x.text(1, 0), c);
            }
        }
    }

    /** Each character with its septets as packed bits. */
    private static Map<Integer, Integer> alphabet() {
        Map<Integer, Integer> byCode = new HashMap<>();
        for (int code = 32; code <= 126; code++) {
            byCode.put(code, code);
        }
        for (String entry : CODES.split("; ")) {
            String[] pair = entry.split(": ");
            byCode.put(Integer.parseInt(pair[0]), Integer.parseInt(pair[1]));
        }
        Map<Integer, Integer> septets = new HashMap<>();
        byCode.forEach((code, c) -> septets.put(c, code));
        for (String entry : SECOND.split(", ")) {
            String[] pair = entry.split(" as ");
            septets.put(Integer.parseInt(pair[0]), 27 + (Integer.parseInt(pair[1]) << 7));
        }
        return septets;
    }

    private static void rowIs(String call, String got, String want) {
        due.is(call + " (" + got + ", due is " + want + ")", got.equals(want), true);
    }

    private static void submitBytes() {
        due.about("promise 6, the bytes of a SUBMIT");
        SeptetCentre x = Steps.ready();
        Steps.draft(x, "hello");
        due.is("send", x.send(0, 27381000015L, 7, false), 1);
        rowIs("row", Steps.row(x, -1), "17 0 11 145 114 131 1 0 16 245 0 0 7 5 232 50 155 253 6");
        x.receive();
        Steps.draft(x, "@");
        due.is("send", x.send(0, 10, 143, true), 1);
        rowIs("row", Steps.row(x, -1), "49 1 2 145 1 0 0 143 1 0");
    }

    private static void addresses() {
        due.about("promise 6, addresses");
        String[] want = {"1 145 241", "2 145 33", "3 145 33 243", "4 145 33 67", "5 145 33 67 245", "6 145 33 67 101",
            "7 145 33 67 101 247", "8 145 33 67 101 135", "9 145 33 67 101 135 249", "10 145 33 67 101 135 9",
            "11 145 33 67 101 135 9 241", "12 145 33 67 101 135 9 33"};
        long number = 0;
        for (int digits = 1; digits <= 12; digits++) {
            number = 10 * number + digits % 10;
            SeptetCentre x = Steps.ready();
            due.is("send to " + number, x.send(0, number, 0, false), 1);
            rowIs("row", Steps.row(x, -1), "17 0 " + want[digits - 1] + " 0 0 0 0");
        }
        long power = 10;
        for (int digits = 1; digits < 12; digits++) {
            SeptetCentre x = Steps.ready();
            x.send(0, power - 1, 0, false);
            x.send(0, power, 0, false);
            due.is("digits of " + (power - 1), x.byteAt(-1, 2), digits);
            due.is("receive", x.receive(), 0);
            due.is("digits of " + power, x.byteAt(-1, 2), digits + 1);
            due.is("receive", x.receive(), 1);
            power *= 10;
        }
        SeptetCentre x = Steps.ready();
        x.send(0, 999999999999L, 0, false);
        rowIs("the greatest number", Steps.row(x, -1), "17 0 12 145 153 153 153 153 153 153 0 0 0 0");
    }

    private static void packing() {
        due.about("promise 6, packing");
        SeptetCentre x = Steps.ready();
        // Eight septets of ones in seven bytes, and a ninth that begins a byte of its own.
        x.type((char) 224, 8);
        x.send(0, 10, 0, false);
        rowIs("row", Steps.row(x, -1), "17 0 2 145 1 0 0 0 8 255 255 255 255 255 255 255");
        x.receive();
        x.type((char) 224, 1);
        x.send(0, 10, 0, false);
        rowIs("row", Steps.row(x, -1), "17 1 2 145 1 0 0 0 9 255 255 255 255 255 255 255 127");
        x.receive();
        Steps.draft(x, "a]b");
        x.send(0, 10, 0, false);
        rowIs("escape", Steps.row(x, -1), "17 2 2 145 1 0 0 0 4 225 141 79 12");
    }

    private static void sendBad() {
        due.about("promise 6, BAD");
        SeptetCentre x = new SeptetCentre();
        x.register(0, 7);
        due.is("send(-1)", x.send(-1, 7, 0, false), -1);
        due.is("send(4)", x.send(4, 7, 0, false), -1);
        due.is("send(most int)", x.send(Integer.MAX_VALUE, 7, 0, false), -1);
        due.is("to 0", x.send(0, 0, 0, false), -1);
        due.is("to -5", x.send(0, -5, 0, false), -1);
        due.is("to 10^12", x.send(0, 1000000000000L, 0, false), -1);
        due.is("validity -1", x.send(0, 7, -1, false), -1);
        due.is("validity 144", x.send(0, 7, 144, false), -1);
        due.is("no number", x.send(1, 7, 0, false), -1);
        due.is("nothing came", x.waiting(-1), 0);
        due.is("validity 143", x.send(0, 7, 143, false), 1);
        due.is("to 10^12 - 1", x.send(0, 999999999999L, 0, false), 1);
        due.is("first message number", x.byteAt(-1, 1), 0);
    }

    private static void orderOfCodes() {
        due.about("promise 6, the order of the codes");
        SeptetCentre x = Steps.ready();
        for (int k = 0; k < 8; k++) {
            x.send(0, 1002, 0, false);
        }
        due.is("full", x.send(0, 1002, 0, false), -3);
        Steps.type(x, 'a', 460);
        due.is("long and full", x.send(0, 1002, 0, false), -5);
        x.type('`', 1);
        due.is("alien, long and full", x.send(0, 1002, 0, false), -4);
        due.is("bad, alien, long and full", x.send(0, 1002, 144, false), -1);
        x.wipe();
        x.type('`', 1);
        due.is("alien and full", x.send(0, 1002, 0, false), -4);
        due.is("waiting(-1)", x.waiting(-1), 8);
    }

    private static void partsOf(int plain, int escaped, int want) {
        SeptetCentre x = Steps.ready();
        Steps.type(x, 'a', plain);
        Steps.type(x, '{', escaped);
        due.is(plain + " and " + escaped + " of two", x.send(0, 1002, 0, false), want);
        due.is("rows", x.waiting(-1), want < 0 ? 0 : want);
    }

    private static void oneOrMoreParts() {
        due.about("promise 6, how many parts");
        partsOf(0, 0, 1);
        partsOf(153, 0, 1);
        partsOf(154, 0, 1);
        partsOf(160, 0, 1);
        partsOf(161, 0, 2);
        partsOf(0, 80, 1);
        partsOf(1, 80, 2);
        partsOf(159, 1, 2);
        partsOf(306, 0, 2);
        partsOf(307, 0, 3);
        partsOf(459, 0, 3);
        partsOf(460, 0, -5);
        partsOf(480, 0, -5);
        partsOf(0, 152, 2);
        partsOf(0, 153, 3);
        partsOf(0, 228, 3);
        partsOf(0, 229, -5);
        partsOf(0, 480, -5);
        partsOf(1, 228, 3);
        partsOf(1, 229, -5);
    }

    private static void headers() {
        due.about("promise 6, headers");
        SeptetCentre x = Steps.ready();
        Steps.type(x, (char) 224, 320);
        due.is("send", x.send(0, 10, 3, true), 3);
        due.is("send", x.send(0, 10, 3, false), 3);
        String ones = "255 ".repeat(133);
        rowIs("part 1", Steps.row(x, -1), "113 0 2 145 1 0 0 3 160 5 0 3 0 3 1 254 " + ones.trim());
        x.receive();
        rowIs("part 2", Steps.row(x, -1), "113 1 2 145 1 0 0 3 160 5 0 3 0 3 2 254 " + ones.trim());
        x.receive();
        rowIs("part 3", Steps.row(x, -1),
            "113 2 2 145 1 0 0 3 21 5 0 3 0 3 3 254 " + "255 ".repeat(11) + "7");
        x.receive();
        due.is("kind without report", x.byteAt(-1, 0), 81);
        due.is("reference of the second text", x.byteAt(-1, 12), 1);
        due.is("message number goes on", x.byteAt(-1, 1), 3);
    }

    private static void escapeIsNotCut() {
        due.about("promise 6, a character of two septets stays whole");
        SeptetCentre x = Steps.ready();
        Steps.type(x, 'a', 152);
        x.type('[', 1);
        Steps.type(x, 'a', 10);
        due.is("send", x.send(0, 1002, 0, false), 2);
        due.is("length of part 1", x.byteAt(-1, 9), 7 + 152);
        x.receive();
        due.is("length of part 2", x.byteAt(-1, 9), 7 + 12);
        x.receive();
        x.wipe();
        Steps.type(x, 'a', 151);
        x.type('[', 1);
        Steps.type(x, 'a', 10);
        due.is("send", x.send(0, 1002, 0, false), 2);
        due.is("length of part 1", x.byteAt(-1, 9), 7 + 153);
        x.receive();
        due.is("length of part 2", x.byteAt(-1, 9), 7 + 10);
        x.receive();
        x.advance(0);
        due.is("take", x.take(1), -2);
        due.is("take", x.take(1), 163);
        due.is("take", x.take(1), -2);
        due.is("take", x.take(1), 162);
        due.is("the text", Steps.text(x, 1).equals("a".repeat(151) + "[" + "a".repeat(10)), true);
    }

    private static void longTexts() {
        due.about("promise 6, LONG changes nothing");
        SeptetCentre x = Steps.ready();
        Steps.type(x, 'a', 460);
        due.is("send", x.send(0, 1002, 0, false), -5);
        due.is("rows", x.waiting(-1), 0);
        x.wipe();
        Steps.type(x, 'a', 161);
        due.is("send", x.send(0, 1002, 0, false), 2);
        due.is("message number", x.byteAt(-1, 1), 0);
        due.is("reference", x.byteAt(-1, 13), 0);
    }

    private static void fullUplink() {
        due.about("promise 6, FULL");
        SeptetCentre x = Steps.ready();
        for (int k = 0; k < 6; k++) {
            due.is("send", x.send(0, 1002, 0, false), 1);
        }
        Steps.type(x, 'a', 320);
        due.is("three more than two", x.send(0, 1002, 0, false), -3);
        due.is("rows", x.waiting(-1), 6);
        x.wipe();
        Steps.type(x, 'a', 170);
        due.is("two", x.send(0, 1002, 0, false), 2);
        due.is("rows", x.waiting(-1), 8);
        due.is("no room", x.send(0, 1002, 0, false), -3);
        for (int k = 0; k < 6; k++) {
            x.receive();
        }
        due.is("message number did not grow", x.byteAt(-1, 1), 6);
        due.is("reference did not grow", x.byteAt(-1, 13), 0);
        x.receive();
        x.receive();
        x.send(0, 1002, 0, false);
        due.is("message number", x.byteAt(-1, 1), 8);
        due.is("reference", x.byteAt(-1, 13), 1);
    }

    private static void countsByDevice() {
        due.about("promise 6, counts of each device");
        SeptetCentre x = Steps.ready();
        x.send(0, 1002, 0, false);
        x.send(0, 1002, 0, false);
        Steps.type(x, 'a', 161);
        x.send(0, 1002, 0, false);
        x.send(1, 1002, 0, false);
        int[] numbers = {0, 1, 2, 3, 0, 1};
        int[] references = {-2, -2, 0, 0, 0, 0};
        for (int k = 0; k < numbers.length; k++) {
            due.is("message number of row " + k, x.byteAt(-1, 1), numbers[k]);
            due.is("reference of row " + k, x.byteAt(-1, 13), references[k]);
            x.receive();
        }
        x.register(0, 5);
        x.send(0, 1002, 0, false);
        due.is("another number, the same count", x.byteAt(-1, 1), 4);
        due.is("another number, the same references", x.byteAt(-1, 13), 1);
    }

    private static void draftStays() {
        due.about("promise 6, the draft stays");
        SeptetCentre x = Steps.ready();
        x.type('a', 3);
        x.send(0, 1002, 0, false);
        x.type('b', 1);
        x.send(0, 1002, 0, false);
        x.receive();
        due.is("length", x.byteAt(-1, 9), 4);
    }
}
