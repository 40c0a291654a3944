/** Promises 10, 11, 12, 16 and 17: take with its piles, copy, swap, text, sender. */
public final class TakeTest {
    private static final Due due = new Due("TakeTest");

    public static void main(String[] args) {
        takeEdges();
        textsWithoutHeader();
        emptyText();
        partsInAnyOrder();
        partTwice();
        copyAfterTheWhole();
        pilesBySender();
        pilesByReference();
        pilesByParts();
        fourthPile();
        pileBegunIsOldNotUsed();
        onePartNeedsAPileToo();
        joinedFromTwoTexts();
        pilesOfEachDevice();
        wholeTextsLeavePilesAlone();
        copyEdges();
        copyIsTheSame();
        swapEdges();
        swapsTheFirstTwo();
        textAndSenderEdges();
        longestText();
        due.end();
    }

    /** Device d sends a text in parts to device 1; all of it comes into the inbox. */
    private static void deliver(SeptetCentre x, int d, String text) {
        Steps.draft(x, "");
        int done = 0;
        while (done < text.length()) {
            int end = done;
            while (end < text.length() && end - done < 160 && text.charAt(end) == text.charAt(done)) {
                end++;
            }
            x.type(text.charAt(done), end - done);
            done = end;
        }
        x.send(d, 1002, 0, false);
        Steps.receiveAll(x);
        x.advance(0);
    }

    /** Device d sends one part of its own make, with a text of one character, to device 1. */
    private static void deliverPart(SeptetCentre x, int d, int reference, int parts, int part, char c) {
        Steps.sendPart(x, d, 1002, new int[] {reference, parts, part}, String.valueOf(c));
        due.is("receive a part", x.receive() >= 0, true);
        due.is("advance(0)", x.advance(0), 1);
    }

    /** Such a part, and what take answers to it. */
    private static void part(SeptetCentre x, int d, int reference, int parts, int part, int want) {
        deliverPart(x, d, reference, parts, part, (char) ('a' + part));
        due.is("take of part " + part + " of " + parts + ", reference " + reference + ", from " + d, x.take(1), want);
    }

    private static void textIs(SeptetCentre x, int d, String want) {
        String got = Steps.text(x, d);
        due.is("text \"" + got + "\", due is \"" + want + "\"", got.equals(want), true);
    }

    private static void takeEdges() {
        due.about("promise 10, edges");
        SeptetCentre x = Steps.ready();
        due.is("take(-1)", x.take(-1), -1);
        due.is("take(4)", x.take(4), -1);
        due.is("take(most int)", x.take(Integer.MAX_VALUE), -1);
        due.is("take(1)", x.take(1), -100);
        deliver(x, 0, "abc");
        due.is("take(0)", x.take(0), -100);
        due.is("take(1)", x.take(1), 3);
        due.is("take(1)", x.take(1), -100);
        textIs(x, 1, "abc");
    }

    private static void textsWithoutHeader() {
        due.about("promise 10, texts without header");
        SeptetCentre x = Steps.ready();
        deliver(x, 0, "one [two] {three} ~");
        deliver(x, 2, "next");
        due.is("waiting(1)", x.waiting(1), 2);
        due.is("take(1)", x.take(1), 19);
        textIs(x, 1, "one [two] {three} ~");
        due.is("sender(1)", x.sender(1), 1001);
        due.is("waiting(1)", x.waiting(1), 1);
        due.is("take(1)", x.take(1), 4);
        textIs(x, 1, "next");
        due.is("sender(1)", x.sender(1), 1003);
        due.is("other devices", x.text(0, 0), -2);
        due.is("other devices", x.sender(2), 0);
    }

    private static void emptyText() {
        due.about("promises 10, 16 and 17, the empty text");
        SeptetCentre x = Steps.ready();
        deliver(x, 0, "abc");
        deliver(x, 2, "");
        x.take(1);
        due.is("take(1)", x.take(1), 0);
        due.is("text(1, 0)", x.text(1, 0), -2);
        due.is("sender(1)", x.sender(1), 1003);
    }

    private static void partsInAnyOrder() {
        due.about("promise 10, parts in any order");
        int[][] orders = {{1, 2, 3}, {1, 3, 2}, {2, 1, 3}, {2, 3, 1}, {3, 1, 2}, {3, 2, 1}};
        for (int[] order : orders) {
            SeptetCentre x = Steps.ready();
            deliver(x, 2, "before");
            x.take(1);
            part(x, 0, 9, 3, order[0], -3);
            textIs(x, 1, "before");
            due.is("sender(1)", x.sender(1), 1003);
            part(x, 0, 9, 3, order[1], -2);
            textIs(x, 1, "before");
            part(x, 0, 9, 3, order[2], 3);
            textIs(x, 1, "bcd");
            due.is("sender(1)", x.sender(1), 1001);
        }
        SeptetCentre x = Steps.ready();
        String text = "x".repeat(153) + "y".repeat(20);
        deliver(x, 0, text);
        due.is("swap(1)", x.swap(1), true);
        due.is("take(1)", x.take(1), -2);
        due.is("take(1)", x.take(1), 173);
        textIs(x, 1, text);
    }

    private static void partTwice() {
        due.about("promise 10, a part that is there already");
        SeptetCentre x = Steps.ready();
        part(x, 0, 9, 3, 2, -3);
        deliverPart(x, 0, 9, 3, 2, 'z');
        due.is("take(1)", x.take(1), -3);
        part(x, 0, 9, 3, 1, -2);
        part(x, 0, 9, 3, 1, -2);
        part(x, 0, 9, 3, 2, -2);
        part(x, 0, 9, 3, 3, 3);
        textIs(x, 1, "bcd");
    }

    private static void copyAfterTheWhole() {
        due.about("promise 10, the pile is gone");
        SeptetCentre x = Steps.ready();
        part(x, 0, 9, 2, 1, -2);
        part(x, 0, 9, 2, 2, 2);
        part(x, 0, 9, 2, 2, -2);
        textIs(x, 1, "bc");
        part(x, 0, 9, 2, 2, -2);
        part(x, 0, 9, 2, 1, 2);
    }

    private static void pilesBySender() {
        due.about("promise 10, piles by sender");
        SeptetCentre x = Steps.ready();
        part(x, 0, 9, 2, 1, -2);
        part(x, 2, 9, 2, 2, -2);
        part(x, 2, 9, 2, 1, 2);
        due.is("sender(1)", x.sender(1), 1003);
        part(x, 0, 9, 2, 2, 2);
        due.is("sender(1)", x.sender(1), 1001);
        // The sender is the number: another device with it goes on with the pile.
        part(x, 0, 9, 2, 1, -2);
        x.register(3, 1001);
        part(x, 3, 9, 2, 2, 2);
        x.register(0, 4321);
        part(x, 3, 9, 2, 2, -2);
        part(x, 0, 9, 2, 1, -2);
    }

    private static void pilesByReference() {
        due.about("promise 10, piles by reference");
        SeptetCentre x = Steps.ready();
        part(x, 0, 0, 2, 1, -2);
        part(x, 0, 255, 2, 2, -2);
        part(x, 0, 0, 2, 2, 2);
        part(x, 0, 255, 2, 1, 2);
    }

    private static void pilesByParts() {
        due.about("promise 10, piles by number of parts");
        SeptetCentre x = Steps.ready();
        part(x, 0, 9, 2, 1, -2);
        part(x, 0, 9, 3, 2, -3);
        part(x, 0, 9, 2, 2, 2);
        part(x, 0, 9, 3, 1, -2);
        part(x, 0, 9, 3, 3, 3);
    }

    private static void fourthPile() {
        due.about("promise 10, a fourth pile");
        SeptetCentre x = Steps.ready();
        part(x, 0, 1, 2, 1, -2);
        part(x, 0, 2, 2, 1, -2);
        part(x, 0, 3, 2, 1, -2);
        part(x, 0, 4, 2, 1, -2);
        part(x, 0, 2, 2, 2, 2);
        part(x, 0, 3, 2, 2, 2);
        part(x, 0, 4, 2, 2, 2);
        part(x, 0, 1, 2, 2, -2);
    }

    private static void pileBegunIsOldNotUsed() {
        due.about("promise 10, the oldest is the one begun first");
        SeptetCentre x = Steps.ready();
        part(x, 0, 1, 3, 1, -3);
        part(x, 0, 2, 3, 1, -3);
        part(x, 0, 3, 3, 1, -3);
        part(x, 0, 1, 3, 2, -2);
        part(x, 0, 4, 3, 1, -3);
        part(x, 0, 1, 3, 3, -3);
        part(x, 0, 3, 3, 2, -2);
        part(x, 0, 2, 3, 2, -3);
        // Now 4, 1 and 2 were begun in this order, with 3 thrown away for 2.
        part(x, 0, 4, 3, 2, -2);
        part(x, 0, 4, 3, 3, 3);
        part(x, 0, 5, 3, 1, -3);
        part(x, 0, 1, 3, 1, -2);
    }

    private static void onePartNeedsAPileToo() {
        due.about("promise 10, a pile of one part");
        SeptetCentre x = Steps.ready();
        part(x, 0, 1, 1, 1, 1);
        textIs(x, 1, "b");
        part(x, 0, 1, 2, 1, -2);
        part(x, 0, 2, 2, 1, -2);
        part(x, 0, 3, 1, 1, 1);
        part(x, 0, 1, 2, 2, 2);
        part(x, 0, 1, 2, 1, -2);
        part(x, 0, 3, 2, 1, -2);
        // Three piles are there, begun in the order 2, 1, 3: the one part is a fourth.
        part(x, 0, 4, 1, 1, 1);
        part(x, 0, 1, 2, 2, 2);
        part(x, 0, 3, 2, 2, 2);
        part(x, 0, 2, 2, 2, -2);
    }

    private static void joinedFromTwoTexts() {
        due.about("promise 10, the lengths of the parts are added");
        SeptetCentre x = Steps.ready();
        String text = "{".repeat(76) + "}".repeat(76) + "~".repeat(10);
        deliver(x, 0, text);
        due.is("take(1)", x.take(1), -3);
        due.is("take(1)", x.take(1), -2);
        due.is("take(1)", x.take(1), 162);
        textIs(x, 1, text);
        deliver(x, 0, "short");
        due.is("take(1)", x.take(1), 5);
        textIs(x, 1, "short");
    }

    private static void pilesOfEachDevice() {
        due.about("promise 10, each device has its own piles");
        SeptetCentre x = Steps.ready();
        Steps.type(x, 'a', 161);
        x.send(0, 1002, 0, false);
        x.receive();
        x.alter(5, (2 ^ 3) << 4);
        x.receive();
        x.advance(0);
        due.is("take(1)", x.take(1), -2);
        due.is("take(2)", x.take(2), -2);
        due.is("sender(1)", x.sender(1), 0);
    }

    private static void wholeTextsLeavePilesAlone() {
        due.about("promise 10, a text without header leaves the piles alone");
        SeptetCentre x = Steps.ready();
        part(x, 0, 1, 2, 2, -2);
        deliver(x, 0, "whole");
        due.is("take(1)", x.take(1), 5);
        part(x, 0, 1, 2, 1, 2);
        textIs(x, 1, "bc");
    }

    private static void copyEdges() {
        due.about("promise 11, edges");
        SeptetCentre x = Steps.ready();
        due.is("copy(-1)", x.copy(-1), false);
        due.is("copy(4)", x.copy(4), false);
        due.is("copy(most int)", x.copy(Integer.MAX_VALUE), false);
        due.is("empty", x.copy(1), false);
        deliver(x, 0, "a");
        for (int k = 2; k <= 6; k++) {
            due.is("copy(1)", x.copy(1), true);
            due.is("waiting(1)", x.waiting(1), k);
        }
        due.is("no room", x.copy(1), false);
        due.is("waiting(1)", x.waiting(1), 6);
        due.is("copy(0)", x.copy(0), false);
        x.take(1);
        due.is("room again", x.copy(1), true);
    }

    private static void copyIsTheSame() {
        due.about("promise 11, the copy comes at the end");
        SeptetCentre x = Steps.ready();
        deliver(x, 0, "first");
        deliver(x, 2, "second");
        String bytes = Steps.row(x, 1);
        due.is("copy(1)", x.copy(1), true);
        due.is("the first stays", Steps.row(x, 1).equals(bytes), true);
        due.is("take(1)", x.take(1), 5);
        due.is("take(1)", x.take(1), 6);
        due.is("the copy", Steps.row(x, 1).equals(bytes), true);
        due.is("take(1)", x.take(1), 5);
        textIs(x, 1, "first");
        due.is("sender(1)", x.sender(1), 1001);
        due.is("take(1)", x.take(1), -100);
    }

    private static void swapEdges() {
        due.about("promise 12, edges");
        SeptetCentre x = Steps.ready();
        due.is("swap(-1)", x.swap(-1), false);
        due.is("swap(4)", x.swap(4), false);
        due.is("swap(most int)", x.swap(Integer.MAX_VALUE), false);
        due.is("empty", x.swap(1), false);
        deliver(x, 0, "a");
        due.is("one", x.swap(1), false);
        deliver(x, 0, "bb");
        due.is("swap(0)", x.swap(0), false);
        due.is("two", x.swap(1), true);
        due.is("take(1)", x.take(1), 2);
        due.is("take(1)", x.take(1), 1);
    }

    private static void swapsTheFirstTwo() {
        due.about("promise 12, three in the inbox");
        SeptetCentre x = Steps.ready();
        deliver(x, 0, "1");
        deliver(x, 0, "22");
        deliver(x, 0, "333");
        due.is("swap(1)", x.swap(1), true);
        due.is("waiting(1)", x.waiting(1), 3);
        due.is("length of the first", x.byteAt(1, 14), 2);
        due.is("take(1)", x.take(1), 2);
        due.is("take(1)", x.take(1), 1);
        due.is("take(1)", x.take(1), 3);
    }

    private static void textAndSenderEdges() {
        due.about("promises 16 and 17, edges");
        SeptetCentre x = Steps.ready();
        deliver(x, 0, "abc");
        due.is("not taken yet", x.text(1, 0), -2);
        due.is("not taken yet", x.sender(1), 0);
        x.take(1);
        due.is("text(1, -1)", x.text(1, -1), -2);
        due.is("text(1, 0)", x.text(1, 0), 97);
        due.is("text(1, 2)", x.text(1, 2), 99);
        due.is("text(1, 3)", x.text(1, 3), -2);
        due.is("text(1, most int)", x.text(1, Integer.MAX_VALUE), -2);
        due.is("text(1, least int)", x.text(1, Integer.MIN_VALUE), -2);
        due.is("text(-1, 0)", x.text(-1, 0), -2);
        due.is("text(4, 0)", x.text(4, 0), -2);
        due.is("text(5, 0)", x.text(5, 0), -2);
        due.is("sender(-1)", x.sender(-1), 0);
        due.is("sender(4)", x.sender(4), 0);
        due.is("sender(most int)", x.sender(Integer.MAX_VALUE), 0);
        due.is("sender(1)", x.sender(1), 1001);
        x.register(0, 999999999999L);
        due.is("the number as it was", x.sender(1), 1001);
        deliver(x, 0, "abc");
        x.take(1);
        due.is("the greatest number", x.sender(1), 999999999999L);
    }

    private static void longestText() {
        due.about("promise 10, the longest text");
        SeptetCentre x = Steps.ready();
        String text = "a".repeat(153) + "b".repeat(153) + "c".repeat(153);
        deliver(x, 0, text);
        due.is("take(1)", x.take(1), -3);
        due.is("take(1)", x.take(1), -2);
        due.is("take(1)", x.take(1), 459);
        textIs(x, 1, text);
        x = Steps.ready();
        deliver(x, 0, "d".repeat(160));
        due.is("take(1)", x.take(1), 160);
        textIs(x, 1, "d".repeat(160));
    }
}
