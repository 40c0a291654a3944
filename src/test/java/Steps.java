/** Runs of calls that several tests need. */
final class Steps {
    private Steps() {
    }

    /** A centre whose devices 0 .. 3 have the numbers 1001 .. 1004 and are on. */
    static SeptetCentre ready() {
        SeptetCentre x = new SeptetCentre();
        for (int d = 0; d < 4; d++) {
            x.register(d, 1001 + d);
            x.power(d, true);
        }
        return x;
    }

    static void type(SeptetCentre x, String text) {
        for (int i = 0; i < text.length(); i++) {
            x.type(text.charAt(i), 1);
        }
    }

    /** Types the character n times, n up to 480. */
    static void type(SeptetCentre x, char c, int n) {
        for (int left = n; left > 0; left -= 160) {
            x.type(c, Math.min(left, 160));
        }
    }

    static void draft(SeptetCentre x, String text) {
        x.wipe();
        type(x, text);
    }

    /** Sets byte i of the first row of the uplink. */
    static void set(SeptetCentre x, int i, int value) {
        int change = x.byteAt(-1, i) ^ value;
        if (change != 0) {
            x.alter(i, change);
        }
    }

    /** Where the length stands in a SUBMIT to this number. */
    static int lengthAt(long to) {
        return 7 + (Long.toString(to).length() + 1) / 2;
    }

    /**
     * Device d sends a part of its own make up into the empty uplink: seven septets of 0 at the front of a
     * text take just the bits of a header, which is then written over them.
     */
    static void sendPart(SeptetCentre x, int d, long to, int[] header, String text) {
        x.wipe();
        x.type('@', 7);
        type(x, text);
        x.send(d, to, 0, false);
        x.alter(0, 64);
        int data = lengthAt(to) + 1;
        int[] bytes = {5, 0, 3, header[0], header[1], header[2]};
        for (int k = 0; k < bytes.length; k++) {
            if (bytes[k] != 0) {
                x.alter(data + k, bytes[k]);
            }
        }
    }

    /** All bytes of the first row that d means in waiting. */
    static String row(SeptetCentre x, int d) {
        return row(x, d, Integer.MAX_VALUE);
    }

    /** The first bytes of that row, at most so many. */
    static String row(SeptetCentre x, int d, int most) {
        StringBuilder all = new StringBuilder();
        for (int i = 0; i < most; i++) {
            int value = x.byteAt(d, i);
            if (value == SeptetCentre.NONE) {
                break;
            }
            all.append(i == 0 ? "" : " ").append(value);
        }
        return all.toString();
    }

    /** The text that device d put together last. */
    static String text(SeptetCentre x, int d) {
        StringBuilder all = new StringBuilder();
        for (int c = x.text(d, 0); c != SeptetCentre.NONE; c = x.text(d, all.length())) {
            all.append((char) c);
        }
        return all.toString();
    }

    static int receiveAll(SeptetCentre x) {
        int taken = 0;
        while (x.waiting(-1) > 0 && x.receive() >= 0) {
            taken++;
        }
        return taken;
    }
}
