/** Runs of calls that several tests need. */
final class Steps {
    private Steps() {
    }

    /** A centre whose devices 0 .. 3 have the numbers 1001 .. 1004 and are on. */
    static SeptetCentre ready() {
        SeptetCentre x = new SeptetCentre();
        for (int d = 0; d < 4; d++) {
            x.register(d, 1001 + d);
            x.power(d, true);
        }
        return x;
    }

    static void type(SeptetCentre x, String text) {
        for (int i = 0; i < text.length(); i++) {
            x.type(text.charAt(i), 1);
        }
    }

    /** Types the character n times, n up to 480. */
    static void type(SeptetCentre x, char c, int n) {
        for (int left = n; left > 0; left -= 160) {
            x.type(c, Math.min(left, 160));
        }
    }

    static void draft(SeptetCentre x, String text) {
        x.wipe();
        type(x, text);
    }

    /** Sets byte i of the first row of the uplink. */
    static void set(SeptetCentre x, int i, int value) {
        int change = x.byteAt(-1, i) ^ value;
        if (change != 0) {
            x.alter(i, change);
        }
    }

    /** All bytes of the first row that d means in waiting. */
    static String row(SeptetCentre x, int d) {
        StringBuilder all = new StringBuilder();
        for (int i = 0; x.byteAt(d, i) != SeptetCentre.NONE; i++) {
            all.append(i == 0 ? "" : " ").append(x.byteAt(d, i));
        }
        return all.toString();
    }

    /** The text that device d put together last. */
    static String text(SeptetCentre x, int d) {
        StringBuilder all = new StringBuilder();
        for (int i = 0; x.text(d, i) != SeptetCentre.NONE; i++) {
            all.append((char) x.text(d, i));
        }
        return all.toString();
    }

    static int receiveAll(SeptetCentre x) {
        int taken = 0;
        while (x.waiting(-1) > 0 && x.receive() >= 0) {
            taken++;
        }
        return taken;
    }
}
