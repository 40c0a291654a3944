/**
 * All that can be seen of an object from outside, in several views. A view uses its object up, and with the
 * calls that made the object it stays within the document's 512.
 */
final class Portrait {
    static final int VIEWS = 8;
    private static final int SHOWN_MESSAGES = 20;

    private final SeptetCentre x;
    /** The numbers that the devices were given, by device. */
    private final long[] numbers;
    private final StringBuilder seen = new StringBuilder();

    private Portrait(SeptetCentre x, long[] numbers) {
        this.x = x;
        this.numbers = numbers;
    }

    static String view(int view, SeptetCentre x, long[] numbers) {
        Portrait portrait = new Portrait(x, numbers);
        switch (view) {
            case 0 -> portrait.lines();
            case 1 -> portrait.uplink();
            case 2 -> portrait.inboxes();
            case 3 -> portrait.reports();
            case 4 -> portrait.schedule();
            case 5 -> portrait.moments();
            case 6 -> portrait.draftAndCounts();
            default -> portrait.devicesAndPiles();
        }
        return portrait.seen.toString();
    }

    private void see(String name, Object value) {
        seen.append(name).append(' ').append(value).append('\n');
    }

    private void lines() {
        for (int d = -1; d < 8; d++) {
            see("waiting " + d, x.waiting(d));
            see("first of " + d, Steps.row(x, d, d == -1 ? 160 : 30));
        }
    }

    private int receive() {
        int answer = x.receive();
        if (answer != SeptetCentre.FULL) {
            return answer;
        }
        x.advance(1000);
        return x.receive();
    }

    private void uplink() {
        for (int k = 0; k < 8 && x.waiting(-1) > 0; k++) {
            see("row", Steps.row(x, -1, 24));
            see("receive", receive());
        }
    }

    private void inboxes() {
        for (int d = 0; d < 4; d++) {
            see("text of " + d, Steps.text(x, d));
            see("sender of " + d, x.sender(d));
            while (x.waiting(d) > 0) {
                see("DELIVER", Steps.row(x, d, 30));
                see("take", x.take(d));
                see("text", Steps.text(x, d));
                see("sender", x.sender(d));
            }
        }
    }

    private void reports() {
        for (int d = 0; d < 4; d++) {
            while (x.waiting(4 + d) > 0) {
                see("REPORT", Steps.row(x, 4 + d, 24));
                see("report of " + d, x.report(d));
            }
        }
    }

    private int messages() {
        int count = 0;
        while (x.state(count) != SeptetCentre.NONE) {
            count++;
        }
        return count;
    }

    /** What is still to come tells when messages are too old, and which devices are on. */
    private void schedule() {
        int count = messages();
        see("messages", count);
        for (int by : new int[] {0, 1, 4, 16, 1000}) {
            for (int m = Math.max(0, count - SHOWN_MESSAGES); m < count; m++) {
                see("message " + m, x.state(m) + ", offered " + x.offers(m));
            }
            see("time", x.time());
            see("advance", x.advance(by));
        }
        for (int d = 0; d < 8; d++) {
            see("waiting " + d, x.waiting(d));
        }
    }

    private void takeAll() {
        for (int d = 0; d < 4; d++) {
            while (x.waiting(d) > 0) {
                see("take", x.take(d));
            }
        }
    }

    /** When all devices are on and have room, each message is taken just when its next offer is due. */
    private void moments() {
        takeAll();
        for (int d = 0; d < 4; d++) {
            x.power(d, true);
        }
        for (int k = 0; k < 30; k++) {
            see("settled", x.advance(k == 0 ? 0 : 1));
            if (k % 6 == 5) {
                takeAll();
            }
        }
        for (int m = Math.max(0, messages() - SHOWN_MESSAGES); x.state(m) != SeptetCentre.NONE; m++) {
            see("message " + m, x.state(m) + ", offered " + x.offers(m));
        }
    }

    private void emptyUplink() {
        for (int k = 0; k < 8 && receive() != SeptetCentre.NONE; k++) {
            continue;
        }
    }

    private void draftAndCounts() {
        emptyUplink();
        sendFromEach(1);
        for (int n : new int[] {1, 2, 4, 8, 16, 32, 64, 128, 160, 64, 32, 16, 8, 4, 2, 1}) {
            see("type " + n, x.type('a', n));
        }
        x.wipe();
        x.type('a', 160);
        x.type('a', 1);
        sendFromEach(2);
    }

    private void sendFromEach(int rows) {
        for (int d = 0; d < 4; d++) {
            see("send from " + d, x.send(d, 5, 0, true));
            see("SUBMIT", Steps.row(x, -1, 24));
            for (int k = 0; k < rows; k++) {
                // What is not legal does not become a message that others would have to wait for.
                x.alter(0, 1);
                x.receive();
            }
        }
    }

    private void devicesAndPiles() {
        emptyUplink();
        takeAll();
        for (int d = 0; d < 4; d++) {
            x.wipe();
            comes(x.send(d, numbers[d], 0, false), d);
        }
        int[][] headers = {{0, 1, 2, 2}, {1, 2, 3, 1}, {1, 2, 3, 2}, {0, 3, 2, 2}};
        for (int[] header : headers) {
            Steps.sendPart(x, header[0], numbers[2], new int[] {header[1], header[2], header[3]}, "xy");
            comes(1, 2);
        }
    }

    /** Sees what becomes of what was sent up to device d. */
    private void comes(int parts, int d) {
        see("parts", parts);
        see("receive", x.receive());
        see("advance", x.advance(0));
        see("DELIVER", Steps.row(x, d, 12));
        see("take", x.take(d));
        see("text", Steps.text(x, d));
        see("sender", x.sender(d));
    }
}
