import java.util.ArrayList;
import java.util.Arrays;
import java.util.List;

/**
 * The document once more, in the plainest words of Java, for ModelTest. It works by other means than the
 * program: bits are texts of 0 and 1, and a row is legal when what was read from it gives the same row again.
 */
final class PlainCentre {
    private static final String PLAIN = alphabet();
    private static final String SECOND = "\f^{}\\[~]|\u20ac";
    private static final List<Integer> SECOND_CODES = List.of(10, 20, 40, 41, 47, 60, 61, 62, 64, 101);

    private static final class Dev {
        long number;
        boolean on;
        final List<List<Integer>> inbox = new ArrayList<>();
        final List<List<Integer>> reports = new ArrayList<>();
        int messages;
        int references;
        String text = "";
        long sender;
        final List<String> piles = new ArrayList<>();
        final List<String[]> gathered = new ArrayList<>();
    }

    private static final class Msg {
        int device;
        long from;
        Read read;
        int accepted;
        int old;
        int next;
        int offers;
        int state;
    }

    /** What a SUBMIT says. */
    private static final class Read {
        boolean report;
        int number;
        long to;
        int validity;
        String text;
        int[] header;
    }

    private final Dev[] devices = {new Dev(), new Dev(), new Dev(), new Dev()};
    private final List<List<Integer>> uplink = new ArrayList<>();
    private final List<Integer> origins = new ArrayList<>();
    private final List<Msg> messages = new ArrayList<>();
    private String draft = "";
    private int now;

    private static String alphabet() {
        return "@\u00a3$\u00a5\u00e8\u00e9\u00f9\u00ec\u00f2\u00c7\n\u00d8\u00f8\r\u00c5\u00e5"
            + "\u0394_\u03a6\u0393\u039b\u03a9\u03a0\u03a8\u03a3\u0398\u039e\uffff\u00c6\u00e6\u00df\u00c9"
            + " !\"#\u00a4%&'()*+,-./0123456789:;<=>?\u00a1ABCDEFGHIJKLMNOPQRSTUVWXYZ\u00c4\u00d6\u00d1\u00dc\u00a7"
            + "\u00bfabcdefghijklmnopqrstuvwxyz\u00e4\u00f6\u00f1\u00fc\u00e0";
    }

    private static boolean inAlphabet(char c) {
        return c != '\uffff' && (PLAIN.indexOf(c) >= 0 || SECOND.indexOf(c) >= 0);
    }

    /** The septets of a text, each as seven bits, the lowest first. */
    private static String bits(String text) {
        StringBuilder bits = new StringBuilder();
        for (char c : text.toCharArray()) {
            if (PLAIN.indexOf(c) >= 0) {
                bits.append(bits(PLAIN.indexOf(c), 7));
            } else {
                bits.append(bits(27, 7)).append(bits(SECOND_CODES.get(SECOND.indexOf(c)), 7));
            }
        }
        return bits.toString();
    }

    private static String bits(int value, int count) {
        StringBuilder bits = new StringBuilder();
        for (int k = 0; k < count; k++) {
            bits.append(value >> k & 1);
        }
        return bits.toString();
    }

    private static int septets(String text) {
        int count = 0;
        for (char c : text.toCharArray()) {
            count += PLAIN.indexOf(c) >= 0 ? 1 : 2;
        }
        return count;
    }

    private static List<Integer> bytes(String bits) {
        List<Integer> bytes = new ArrayList<>();
        String padded = bits + "0".repeat((8 - bits.length() % 8) % 8);
        for (int k = 0; k < padded.length(); k += 8) {
            bytes.add(Integer.parseInt(new StringBuilder(padded.substring(k, k + 8)).reverse().toString(), 2));
        }
        return bytes;
    }

    private static List<Integer> digits(String digits) {
        List<Integer> bytes = new ArrayList<>();
        String padded = digits.length() % 2 == 0 ? digits : digits + "f";
        for (int k = 0; k < padded.length(); k += 2) {
            bytes.add(Integer.parseInt("" + padded.charAt(k + 1) + padded.charAt(k), 16));
        }
        return bytes;
    }

    private static List<Integer> address(long number) {
        String digits = Long.toString(number);
        List<Integer> bytes = new ArrayList<>(List.of(digits.length(), 145));
        bytes.addAll(digits(digits));
        return bytes;
    }

    private static List<Integer> time(int time) {
        return digits(String.format("%014d", time));
    }

    private static List<Integer> userData(int[] header, String text) {
        StringBuilder all = new StringBuilder();
        int length = septets(text);
        if (header != null) {
            for (int b : new int[] {5, 0, 3, header[0], header[1], header[2]}) {
                all.append(bits(b, 8));
            }
            all.append('0');
            length += 7;
        }
        all.append(bits(text));
        List<Integer> data = new ArrayList<>(List.of(length));
        data.addAll(bytes(all.toString()));
        return data;
    }

    private static List<Integer> submit(Read read) {
        List<Integer> row = new ArrayList<>();
        row.add(17 + (read.report ? 32 : 0) + (read.header == null ? 0 : 64));
        row.add(read.number);
        row.addAll(address(read.to));
        row.addAll(List.of(0, 0, read.validity));
        row.addAll(userData(read.header, read.text));
        return row;
    }

    /** Reads as well as it can; null when it can't, or when what was read does not give the row again. */
    private static Read read(List<Integer> row) {
        try {
            Read read = new Read();
            read.report = (row.get(0) & 32) != 0;
            read.number = row.get(1);
            int count = row.get(2);
            StringBuilder digits = new StringBuilder();
            int at = 4;
            for (; at < 4 + (count + 1) / 2; at++) {
                digits.append(Integer.toHexString(row.get(at) & 15)).append(Integer.toHexString(row.get(at) >> 4));
            }
            digits.setLength(count);
            read.to = Long.parseLong(digits.toString());
            read.validity = row.get(at + 2);
            int length = row.get(at + 3);
            StringBuilder bits = new StringBuilder();
            for (int b : row.subList(at + 4, row.size())) {
                bits.append(bits(b, 8));
            }
            int from = 0;
            if ((row.get(0) & 64) != 0) {
                read.header = new int[] {row.get(at + 7), row.get(at + 8), row.get(at + 9)};
                from = 49;
            }
            read.text = text(bits.substring(from, 7 * length));
            boolean inRange = isNumber(read.to) && read.validity <= 143 && length <= 160 && isPart(read.header);
            return inRange && submit(read).equals(row) ? read : null;
        } catch (RuntimeException notReadable) {
            return null;
        }
    }

    private static boolean isPart(int[] header) {
        return header == null || header[1] >= 1 && header[1] <= 3 && header[2] >= 1 && header[2] <= header[1];
    }

    private static String text(String bits) {
        StringBuilder text = new StringBuilder();
        for (int k = 0; k < bits.length(); k += 7) {
            int code = code(bits, k);
            if (code == 27) {
                k += 7;
                text.append(SECOND.charAt(SECOND_CODES.indexOf(code(bits, k))));
            } else {
                text.append(PLAIN.charAt(code));
            }
        }
        return text.toString();
    }

    private static int code(String bits, int at) {
        return Integer.parseInt(new StringBuilder(bits.substring(at, at + 7)).reverse().toString(), 2);
    }

    private static boolean isDevice(int d) {
        return d >= 0 && d <= 3;
    }

    private static boolean isNumber(long number) {
        return number > 0 && Long.toString(number).length() <= 12;
    }

    boolean register(int d, long number) {
        if (!isDevice(d) || !isNumber(number)) {
            return false;
        }
        devices[d].number = number;
        return true;
    }

    boolean power(int d, boolean on) {
        if (!isDevice(d)) {
            return false;
        }
        devices[d].on = on;
        return true;
    }

    boolean type(char c, int n) {
        if (n < 1 || n > 160 || draft.length() + n > 480) {
            return false;
        }
        draft += String.valueOf(c).repeat(n);
        return true;
    }

    void wipe() {
        draft = "";
    }

    private static List<String> cut(String text) {
        List<String> parts = new ArrayList<>();
        if (septets(text) <= 160) {
            parts.add(text);
            return parts;
        }
        String rest = text;
        while (!rest.isEmpty()) {
            int end = rest.length();
            while (septets(rest.substring(0, end)) > 153) {
                end--;
            }
            parts.add(rest.substring(0, end));
            rest = rest.substring(end);
        }
        return parts;
    }

    int send(int d, long to, int validity, boolean report) {
        if (!isDevice(d) || !isNumber(to) || validity < 0 || validity > 143 || devices[d].number == 0) {
            return -1;
        }
        for (char c : draft.toCharArray()) {
            if (!inAlphabet(c)) {
                return -4;
            }
        }
        List<String> parts = cut(draft);
        if (parts.size() > 3) {
            return -5;
        }
        if (uplink.size() + parts.size() > 8) {
            return -3;
        }
        Dev device = devices[d];
        for (int k = 0; k < parts.size(); k++) {
            Read read = new Read();
            read.report = report;
            read.number = device.messages;
            read.to = to;
            read.validity = validity;
            read.text = parts.get(k);
            read.header = parts.size() == 1 ? null : new int[] {device.references, parts.size(), k + 1};
            uplink.add(submit(read));
            origins.add(d);
            device.messages = device.messages == 255 ? 0 : device.messages + 1;
        }
        if (parts.size() > 1) {
            device.references = device.references == 255 ? 0 : device.references + 1;
        }
        return parts.size();
    }

    boolean alter(int i, int x) {
        if (uplink.isEmpty() || i < 0 || i >= uplink.get(0).size() || x < 1 || x > 255) {
            return false;
        }
        uplink.get(0).set(i, uplink.get(0).get(i) ^ x);
        return true;
    }

    int receive() {
        if (uplink.isEmpty()) {
            return -2;
        }
        if (messages.stream().filter(m -> m.state == 0).count() == 12 || messages.size() == 100) {
            return -3;
        }
        Read read = read(uplink.remove(0));
        int device = origins.remove(0);
        if (read == null) {
            return -6;
        }
        Msg message = new Msg();
        message.device = device;
        message.from = devices[device].number;
        message.read = read;
        message.accepted = now;
        message.next = now;
        message.old = now + 5 * (read.validity + 1);
        messages.add(message);
        return messages.size() - 1;
    }

    int advance(int by) {
        if (by < 0 || by > 100000) {
            return -1;
        }
        int settled = 0;
        while (true) {
            Msg first = null;
            for (Msg m : messages) {
                if (m.state == 0 && (first == null || Math.min(m.next, m.old) < Math.min(first.next, first.old))) {
                    first = m;
                }
            }
            if (first == null || Math.min(first.next, first.old) > now + by) {
                now += by;
                return settled;
            }
            settled += deal(first) ? 1 : 0;
        }
    }

    private boolean deal(Msg m) {
        int moment = Math.min(m.next, m.old);
        if (m.old <= m.next) {
            m.state = 2;
        } else {
            m.offers++;
            offer(m, moment);
        }
        if (m.state == 0) {
            return false;
        }
        List<List<Integer>> line = devices[m.device].reports;
        if (m.read.report && line.size() < 6) {
            List<Integer> row = new ArrayList<>(List.of(2, m.read.number));
            row.addAll(address(m.read.to));
            row.addAll(time(m.accepted));
            row.addAll(time(moment));
            row.add(m.state == 1 ? 0 : m.state == 2 ? 70 : 73);
            line.add(row);
        }
        return true;
    }

    private void offer(Msg m, int moment) {
        Dev device = Arrays.stream(devices).filter(x -> x.number == m.read.to).findFirst().orElse(null);
        if (device == null) {
            m.state = 3;
        } else if (device.on && device.inbox.size() < 6) {
            List<Integer> row = new ArrayList<>(List.of(m.read.header == null ? 4 : 68));
            row.addAll(address(m.from));
            row.addAll(List.of(0, 0));
            row.addAll(time(m.accepted));
            row.addAll(userData(m.read.header, m.read.text));
            device.inbox.add(row);
            m.state = 1;
        } else {
            m.next = moment + new int[] {1, 4, 16}[Math.min(m.offers, 3) - 1];
        }
    }

    int take(int d) {
        if (!isDevice(d)) {
            return -1;
        }
        Dev device = devices[d];
        if (device.inbox.isEmpty()) {
            return -100;
        }
        // A DELIVER is read as the SUBMIT with the sender for a receiver.
        List<Integer> row = device.inbox.remove(0);
        int addressEnd = 3 + (row.get(1) + 1) / 2;
        List<Integer> asSubmit = new ArrayList<>(List.of(row.get(0) + 13, 0));
        asSubmit.addAll(row.subList(1, addressEnd));
        asSubmit.addAll(List.of(0, 0, 0));
        asSubmit.addAll(row.subList(addressEnd + 9, row.size()));
        Read read = read(asSubmit);
        if (read.header == null) {
            device.text = read.text;
            device.sender = read.to;
            return device.text.length();
        }
        return gather(device, read);
    }

    private int gather(Dev device, Read read) {
        String key = read.to + "/" + read.header[0] + "/" + read.header[1];
        if (!device.piles.contains(key)) {
            if (device.piles.size() == 3) {
                device.piles.remove(0);
                device.gathered.remove(0);
            }
            device.piles.add(key);
            device.gathered.add(new String[read.header[1]]);
        }
        int place = device.piles.indexOf(key);
        String[] parts = device.gathered.get(place);
        if (parts[read.header[2] - 1] == null) {
            parts[read.header[2] - 1] = read.text;
        }
        int lacking = (int) Arrays.stream(parts).filter(p -> p == null).count();
        if (lacking > 0) {
            return -1 - lacking;
        }
        device.piles.remove(place);
        device.gathered.remove(place);
        device.text = String.join("", parts);
        device.sender = read.to;
        return device.text.length();
    }

    boolean copy(int d) {
        if (!isDevice(d) || devices[d].inbox.isEmpty() || devices[d].inbox.size() == 6) {
            return false;
        }
        devices[d].inbox.add(new ArrayList<>(devices[d].inbox.get(0)));
        return true;
    }

    boolean swap(int d) {
        if (!isDevice(d) || devices[d].inbox.size() < 2) {
            return false;
        }
        devices[d].inbox.add(1, devices[d].inbox.remove(0));
        return true;
    }

    int report(int d) {
        if (!isDevice(d)) {
            return -1;
        }
        if (devices[d].reports.isEmpty()) {
            return -2;
        }
        List<Integer> row = devices[d].reports.remove(0);
        return 256 * row.get(row.size() - 1) + row.get(1);
    }

    private List<List<Integer>> line(int d) {
        if (d == -1) {
            return uplink;
        }
        if (isDevice(d)) {
            return devices[d].inbox;
        }
        return d > 3 && d < 8 ? devices[d - 4].reports : null;
    }

    int waiting(int d) {
        return line(d) == null ? -1 : line(d).size();
    }

    int byteAt(int d, int i) {
        List<List<Integer>> line = line(d);
        return line == null || line.isEmpty() || i < 0 || i >= line.get(0).size() ? -2 : line.get(0).get(i);
    }

    int text(int d, int i) {
        return !isDevice(d) || i < 0 || i >= devices[d].text.length() ? -2 : devices[d].text.charAt(i);
    }

    long sender(int d) {
        return isDevice(d) ? devices[d].sender : 0;
    }

    int state(int m) {
        return m < 0 || m >= messages.size() ? -2 : messages.get(m).state;
    }

    int offers(int m) {
        return m < 0 || m >= messages.size() ? -2 : messages.get(m).offers;
    }

    int time() {
        return now;
    }
}
