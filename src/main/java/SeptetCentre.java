import java.util.ArrayList;

/**
 * A centre for short messages: texts in an alphabet of seven bits are packed, cut into parts, sent up
 * as bytes, read strictly, stored, offered by a schedule, reported on and put together again.
 */
public final class SeptetCentre {
    public static final int BAD = -1;
    public static final int NONE = -2;
    public static final int FULL = -3;
    public static final int ALIEN = -4;
    public static final int LONG = -5;
    public static final int ILLEGAL = -6;

    private static final int EMPTY_INBOX = -100;
    private static final int DEVICES = 4;
    private static final int UPLINK_ROOM = 8;
    private static final int MOST_PARTS = 3;
    private static final int MOST_VALIDITY = 143;
    private static final int MOST_TYPED = 160;
    private static final int MOST_WAITING = 12;
    private static final int MOST_MESSAGES = 100;
    private static final int MOST_ADVANCE = 100000;
    /** Twelve messages with some fifty moments each are the most that one advance can meet. */
    private static final int MOST_DEALINGS = 1000000;

    private final Device[] devices = new Device[DEVICES];
    private final Line uplink = new Line(UPLINK_ROOM);
    private final Draft draft = new Draft();
    private final ArrayList<Message> messages = new ArrayList<>();
    /** The messages that wait, by number: the first of several with one moment has the least. */
    private final ArrayList<Message> pending = new ArrayList<>();
    private int now;

    public SeptetCentre() {
        for (int d = 0; d < DEVICES; d++) {
            devices[d] = new Device();
        }
    }

    public boolean register(int d, long number) {
        Device device = deviceOf(d);
        if (device == null || !isNumber(number)) {
            return false;
        }
        device.number = number;
        return true;
    }

    public boolean power(int d, boolean on) {
        Device device = deviceOf(d);
        if (device == null) {
            return false;
        }
        device.on = on;
        return true;
    }

    public boolean type(char c, int n) {
        if (n < 1 || n > MOST_TYPED || n > draft.room()) {
            return false;
        }
        draft.append(Alphabet.formOf(c), n);
        return true;
    }

    public void wipe() {
        draft.length = 0;
    }

    public int send(int d, long to, int validity, boolean report) {
        Device device = deviceOf(d);
        if (device == null || !isNumber(to) || validity < 0 || validity > MOST_VALIDITY || device.number == 0) {
            return BAD;
        }
        if (draft.hasAlien()) {
            return ALIEN;
        }
        int parts = draft.partCount();
        if (parts > MOST_PARTS) {
            return LONG;
        }
        if (parts > uplink.room()) {
            return FULL;
        }
        int kind = Row.SUBMIT + (report ? Row.REPORT_WANTED : 0) + (parts > 1 ? Row.HEADER : 0);
        sendUp(device, to, validity, kind, parts);
        return parts;
    }

    public boolean alter(int i, int x) {
        Row row = uplink.first();
        if (row == null || !row.has(i) || x < 1 || x > 255) {
            return false;
        }
        row.flip(i, x);
        return true;
    }

    public int receive() {
        Row row = uplink.first();
        if (row == null) {
            return NONE;
        }
        if (pending.size() >= MOST_WAITING || messages.size() >= MOST_MESSAGES) {
            return FULL;
        }
        uplink.removeFirst();
        Device origin = row.origin;
        if (origin == null || !SubmitRules.areKept(row)) {
            return ILLEGAL;
        }
        Message message = new Message(row, origin, now);
        messages.add(message);
        pending.add(message);
        return messages.size() - 1;
    }

    public int advance(int by) {
        if (by < 0 || by > MOST_ADVANCE) {
            return BAD;
        }
        int until = now + by;
        int settled = 0;
        for (int dealing = 0; dealing < MOST_DEALINGS; dealing++) {
            int place = earliestPlace();
            if (place < 0 || pending.get(place).moment() > until) {
                break;
            }
            Message message = pending.get(place);
            int moment = message.moment();
            dealWith(message, moment);
            if (message.fate != Fate.WAITS) {
                pending.remove(place);
                message.fileReport(moment);
                settled++;
            }
        }
        now = until;
        return settled;
    }

    public int take(int d) {
        Device device = deviceOf(d);
        if (device == null) {
            return BAD;
        }
        Row row = device.inbox.removeFirst();
        return row == null ? EMPTY_INBOX : device.read(row);
    }

    public boolean copy(int d) {
        Device device = deviceOf(d);
        if (device == null) {
            return false;
        }
        Row row = device.inbox.first();
        if (row == null || device.inbox.room() == 0) {
            return false;
        }
        device.inbox.append(row);
        return true;
    }

    public boolean swap(int d) {
        Device device = deviceOf(d);
        return device != null && device.inbox.exchangeFirstTwo();
    }

    public int report(int d) {
        Device device = deviceOf(d);
        if (device == null) {
            return BAD;
        }
        Row row = device.reports.removeFirst();
        return row == null ? NONE : 256 * row.at(row.size() - 1) + row.at(1);
    }

    public int waiting(int d) {
        Line line = lineOf(d);
        return line == null ? BAD : line.size();
    }

    public int byteAt(int d, int i) {
        Line line = lineOf(d);
        if (line == null) {
            return NONE;
        }
        Row row = line.first();
        return row == null || !row.has(i) ? NONE : row.at(i);
    }

    public int text(int d, int i) {
        Device device = deviceOf(d);
        return device == null || i < 0 || i >= device.lastLength ? NONE : device.lastText[i];
    }

    public long sender(int d) {
        Device device = deviceOf(d);
        return device == null ? 0 : device.lastSender;
    }

    public int state(int m) {
        return m < 0 || m >= messages.size() ? NONE : messages.get(m).fate.answer;
    }

    public int offers(int m) {
        return m < 0 || m >= messages.size() ? NONE : messages.get(m).offered;
    }

    public int time() {
        return now;
    }

    private static boolean isNumber(long number) {
        return number >= 1 && number <= 999999999999L;
    }

    private Device deviceOf(int d) {
        return d < 0 || d >= DEVICES ? null : devices[d];
    }

    /** The line that waiting and byteAt mean by d, or null. */
    private Line lineOf(int d) {
        if (d == -1) {
            return uplink;
        }
        if (d >= DEVICES) {
            Device device = deviceOf(d - DEVICES);
            return device == null ? null : device.reports;
        }
        Device device = deviceOf(d);
        return device == null ? null : device.inbox;
    }

    private void sendUp(Device device, long to, int validity, int kind, int parts) {
        int from = 0;
        for (int part = 1; part <= parts; part++) {
            int end = parts == 1 ? draft.length : draft.partEnd(from);
            int length = draft.septets(from, end) + (parts == 1 ? 0 : Row.HEADER_SEPTETS);
            Row row = new Row(Row.submitSize(to, length), device);
            row.putSubmitHead(kind, device.nextMessageNumber(), to, validity);
            row.put(length);
            if (parts > 1) {
                row.putHeader(device.references, parts, part);
            }
            draft.pack(from, end, row);
            uplink.append(row);
            from = end;
        }
        if (parts > 1) {
            device.countReference();
        }
    }

    /** Where in pending the message with the earliest moment stands, or -1. */
    private int earliestPlace() {
        int place = -1;
        for (int k = 0; k < pending.size(); k++) {
            if (place < 0 || pending.get(k).moment() < pending.get(place).moment()) {
                place = k;
            }
        }
        return place;
    }

    private void dealWith(Message message, int moment) {
        if (moment == message.tooOld) {
            message.fate = Fate.TOO_OLD;
            return;
        }
        message.offered++;
        Device device = holderOf(message.to);
        if (device == null) {
            message.fate = Fate.UNKNOWN;
        } else if (device.on && device.inbox.room() > 0) {
            device.inbox.append(message.asDeliver());
            message.fate = Fate.TAKEN;
        } else {
            message.putOff(moment);
        }
    }

    private Device holderOf(long number) {
        for (int d = 0; d < DEVICES; d++) {
            if (devices[d].number == number) {
                return devices[d];
            }
        }
        return null;
    }

    /** What has become of a message, with the answer of state and the last byte of a REPORT. */
    private enum Fate {
        WAITS(0, 0),
        TAKEN(1, 0),
        TOO_OLD(2, 70),
        UNKNOWN(3, 73);

        final int answer;
        final int reported;

        Fate(int answer, int reported) {
            this.answer = answer;
            this.reported = reported;
        }
    }

    /**
     * The alphabet of seven bits. The FORM of a character is its code, or ESCAPED plus its second code,
     * or NO_FORM when it is not in the alphabet.
     */
    private static final class Alphabet {
        static final int ESCAPE = 27;
        static final int ESCAPED = 128;
        static final int NO_FORM = -1;

        private static final int[] CHARACTERS = {
            64, 163, 36, 165, 232, 233, 249, 236, 242, 199, 10, 216, 248, 13, 197, 229,
            916, 95, 934, 915, 923, 937, 928, 936, 931, 920, 926, -1, 198, 230, 223, 201,
            32, 33, 34, 35, 164, 37, 38, 39, 40, 41, 42, 43, 44, 45, 46, 47,
            48, 49, 50, 51, 52, 53, 54, 55, 56, 57, 58, 59, 60, 61, 62, 63,
            161, 65, 66, 67, 68, 69, 70, 71, 72, 73, 74, 75, 76, 77, 78, 79,
            80, 81, 82, 83, 84, 85, 86, 87, 88, 89, 90, 196, 214, 209, 220, 167,
            191, 97, 98, 99, 100, 101, 102, 103, 104, 105, 106, 107, 108, 109, 110, 111,
            112, 113, 114, 115, 116, 117, 118, 119, 120, 121, 122, 228, 246, 241, 252, 224,
        };
        private static final int[] SECOND_CODES = {10, 20, 40, 41, 47, 60, 61, 62, 64, 101};
        private static final int[] SECOND_CHARACTERS = {12, 94, 123, 125, 92, 91, 126, 93, 124, 8364};

        static int formOf(char c) {
            for (int code = 0; code < CHARACTERS.length; code++) {
                if (CHARACTERS[code] == c) {
                    return code;
                }
            }
            for (int k = 0; k < SECOND_CODES.length; k++) {
                if (SECOND_CHARACTERS[k] == c) {
                    return ESCAPED + SECOND_CODES[k];
                }
            }
            return NO_FORM;
        }

        static int septetsOf(int form) {
            return form >= ESCAPED ? 2 : 1;
        }

        /** The character of a code, or -1. */
        static int plain(int code) {
            return code < 0 || code >= CHARACTERS.length ? -1 : CHARACTERS[code];
        }

        /** The character of a code behind an ESCAPE, or -1. */
        static int second(int code) {
            for (int k = 0; k < SECOND_CODES.length; k++) {
                if (SECOND_CODES[k] == code) {
                    return SECOND_CHARACTERS[k];
                }
            }
            return -1;
        }
    }

    /** The draft text, kept as the forms of its characters, so that each is looked up once when typed. */
    private static final class Draft {
        private static final int MOST_CHARACTERS = 480;
        private static final int MOST_ALONE = 160;
        private static final int MOST_IN_PART = 153;

        final int[] forms = new int[MOST_CHARACTERS];
        int length;

        int room() {
            return MOST_CHARACTERS - length;
        }

        void append(int form, int n) {
            for (int k = 0; k < n && length < MOST_CHARACTERS; k++) {
                forms[length] = form;
                length++;
            }
        }

        boolean hasAlien() {
            for (int k = 0; k < length; k++) {
                if (forms[k] == Alphabet.NO_FORM) {
                    return true;
                }
            }
            return false;
        }

        int septets(int from, int end) {
            int sum = 0;
            for (int k = from; k < end; k++) {
                sum += Alphabet.septetsOf(forms[k]);
            }
            return sum;
        }

        int partCount() {
            if (septets(0, length) <= MOST_ALONE) {
                return 1;
            }
            int parts = 1;
            int used = 0;
            for (int k = 0; k < length; k++) {
                int more = Alphabet.septetsOf(forms[k]);
                if (used + more > MOST_IN_PART) {
                    parts++;
                    used = 0;
                }
                used += more;
            }
            return parts;
        }

        /** Where the part that begins at from ends: the place behind its last character. */
        int partEnd(int from) {
            int used = 0;
            for (int k = from; k < length; k++) {
                used += Alphabet.septetsOf(forms[k]);
                if (used > MOST_IN_PART) {
                    return k;
                }
            }
            return length;
        }

        /** Packs these characters behind what the row has as user data so far. */
        void pack(int from, int end, Row row) {
            int start = row.submitDataAt() + 1;
            int bit = row.firstBit();
            for (int k = from; k < end; k++) {
                int form = forms[k];
                if (form >= Alphabet.ESCAPED) {
                    row.mergeSeptet(start, bit, Alphabet.ESCAPE);
                    bit += 7;
                }
                row.mergeSeptet(start, bit, form & 127);
                bit += 7;
            }
        }
    }

    /** A row of bytes of a fixed size, each 0 .. 255: a SUBMIT, a DELIVER or a REPORT. */
    private static final class Row {
        static final int SUBMIT = 17;
        static final int DELIVER = 4;
        static final int REPORT = 2;
        static final int REPORT_WANTED = 32;
        static final int HEADER = 64;
        static final int HEADER_SEPTETS = 7;
        static final int HEADER_BITS = 49;
        static final int SUBMIT_ADDRESS_AT = 2;
        static final int DELIVER_ADDRESS_AT = 1;
        static final int MOST_DIGITS = 12;
        static final int TIME_DIGITS = 14;
        static final int INTERNATIONAL = 145;
        static final int FILLER = 15;

        private final int[] bytes;
        private int written;
        /** The device that sent the row up; null for rows that the centre made. */
        final Device origin;

        Row(int size, Device origin) {
            this.bytes = new int[size];
            this.origin = origin;
        }

        static int digitsOf(long number) {
            int digits = 1;
            long rest = number / 10;
            while (rest > 0 && digits < MOST_DIGITS) {
                rest /= 10;
                digits++;
            }
            return digits;
        }

        static int addressSize(int digits) {
            return 2 + (digits + 1) / 2;
        }

        static int dataSize(int length) {
            return 1 + (7 * length + 7) / 8;
        }

        static int submitSize(long to, int length) {
            return SUBMIT_ADDRESS_AT + addressSize(digitsOf(to)) + 3 + dataSize(length);
        }

        static int deliverSize(long from, int dataSize) {
            return DELIVER_ADDRESS_AT + addressSize(digitsOf(from)) + 2 + TIME_DIGITS / 2 + dataSize;
        }

        static int reportSize(long to) {
            return 2 + addressSize(digitsOf(to)) + TIME_DIGITS + 1;
        }

        int size() {
            return bytes.length;
        }

        boolean has(int i) {
            return i >= 0 && i < bytes.length;
        }

        /** Byte i, or -1 when there is no such byte. */
        int at(int i) {
            return has(i) ? bytes[i] : -1;
        }

        void flip(int i, int x) {
            if (has(i)) {
                bytes[i] ^= x;
            }
        }

        void put(int value) {
            if (has(written)) {
                bytes[written] = value;
                written++;
            }
        }

        private void merge(int i, int bits) {
            if (has(i)) {
                bytes[i] |= bits;
            }
        }

        private void putDigits(long value, int count) {
            int first = written;
            for (int k = 0; k < count; k += 2) {
                put(k + 1 < count ? 0 : FILLER << 4);
            }
            long rest = value;
            for (int k = count - 1; k >= 0; k--) {
                merge(first + k / 2, (int) (rest % 10) << (k % 2 * 4));
                rest /= 10;
            }
        }

        void putAddress(long number) {
            int digits = digitsOf(number);
            put(digits);
            put(INTERNATIONAL);
            putDigits(number, digits);
        }

        void putTime(int moment) {
            putDigits(moment, TIME_DIGITS);
        }

        void putSubmitHead(int kind, int messageNumber, long to, int validity) {
            put(kind);
            put(messageNumber);
            putAddress(to);
            put(0);
            put(0);
            put(validity);
        }

        void putHeader(int reference, int parts, int part) {
            put(5);
            put(0);
            put(3);
            put(reference);
            put(parts);
            put(part);
        }

        void putRest(Row other, int from) {
            for (int i = from; i < other.size(); i++) {
                put(other.at(i));
            }
        }

        /** The bits of a septet come from bit on in the bytes that begin at start. */
        void mergeSeptet(int start, int bit, int septet) {
            int place = start + bit / 8;
            int shifted = septet << (bit % 8);
            merge(place, shifted & 255);
            merge(place + 1, shifted >> 8);
        }

        int septetAt(int start, int bit) {
            int place = start + bit / 8;
            int low = has(place) ? bytes[place] : 0;
            int high = has(place + 1) ? bytes[place + 1] : 0;
            return (high << 8 | low) >> (bit % 8) & 127;
        }

        /** Digit k of those that begin at byte start, as it stands in its four bits, or -1. */
        int digitAt(int start, int k) {
            int pair = at(start + k / 2);
            if (pair < 0) {
                return -1;
            }
            return k % 2 == 0 ? pair & 15 : pair >> 4;
        }

        long numberAt(int address) {
            long number = 0;
            int digits = at(address);
            for (int k = 0; k < digits; k++) {
                number = 10 * number + digitAt(address + 2, k);
            }
            return number;
        }

        boolean hasHeader() {
            return (at(0) & HEADER) != 0;
        }

        /** Which bit of the user data is the first of the first septet. */
        int firstBit() {
            return hasHeader() ? HEADER_BITS : 0;
        }

        int submitDataAt() {
            return SUBMIT_ADDRESS_AT + addressSize(at(SUBMIT_ADDRESS_AT)) + 3;
        }

        int deliverDataAt() {
            return DELIVER_ADDRESS_AT + addressSize(at(DELIVER_ADDRESS_AT)) + 2 + TIME_DIGITS / 2;
        }

        /** Reads the characters of a DELIVER into a text from place on; answers where they end. */
        int readText(int[] text, int place) {
            int data = deliverDataAt();
            int end = place;
            int endBit = 7 * at(data);
            boolean escaped = false;
            for (int bit = firstBit(); bit < endBit && end < text.length; bit += 7) {
                int code = septetAt(data + 1, bit);
                if (code == Alphabet.ESCAPE) {
                    escaped = true;
                    continue;
                }
                text[end] = escaped ? Alphabet.second(code) : Alphabet.plain(code);
                escaped = false;
                end++;
            }
            return end;
        }
    }

    /** Tells whether a row is a SUBMIT in just the form of the document. */
    private static final class SubmitRules {
        private static final int MOST_LENGTH = 160;

        static boolean areKept(Row row) {
            int kind = row.at(0) & ~(Row.REPORT_WANTED | Row.HEADER);
            if (kind != Row.SUBMIT || !isAddress(row, Row.SUBMIT_ADDRESS_AT)) {
                return false;
            }
            int data = row.submitDataAt();
            int validity = row.at(data - 1);
            return row.at(data - 3) == 0 && row.at(data - 2) == 0
                && validity >= 0 && validity <= MOST_VALIDITY
                && isUserData(row, data);
        }

        private static boolean isAddress(Row row, int address) {
            int digits = row.at(address);
            if (digits < 1 || digits > Row.MOST_DIGITS || row.at(address + 1) != Row.INTERNATIONAL) {
                return false;
            }
            for (int k = 0; k < digits; k++) {
                int digit = row.digitAt(address + 2, k);
                // A number has no zero in front: its count of digits would be another.
                if (digit < (k == 0 ? 1 : 0) || digit > 9) {
                    return false;
                }
            }
            return digits % 2 == 0 || row.digitAt(address + 2, digits) == Row.FILLER;
        }

        private static boolean isUserData(Row row, int data) {
            int length = row.at(data);
            if (length < 0 || length > MOST_LENGTH || row.size() != data + Row.dataSize(length)) {
                return false;
            }
            if (row.hasHeader() && (length < Row.HEADER_SEPTETS || !isHeader(row, data + 1))) {
                return false;
            }
            int usedInLast = 7 * length % 8;
            if (usedInLast != 0 && row.at(row.size() - 1) >> usedInLast != 0) {
                return false;
            }
            return isText(row, data);
        }

        private static boolean isHeader(Row row, int start) {
            int parts = row.at(start + 4);
            int part = row.at(start + 5);
            boolean bitBehindIsClear = (row.at(start + 6) & 1) == 0;
            return row.at(start) == 5 && row.at(start + 1) == 0 && row.at(start + 2) == 3
                && parts >= 1 && parts <= MOST_PARTS
                && part >= 1 && part <= parts
                && bitBehindIsClear;
        }

        private static boolean isText(Row row, int data) {
            int end = 7 * row.at(data);
            boolean escaped = false;
            for (int bit = row.firstBit(); bit < end; bit += 7) {
                int code = row.septetAt(data + 1, bit);
                if (escaped) {
                    if (Alphabet.second(code) < 0) {
                        return false;
                    }
                    escaped = false;
                } else {
                    escaped = code == Alphabet.ESCAPE;
                }
            }
            return !escaped;
        }
    }

    /** Rows that wait one behind the other, with room for so many. */
    private static final class Line {
        private final ArrayList<Row> rows = new ArrayList<>();
        private final int most;

        Line(int most) {
            this.most = most;
        }

        int size() {
            return rows.size();
        }

        int room() {
            return most - rows.size();
        }

        void append(Row row) {
            if (rows.size() < most) {
                rows.add(row);
            }
        }

        Row first() {
            return rows.isEmpty() ? null : rows.get(0);
        }

        Row removeFirst() {
            return rows.isEmpty() ? null : rows.remove(0);
        }

        boolean exchangeFirstTwo() {
            if (rows.size() < 2) {
                return false;
            }
            Row row = rows.get(0);
            rows.set(0, rows.get(1));
            rows.set(1, row);
            return true;
        }
    }

    /** A message that the centre has accepted. */
    private static final class Message {
        private static final int AFTER_FIRST = 1;
        private static final int AFTER_SECOND = 4;
        private static final int AFTER_LATER = 16;

        private final Row submit;
        private final Device origin;
        /** The number of the sending device when it was accepted: that may get another one later. */
        private final long from;
        private final int accepted;
        private int next;
        final long to;
        final int tooOld;
        int offered;
        Fate fate = Fate.WAITS;

        Message(Row submit, Device origin, int accepted) {
            this.submit = submit;
            this.origin = origin;
            this.from = origin.number;
            this.accepted = accepted;
            this.next = accepted;
            this.to = submit.numberAt(Row.SUBMIT_ADDRESS_AT);
            this.tooOld = accepted + 5 * (submit.at(submit.submitDataAt() - 1) + 1);
        }

        int moment() {
            return Math.min(next, tooOld);
        }

        void putOff(int moment) {
            if (offered == 1) {
                next = moment + AFTER_FIRST;
            } else if (offered == 2) {
                next = moment + AFTER_SECOND;
            } else {
                next = moment + AFTER_LATER;
            }
        }

        Row asDeliver() {
            int data = submit.submitDataAt();
            Row row = new Row(Row.deliverSize(from, submit.size() - data), null);
            row.put(Row.DELIVER + (submit.hasHeader() ? Row.HEADER : 0));
            row.putAddress(from);
            row.put(0);
            row.put(0);
            row.putTime(accepted);
            row.putRest(submit, data);
            return row;
        }

        /** Tells the sending device what was settled at this moment, if it wants to know and has room. */
        void fileReport(int moment) {
            if ((submit.at(0) & Row.REPORT_WANTED) == 0 || origin.reports.room() == 0) {
                return;
            }
            Row row = new Row(Row.reportSize(to), null);
            row.put(Row.REPORT);
            row.put(submit.at(1));
            row.putAddress(to);
            row.putTime(accepted);
            row.putTime(moment);
            row.put(fate.reported);
            origin.reports.append(row);
        }
    }

    /** The parts of one text that have come so far, as the DELIVERs that brought them. */
    private static final class Pile {
        private final long from;
        private final int reference;
        private final Row[] parts;
        private int lacking;

        Pile(long from, int reference, int parts) {
            this.from = from;
            this.reference = reference;
            this.parts = new Row[parts];
            this.lacking = parts;
        }

        boolean gathers(long from, int reference, int parts) {
            return this.from == from && this.reference == reference && this.parts.length == parts;
        }

        void keep(int part, Row row) {
            int k = part - 1;
            if (k >= 0 && k < parts.length && parts[k] == null) {
                parts[k] = row;
                lacking--;
            }
        }

        int lacking() {
            return lacking;
        }

        int readText(int[] text) {
            int end = 0;
            for (int k = 0; k < parts.length; k++) {
                if (parts[k] != null) {
                    end = parts[k].readText(text, end);
                }
            }
            return end;
        }
    }

    /** A device of a subscriber. */
    private static final class Device {
        private static final int ROOM = 6;
        private static final int MOST_PILES = 3;
        private static final int MOST_CHARACTERS = 480;

        /** 0 as long as it has none. */
        long number;
        boolean on;
        final Line inbox = new Line(ROOM);
        final Line reports = new Line(ROOM);
        int references;
        private int messageNumbers;
        /** The piles in the order in which they were begun. */
        private final ArrayList<Pile> piles = new ArrayList<>();
        final int[] lastText = new int[MOST_CHARACTERS];
        int lastLength;
        /** 0 as long as no text was put together. */
        long lastSender;

        int nextMessageNumber() {
            int answer = messageNumbers;
            messageNumbers = (messageNumbers + 1) % 256;
            return answer;
        }

        void countReference() {
            references = (references + 1) % 256;
        }

        /** Reads a DELIVER and answers as take does. */
        int read(Row row) {
            long from = row.numberAt(Row.DELIVER_ADDRESS_AT);
            if (row.hasHeader()) {
                return gather(row, from);
            }
            lastLength = row.readText(lastText, 0);
            lastSender = from;
            return lastLength;
        }

        private int gather(Row row, long from) {
            int header = row.deliverDataAt() + 1;
            int place = pilePlace(from, row.at(header + 3), row.at(header + 4));
            Pile pile = piles.get(place);
            pile.keep(row.at(header + 5), row);
            if (pile.lacking() > 0) {
                return -1 - pile.lacking();
            }
            piles.remove(place);
            lastLength = pile.readText(lastText);
            lastSender = from;
            return lastLength;
        }

        /** Where the pile for such parts stands; it is begun when there is none. */
        private int pilePlace(long from, int reference, int parts) {
            for (int k = 0; k < piles.size(); k++) {
                if (piles.get(k).gathers(from, reference, parts)) {
                    return k;
                }
            }
            if (piles.size() >= MOST_PILES) {
                piles.remove(0);
            }
            piles.add(new Pile(from, reference, parts));
            return piles.size() - 1;
        }
    }
}
