/**
 * A session engine for orders between two sides. ../shared/DOC.md says what
 * each call must do; the names here follow its words.
 */
public final class SessionFix {
    public static final int NONE = -1;
    public static final int OFF = 0, WAITING = 1, ON = 2;
    public static final int LOGON = 0, HEARTBEAT = 1, TEST = 2, RESEND = 3, FILL = 4, BUSINESS = 5, LOGOUT = 6;

    private static final int MOST_KEY = 999;
    private static final int MOST_SENT = 200;
    private static final int MOST_ON_WIRE = 60;
    private static final int RESEND_TICKS = 4;
    private static final int HEARTBEAT_TICKS = 3;
    private static final int TEST_TICKS = 5;
    private static final int SILENT_TICKS = 8;

    private final Side zero;
    private final Side one;
    private int time;

    public SessionFix() {
        zero = new Side();
        one = new Side();
        time = 0;
    }

    // ---- sessions

    public int logon(int side) throws IndexOutOfBoundsException, IllegalStateException {
        checkSide(side);
        Side self = sideOf(side);
        if (self.state != OFF || self.store.isFull()) {
            throw new IllegalStateException();
        }
        emptyWires();
        self.state = WAITING;
        return sendNew(side, LOGON, 0, Message.ASKS);
    }

    public int logout(int side) throws IndexOutOfBoundsException, IllegalStateException {
        checkSide(side);
        checkCanSend(side);
        int number = sendNew(side, LOGOUT, 0, 0);
        sideOf(side).turnOff();
        return number;
    }

    public boolean crash(int side) throws IndexOutOfBoundsException {
        checkSide(side);
        boolean wasOn = sideOf(side).state == ON;
        sideOf(side).turnOff();
        return wasOn;
    }

    public int endDay() throws IllegalStateException {
        if (zero.state != OFF || one.state != OFF) {
            throw new IllegalStateException();
        }
        int sent = zero.store.sentCount + one.store.sentCount;
        zero.store.emptyAll();
        one.store.emptyAll();
        emptyWires();
        return sent;
    }

    // ---- messages

    public int send(int side, int key) throws IndexOutOfBoundsException, IllegalArgumentException, IllegalStateException {
        checkSide(side);
        if (key < 0 || key > MOST_KEY) {
            throw new IllegalArgumentException();
        }
        checkCanSend(side);
        return sendNew(side, BUSINESS, key, 0);
    }

    public int again(int side, int number) throws IndexOutOfBoundsException, IllegalStateException {
        checkSide(side);
        Store store = sideOf(side).store;
        if (!store.hasBusiness(number)) {
            throw new IndexOutOfBoundsException();
        }
        checkCanSend(side);
        int key = Message.toldBy(store.sentAt(number));
        return sendNew(side, BUSINESS, key, Message.POSSIBLE_DOUBLE);
    }

    public int deliver(int side) throws IndexOutOfBoundsException, IllegalStateException {
        int message = takeFirst(side);
        sideOf(side).hear(time);
        receive(side, message);
        return Message.kindOf(message);
    }

    public int lose(int side) throws IndexOutOfBoundsException, IllegalStateException {
        return Message.kindOf(takeFirst(side));
    }

    public int tick() {
        time++;
        passTick(0);
        passTick(1);
        return time;
    }

    // ---- what is

    public int stateOf(int side) throws IndexOutOfBoundsException {
        checkSide(side);
        return sideOf(side).state;
    }

    public int next(int side) throws IndexOutOfBoundsException {
        checkSide(side);
        return sideOf(side).store.sentCount + 1;
    }

    public int expected(int side) throws IndexOutOfBoundsException {
        checkSide(side);
        return sideOf(side).store.expects;
    }

    public boolean isAsking(int side) throws IndexOutOfBoundsException {
        checkSide(side);
        return sideOf(side).hasResendWaiting;
    }

    public int wire(int side) throws IndexOutOfBoundsException {
        checkSide(side);
        return sideOf(side).incoming.count;
    }

    public int numberAt(int side, int place) throws IndexOutOfBoundsException {
        return Message.numberOf(messageAt(side, place));
    }

    public int textLength(int side, int place) throws IndexOutOfBoundsException {
        return Message.textOf(messageAt(side, place)).length();
    }

    public char textChar(int side, int place, int character) throws IndexOutOfBoundsException {
        StringBuilder text = Message.textOf(messageAt(side, place));
        if (character < 0 || character >= text.length()) {
            throw new IndexOutOfBoundsException();
        }
        return text.charAt(character);
    }

    public int handled(int side) throws IndexOutOfBoundsException {
        checkSide(side);
        return sideOf(side).store.keyCount;
    }

    public int handledKey(int side, int place) throws IndexOutOfBoundsException {
        checkSide(side);
        Store store = sideOf(side).store;
        if (place < 0 || place >= store.keyCount) {
            throw new IndexOutOfBoundsException();
        }
        return store.keyAt(place);
    }

    public int doubles(int side) throws IndexOutOfBoundsException {
        checkSide(side);
        return sideOf(side).store.doubleCount;
    }

    public int agreed(int side) throws IndexOutOfBoundsException {
        checkSide(side);
        Store own = sideOf(side).store;
        Store others = otherOf(side).store;
        int last = Math.min(own.expects - 1, others.sentCount);
        int keys = 0;
        for (int number = 1; number <= last; number++) {
            if (!others.tellsKey(number)) {
                continue;
            }
            if (keys >= own.keyCount || own.keyAt(keys) != Message.toldBy(others.sentAt(number))) {
                return keys;
            }
            keys++;
        }
        return keys;
    }

    // ---- tests of arguments and states

    private void checkSide(int side) {
        if (side != 0 && side != 1) {
            throw new IndexOutOfBoundsException();
        }
    }

    private void checkCanSend(int side) {
        Side self = sideOf(side);
        if (self.state != ON || self.store.isFull()) {
            throw new IllegalStateException();
        }
    }

    private Side sideOf(int side) {
        return side == 0 ? zero : one;
    }

    private Side otherOf(int side) {
        return side == 0 ? one : zero;
    }

    // ---- wires

    private void emptyWires() {
        zero.incoming.count = 0;
        one.incoming.count = 0;
    }

    private int messageAt(int side, int place) {
        checkSide(side);
        Wire wire = sideOf(side).incoming;
        if (place < 0 || place >= wire.count) {
            throw new IndexOutOfBoundsException();
        }
        return wire.messageOn(place);
    }

    private int takeFirst(int side) {
        checkSide(side);
        Wire wire = sideOf(side).incoming;
        if (wire.count == 0) {
            throw new IllegalStateException();
        }
        return wire.removeFirst();
    }

    /** Also what a full wire loses has been put on it, so the time is noted for every message. */
    private void putOnWire(int side, int message) {
        sideOf(side).putAt = time;
        otherOf(side).incoming.put(message);
    }

    /** Beyond the limit of a day the message is left out; then the answer is NONE. */
    private int sendNew(int side, int kind, int told, int marks) {
        Store store = sideOf(side).store;
        if (store.isFull()) {
            return NONE;
        }
        int number = store.sentCount + 1;
        int message = Message.of(number, kind, told, marks);
        store.keep(message);
        putOnWire(side, message);
        return number;
    }

    // ---- what comes to a side

    private void receive(int side, int message) {
        Side self = sideOf(side);
        int kind = Message.kindOf(message);
        if (kind != LOGON && self.state != ON) {
            return;
        }
        int number = Message.numberOf(message);
        if (number < self.store.expects) {
            refuseLow(self, message);
            return;
        }
        boolean isAhead = number > self.store.expects;
        if (!isAhead) {
            self.hasResendWaiting = false;
            self.store.expects = kind == FILL ? Message.toldBy(message) : number + 1;
        }
        if (kind == LOGON) {
            answerLogon(side, message);
        } else if (kind == RESEND) {
            answerResend(side, Message.toldBy(message));
        } else if (!isAhead) {
            handle(side, message);
        }
        if (isAhead) {
            askForResend(side);
        }
    }

    private void refuseLow(Side self, int message) {
        if (Message.isMarked(message, Message.SENT_AGAIN)) {
            self.store.doubleCount++;
        } else {
            self.turnOff();
        }
    }

    private void answerLogon(int side, int message) {
        Side self = sideOf(side);
        if (Message.isMarked(message, Message.ASKS)) {
            self.state = ON;
            self.hasResendWaiting = false;
            sendNew(side, LOGON, 0, 0);
        } else if (self.state == WAITING) {
            self.state = ON;
        }
    }

    private void handle(int side, int message) {
        Side self = sideOf(side);
        switch (Message.kindOf(message)) {
            case TEST:
                sendNew(side, HEARTBEAT, 0, 0);
                break;
            case LOGOUT:
                sendNew(side, LOGOUT, 0, 0);
                self.turnOff();
                break;
            case BUSINESS:
                handleBusiness(self.store, message);
                break;
            default:
                break;
        }
    }

    private void handleBusiness(Store store, int message) {
        int key = Message.toldBy(message);
        if (Message.isMarked(message, Message.POSSIBLE_DOUBLE) && store.hasHandled(key)) {
            store.doubleCount++;
        } else {
            store.addKey(key);
        }
    }

    private void askForResend(int side) {
        Side self = sideOf(side);
        if (self.state == ON && !self.hasResendWaiting) {
            sendNew(side, RESEND, self.store.expects, 0);
            self.hasResendWaiting = true;
            self.askedAt = time;
        }
    }

    private void answerResend(int side, int from) {
        Store store = sideOf(side).store;
        int last = store.sentCount;
        int firstOther = NONE;
        for (int number = Math.max(from, 1); number <= last; number++) {
            if (store.hasBusiness(number)) {
                putFill(side, firstOther, number);
                firstOther = NONE;
                putOnWire(side, store.sentAt(number) | Message.SENT_AGAIN);
            } else if (firstOther == NONE) {
                firstOther = number;
            }
        }
        putFill(side, firstOther, last + 1);
    }

    private void putFill(int side, int first, int behind) {
        if (first != NONE) {
            putOnWire(side, Message.of(first, FILL, behind, Message.SENT_AGAIN));
        }
    }

    // ---- time

    private void passTick(int side) {
        Side self = sideOf(side);
        if (self.state != ON) {
            return;
        }
        if (time - self.askedAt >= RESEND_TICKS) {
            self.hasResendWaiting = false;
        }
        int silent = time - self.heardAt;
        if (silent >= SILENT_TICKS) {
            self.turnOff();
        } else if (silent >= TEST_TICKS && !self.hasTested) {
            self.hasTested = true;
            sendNew(side, TEST, 0, 0);
        } else if (time - self.putAt >= HEARTBEAT_TICKS) {
            sendNew(side, HEARTBEAT, 0, 0);
        }
    }

    /** One of the two, with the wire that leads to it. */
    private static final class Side {
        private final Store store = new Store();
        private final Wire incoming = new Wire();
        private int state = OFF;
        private boolean hasResendWaiting;
        private int askedAt;
        private int heardAt;
        private int putAt;
        private boolean hasTested;

        void hear(int now) {
            heardAt = now;
            hasTested = false;
        }

        void turnOff() {
            state = OFF;
            hasResendWaiting = false;
        }
    }

    /** What of a side outlives everything but the end of a day. */
    private static final class Store {
        private final int[] sent = new int[MOST_SENT];
        private int sentCount;
        private int expects = 1;
        private final int[] keys = new int[MOST_SENT];
        private int keyCount;
        private int doubleCount;

        boolean isFull() {
            return sentCount >= MOST_SENT;
        }

        void emptyAll() {
            sentCount = 0;
            expects = 1;
            keyCount = 0;
            doubleCount = 0;
        }

        void keep(int message) {
            if (sentCount >= 0 && sentCount < sent.length) {
                sent[sentCount] = message;
                sentCount++;
            }
        }

        int sentAt(int number) {
            if (number < 1 || number > sent.length) {
                return NONE;
            }
            return sent[number - 1];
        }

        boolean hasBusiness(int number) {
            return number >= 1 && number <= sentCount && Message.kindOf(sentAt(number)) == BUSINESS;
        }

        /** Whether the other side should have handled the key of the message of this number. */
        boolean tellsKey(int number) {
            if (!hasBusiness(number)) {
                return false;
            }
            int message = sentAt(number);
            return !Message.isMarked(message, Message.POSSIBLE_DOUBLE)
                    || !hasKeyAhead(Message.toldBy(message), number);
        }

        private boolean hasKeyAhead(int key, int number) {
            for (int ahead = 1; ahead < number; ahead++) {
                if (hasBusiness(ahead) && Message.toldBy(sentAt(ahead)) == key) {
                    return true;
                }
            }
            return false;
        }

        void addKey(int key) {
            if (keyCount >= 0 && keyCount < keys.length) {
                keys[keyCount] = key;
                keyCount++;
            }
        }

        int keyAt(int place) {
            if (place < 0 || place >= keys.length) {
                return NONE;
            }
            return keys[place];
        }

        boolean hasHandled(int key) {
            for (int place = 0; place < keyCount; place++) {
                if (keyAt(place) == key) {
                    return true;
                }
            }
            return false;
        }
    }

    /** The messages on their way to a side, the first one in place 0. */
    private static final class Wire {
        private final int[] messages = new int[MOST_ON_WIRE];
        private int count;

        void put(int message) {
            if (count >= 0 && count < messages.length) {
                messages[count] = message;
                count++;
            }
        }

        int messageOn(int place) {
            if (place < 0 || place >= messages.length) {
                return NONE;
            }
            return messages[place];
        }

        int removeFirst() {
            if (count <= 0) {
                return NONE;
            }
            int first = messageOn(0);
            for (int place = 1; place < count && place < messages.length; place++) {
                messages[place - 1] = messages[place];
            }
            count--;
            return first;
        }
    }

    /** A message is packed into one int, so that a long run makes no objects for its messages. */
    private static final class Message {
        private static final int KIND_SHIFT = 8;
        private static final int TOLD_SHIFT = 11;
        private static final int NUMBER_MASK = 255;
        private static final int KIND_MASK = 7;
        private static final int TOLD_MASK = 1023;
        private static final int SENT_AGAIN = 1 << 21;
        private static final int POSSIBLE_DOUBLE = 1 << 22;
        private static final int ASKS = 1 << 23;

        /** Told is the key of a BUSINESS message, and the number that a RESEND or a FILL tells. */
        static int of(int number, int kind, int told, int marks) {
            return number | kind << KIND_SHIFT | told << TOLD_SHIFT | marks;
        }

        static int numberOf(int message) {
            return message & NUMBER_MASK;
        }

        static int kindOf(int message) {
            return message >> KIND_SHIFT & KIND_MASK;
        }

        static int toldBy(int message) {
            return message >> TOLD_SHIFT & TOLD_MASK;
        }

        static boolean isMarked(int message, int mark) {
            return (message & mark) != 0;
        }

        static StringBuilder textOf(int message) {
            int kind = kindOf(message);
            StringBuilder text = new StringBuilder();
            text.append(numberOf(message)).append(' ').append(nameOf(kind));
            if (kind == RESEND || kind == FILL || kind == BUSINESS) {
                text.append(' ').append(toldBy(message));
            }
            if (isMarked(message, SENT_AGAIN)) {
                text.append(" D");
            }
            if (isMarked(message, POSSIBLE_DOUBLE)) {
                text.append(" P");
            }
            return text;
        }

        private static String nameOf(int kind) {
            switch (kind) {
                case LOGON:
                    return "LOGON";
                case HEARTBEAT:
                    return "HEARTBEAT";
                case TEST:
                    return "TEST";
                case RESEND:
                    return "RESEND";
                case FILL:
                    return "FILL";
                case BUSINESS:
                    return "BUSINESS";
                default:
                    return "LOGOUT";
            }
        }
    }
}
