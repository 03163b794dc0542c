/** Objects as the tests need them, and runs of calls that many of them make. */
final class Make {
    private Make() {
    }

    /** The side waits: its LOGON is on the wire. */
    static Fix waiting(int side) {
        Fix fix = new Fix();
        fix.logon(side);
        return fix;
    }

    /** The other side waits: its answer to the LOGON of the side that is on the wire. */
    static Fix onByAnAsk(int side) {
        Fix fix = waiting(1 - side);
        fix.deliver(side);
        return fix;
    }

    /** Both sides are ON, have sent a LOGON each, expect 2, and their wires are empty, at the time 0. */
    static Fix bothOn() {
        Fix fix = onByAnAsk(1);
        fix.deliver(0);
        return fix;
    }

    /** Both are ON; the side has heard a message behind a gap, so that a resend is waiting. */
    static Fix asking(int side) {
        Fix fix = bothOn();
        gap(fix, side);
        return fix;
    }

    /** What a side hides is of several times here: both are ON, messages on both wires, keys handled, one waits. */
    static Fix busy(int side) {
        Fix fix = bothOn();
        fix.send(side, 11);
        fix.tick();
        fix.deliver(1 - side);
        fix.send(1 - side, 21);
        fix.send(1 - side, 22);
        fix.again(1 - side, 2);
        fix.tick();
        fix.lose(side);
        fix.deliver(side);
        fix.send(side, 12);
        return fix;
    }

    /** Both are ON; the side has sent so many messages, and their wires are empty. */
    static Fix sent(int side, int messages) {
        Fix fix = bothOn();
        sendUpTo(fix, side, messages);
        return fix;
    }

    /** As sent(), but the side is OFF. */
    static Fix sentAndOff(int side, int messages) {
        Fix fix = sent(side, messages);
        fix.crash(side);
        return fix;
    }

    /** Both are ON; so many BUSINESS messages with the keys 0, 1, .. are on the wire to the side. */
    static Fix onTheWire(int side, int messages) {
        Fix fix = bothOn();
        for (int key = 0; key < messages; key++) {
            fix.send(1 - side, key);
        }
        return fix;
    }

    /** The other side sends two messages, of which but the second comes. */
    static void gap(Fix fix, int side) {
        fix.send(1 - side, 1);
        fix.send(1 - side, 2);
        fix.lose(side);
        fix.deliver(side);
    }

    static void ticks(Fix fix, int ticks) {
        for (int i = 0; i < ticks; i++) {
            fix.tick();
        }
    }

    static void deliverAll(Fix fix, int side) {
        int count = fix.wire(side);
        for (int i = 0; i < count; i++) {
            fix.deliver(side);
        }
    }

    static void loseAll(Fix fix, int side) {
        int count = fix.wire(side);
        for (int i = 0; i < count; i++) {
            fix.lose(side);
        }
    }

    /** Lets an ON side send BUSINESS messages, each with its number as its key, until it has sent so many; all are lost. */
    static void sendUpTo(Fix fix, int side, int sent) {
        for (int number = fix.next(side); number <= sent; number++) {
            fix.send(side, number);
        }
        loseAll(fix, 1 - side);
    }
}
