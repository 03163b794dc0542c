import java.util.ArrayList;
import java.util.List;
import java.util.function.Consumer;
import java.util.function.Supplier;

/**
 * Each "Throws" sentence and each range of an argument, promise by promise,
 * with the last argument that is allowed and the first that is not. That a
 * call that throws changes nothing is held against by Check.refused each time.
 */
public final class RefusalsTest {
    private static final Class<IndexOutOfBoundsException> NO_INDEX = IndexOutOfBoundsException.class;
    private static final Class<IllegalArgumentException> NO_ARGUMENT = IllegalArgumentException.class;
    private static final Class<IllegalStateException> NOT_NOW = IllegalStateException.class;
    private static final int[] WRONG_SIDES = {-1, 2, 3, Integer.MIN_VALUE, Integer.MAX_VALUE};
    private static final int[] WRONG_KEYS = {-1, 1000, 1024, Integer.MIN_VALUE, Integer.MAX_VALUE};
    private static final int[] FAR_PLACES = {-1, 60, 61, 200, 256, Integer.MIN_VALUE, Integer.MAX_VALUE};
    private static final Check check = new Check();

    private interface OfSide {
        void call(Fix fix, int side);
    }

    private record Named(String name, OfSide calls) {
    }

    private record Situation(String name, Supplier<Fix> make) {
    }

    /** Every call that takes a side, with other arguments that would do. */
    private static final List<Named> CALLS = List.of(
            new Named("logon", Fix::logon),
            new Named("logout", Fix::logout),
            new Named("crash", Fix::crash),
            new Named("send", (fix, side) -> fix.send(side, 1)),
            new Named("again", (fix, side) -> fix.again(side, 2)),
            new Named("deliver", Fix::deliver),
            new Named("lose", Fix::lose),
            new Named("stateOf", Fix::stateOf),
            new Named("next", Fix::next),
            new Named("expected", Fix::expected),
            new Named("isAsking", Fix::isAsking),
            new Named("wire", Fix::wire),
            new Named("numberAt", (fix, side) -> fix.numberAt(side, 0)),
            new Named("textLength", (fix, side) -> fix.textLength(side, 0)),
            new Named("textChar", (fix, side) -> fix.textChar(side, 0, 0)),
            new Named("handled", Fix::handled),
            new Named("handledKey", (fix, side) -> fix.handledKey(side, 0)),
            new Named("doubles", Fix::doubles),
            new Named("agreed", Fix::agreed));

    public static void main(String[] args) {
        noSuchSide();
        for (int side = 0; side < 2; side++) {
            int self = side;
            check.sentence("side " + self);
            logon(self);
            logout(self);
            crash(self);
            send(self);
            sendOrder(self);
            again(self);
            againOfOtherKinds(self);
            againOrder(self);
            emptyWire(self);
            placesOnTheWire(self);
            characters(self);
            keys(self);
            refusedOnesInARow(self);
        }
        check.sentence("");
        endDay();
        tick();
        check.end();
    }

    private static List<Situation> situations() {
        List<Situation> all = new ArrayList<>();
        all.add(new Situation("a new object", Fix::new));
        all.add(new Situation("both ON", Make::bothOn));
        all.add(new Situation("behind a day", RefusalsTest::behindADay));
        for (int i = 0; i < 2; i++) {
            int side = i;
            all.add(new Situation(side + " WAITING", () -> Make.waiting(side)));
            all.add(new Situation(side + " ON by an ask", () -> Make.onByAnAsk(side)));
            all.add(new Situation(side + " busy", () -> Make.busy(side)));
            all.add(new Situation(side + " with 200 sent", () -> Make.sent(side, 200)));
            all.add(new Situation(side + " OFF with 200 sent", () -> Make.sentAndOff(side, 200)));
            all.add(new Situation(side + " with a full wire", () -> Make.onTheWire(side, 60)));
        }
        return all;
    }

    private static Fix behindADay() {
        Fix fix = Make.bothOn();
        fix.send(0, 5);
        fix.send(1, 6);
        fix.deliver(0);
        fix.deliver(1);
        fix.crash(0);
        fix.crash(1);
        fix.endDay();
        return fix;
    }

    /** "Throws IndexOutOfBoundsException if there is no such side": it stands first in each list. */
    private static void noSuchSide() {
        for (Situation situation : situations()) {
            for (Named named : CALLS) {
                for (int side : WRONG_SIDES) {
                    check.refused(named.name + "(" + side + ") of " + situation.name, NO_INDEX, situation.make,
                            fix -> named.calls.call(fix, side));
                }
            }
        }
        for (int side : WRONG_SIDES) {
            check.refused("send(" + side + ", -1)", NO_INDEX, Make::bothOn, fix -> fix.send(side, -1));
            check.refused("send(" + side + ", 1000)", NO_INDEX, Make::bothOn, fix -> fix.send(side, 1000));
            check.refused("send(" + side + ", -1) when OFF", NO_INDEX, Fix::new, fix -> fix.send(side, -1));
            check.refused("again(" + side + ", 0)", NO_INDEX, Make::bothOn, fix -> fix.again(side, 0));
            check.refused("numberAt(" + side + ", -1)", NO_INDEX, Make::bothOn, fix -> fix.numberAt(side, -1));
            check.refused("textLength(" + side + ", -1)", NO_INDEX, Make::bothOn, fix -> fix.textLength(side, -1));
            check.refused("textChar(" + side + ", -1, -1)", NO_INDEX, Make::bothOn, fix -> fix.textChar(side, -1, -1));
            check.refused("handledKey(" + side + ", -1)", NO_INDEX, Make::bothOn, fix -> fix.handledKey(side, -1));
        }
    }

    /** Promise 2: "if it is not OFF, or has sent 200 messages". */
    private static void logon(int self) {
        Consumer<Fix> call = fix -> fix.logon(self);
        check.refused("logon of a WAITING side", NOT_NOW, () -> Make.waiting(self), call);
        check.refused("logon of a side ON by an ask", NOT_NOW, () -> Make.onByAnAsk(self), call);
        check.refused("logon of a side ON by an answer", NOT_NOW, Make::bothOn, call);
        check.refused("logon of an ON side with messages about", NOT_NOW, () -> Make.busy(self), call);
        check.refused("logon of an OFF side with 200 sent", NOT_NOW, () -> Make.sentAndOff(self, 200), call);
        check.refused("logon of an ON side with 200 sent", NOT_NOW, () -> Make.sent(self, 200), call);
        check.refused("logon with 200 sent, with messages on the wires", NOT_NOW, () -> fullWithWires(self), call);
        check.allowed("logon of a new side", Fix::new, call);
        check.allowed("logon while the other is WAITING", () -> Make.waiting(1 - self), call);
        check.allowed("logon while the other is ON", () -> crashed(self), call);
        check.allowed("logon with 199 sent", () -> Make.sentAndOff(self, 199), call);
        check.allowed("logon while the other has sent 200", () -> crashed(Make.sent(1 - self, 200), self), call);
    }

    /** OFF with 200 sent, 60 of them on the wire, and a message of the other side on the other one. */
    private static Fix fullWithWires(int self) {
        Fix fix = Make.sent(self, 140);
        for (int number = 141; number <= 200; number++) {
            fix.send(self, number);
        }
        fix.send(1 - self, 1);
        fix.crash(self);
        return fix;
    }

    private static Fix crashed(int side) {
        return crashed(Make.bothOn(), side);
    }

    private static Fix crashed(Fix fix, int side) {
        fix.crash(side);
        return fix;
    }

    /** Promise 3: "if it is not ON, or has sent 200 messages". */
    private static void logout(int self) {
        Consumer<Fix> call = fix -> fix.logout(self);
        check.refused("logout of a new side", NOT_NOW, Fix::new, call);
        check.refused("logout of a side that crashed", NOT_NOW, () -> crashed(self), call);
        check.refused("logout of a WAITING side", NOT_NOW, () -> Make.waiting(self), call);
        check.refused("logout with 200 sent", NOT_NOW, () -> Make.sent(self, 200), call);
        check.refused("logout with 200 sent, OFF", NOT_NOW, () -> Make.sentAndOff(self, 200), call);
        check.allowed("logout with 199 sent", () -> Make.sent(self, 199), call);
        check.allowed("logout while the other is OFF", () -> crashed(1 - self), call);
        check.allowed("logout while the other has sent 200", () -> Make.sent(1 - self, 200), call);
    }

    /** Promise 4: no state refuses it. */
    private static void crash(int self) {
        for (Situation situation : situations()) {
            check.allowed("crash of " + situation.name, situation.make, fix -> fix.crash(self));
        }
    }

    /** Promise 5: "if a side is not OFF"; every pair of states. */
    private static void endDay() {
        Consumer<Fix> call = Fix::endDay;
        check.refused("endDay, ON and ON", NOT_NOW, Make::bothOn, call);
        check.refused("endDay, WAITING and WAITING", NOT_NOW, () -> {
            Fix fix = Make.waiting(0);
            fix.logon(1);
            return fix;
        }, call);
        for (int i = 0; i < 2; i++) {
            int side = i;
            check.refused("endDay, one WAITING, one OFF", NOT_NOW, () -> Make.waiting(side), call);
            check.refused("endDay, one ON, one WAITING", NOT_NOW, () -> Make.onByAnAsk(side), call);
            check.refused("endDay, one ON, one OFF", NOT_NOW, () -> crashed(side), call);
            check.refused("endDay of a busy day", NOT_NOW, () -> Make.busy(side), call);
            check.allowed("endDay with 200 sent", () -> crashed(Make.sentAndOff(side, 200), 1 - side), call);
        }
        check.allowed("endDay of a new object", Fix::new, call);
        check.allowed("endDay once more", RefusalsTest::behindADay, call);
    }

    /** Promise 6: "key: 0 to 999"; "if the side is not ON, or has sent 200 messages". */
    private static void send(int self) {
        for (int key : WRONG_KEYS) {
            check.refused("send of the key " + key, NO_ARGUMENT, Make::bothOn, fix -> fix.send(self, key));
            check.refused("send of the key " + key + " by a busy side", NO_ARGUMENT, () -> Make.busy(self),
                    fix -> fix.send(self, key));
        }
        for (int key : new int[] {0, 1, 500, 998, 999}) {
            check.allowed("send of the key " + key, Make::bothOn, fix -> fix.send(self, key));
        }
        Consumer<Fix> call = fix -> fix.send(self, 7);
        check.refused("send of a new side", NOT_NOW, Fix::new, call);
        check.refused("send of a side that crashed", NOT_NOW, () -> crashed(self), call);
        check.refused("send of a WAITING side", NOT_NOW, () -> Make.waiting(self), call);
        check.refused("send with 200 sent", NOT_NOW, () -> Make.sent(self, 200), call);
        check.allowed("send with 199 sent", () -> Make.sent(self, 199), call);
        check.allowed("send to an OFF side", () -> crashed(1 - self), call);
        check.allowed("send to a WAITING side", () -> Make.onByAnAsk(self), call);
        check.allowed("send on a full wire", () -> Make.onTheWire(1 - self, 60), call);
        check.allowed("send while the other has sent 200", () -> Make.sent(1 - self, 200), call);
    }

    /** The wrong key stands ahead of the wrong state. */
    private static void sendOrder(int self) {
        for (int key : WRONG_KEYS) {
            Consumer<Fix> call = fix -> fix.send(self, key);
            check.refused("send of the key " + key + " by a new side", NO_ARGUMENT, Fix::new, call);
            check.refused("send of the key " + key + " when WAITING", NO_ARGUMENT, () -> Make.waiting(self), call);
            check.refused("send of the key " + key + " with 200 sent", NO_ARGUMENT, () -> Make.sent(self, 200), call);
        }
    }

    /** Promise 7: "or its store has no such BUSINESS message"; numbers ahead of the first and behind the last. */
    private static void again(int self) {
        Supplier<Fix> make = () -> {
            Fix fix = Make.bothOn();
            fix.send(self, 31);
            fix.send(1 - self, 32);
            fix.send(1 - self, 33);
            return fix;
        };
        // 257 and 258 are 1 and 2 in the last eight bits
        for (int number : new int[] {-1, 0, 1, 3, 4, 200, 201, 257, 258, Integer.MIN_VALUE, Integer.MAX_VALUE}) {
            check.refused("again of " + number, NO_INDEX, make, fix -> fix.again(self, number));
        }
        check.allowed("again of 2", make, fix -> fix.again(self, 2));
        check.allowed("again of the last of the other", make, fix -> fix.again(1 - self, 3));
        check.refused("again of what was sent ahead of the day's end", NO_INDEX, () -> {
            Fix fix = behindADay();
            fix.logon(self);
            fix.deliver(1 - self);
            fix.deliver(self);
            return fix;
        }, fix -> fix.again(self, 2));
    }

    /** Promise 7: a number in the store that is of no BUSINESS message. */
    private static void againOfOtherKinds(int self) {
        Supplier<Fix> make = () -> {
            Fix fix = Make.asking(self);
            Make.ticks(fix, 5);
            fix.logout(self);
            fix.logon(self);
            fix.deliver(1 - self);
            fix.deliver(self);
            fix.send(self, 9);
            return fix;
        };
        check.same("the numbers that its store has", make.get().next(self), 9);
        String[] kinds = {"LOGON", "RESEND", "HEARTBEAT", "TEST", "LOGOUT", "LOGON", "RESEND"};
        for (int i = 0; i < kinds.length; i++) {
            int number = i + 1;
            check.refused("again of a " + kinds[i], NO_INDEX, make, fix -> fix.again(self, number));
        }
        check.allowed("again of the BUSINESS message behind them", make, fix -> fix.again(self, 8));
        check.refused("again of a number behind it", NO_INDEX, make, fix -> fix.again(self, 9));
    }

    /** Promise 7: the wrong number stands ahead of the wrong state. */
    private static void againOrder(int self) {
        check.refused("again of nothing by a new side", NO_INDEX, Fix::new, fix -> fix.again(self, 1));
        check.refused("again of a LOGON when WAITING", NO_INDEX, () -> Make.waiting(self), fix -> fix.again(self, 1));
        check.refused("again of nothing with 200 sent", NO_INDEX, () -> Make.sent(self, 200), fix -> fix.again(self, 201));
        check.refused("again of a LOGON with 200 sent", NO_INDEX, () -> Make.sent(self, 200), fix -> fix.again(self, 1));
        check.refused("again of 2 with 200 sent", NOT_NOW, () -> Make.sent(self, 200), fix -> fix.again(self, 2));
        check.refused("again of 200 with 200 sent", NOT_NOW, () -> Make.sent(self, 200), fix -> fix.again(self, 200));
        check.refused("again of 2 when OFF", NOT_NOW, () -> Make.sentAndOff(self, 2), fix -> fix.again(self, 2));
        check.refused("again of 3 when OFF", NO_INDEX, () -> Make.sentAndOff(self, 2), fix -> fix.again(self, 3));
        check.refused("again of 2 when WAITING", NOT_NOW, () -> {
            Fix fix = Make.sentAndOff(self, 2);
            fix.logon(self);
            return fix;
        }, fix -> fix.again(self, 2));
        check.allowed("again of 199 with 199 sent", () -> Make.sent(self, 199), fix -> fix.again(self, 199));
    }

    /** Promises 8 and 9: "if the wire to it is empty". */
    private static void emptyWire(int self) {
        List<Situation> empty = List.of(
                new Situation("a new object", Fix::new),
                new Situation("both ON", Make::bothOn),
                new Situation("the other wire full", () -> Make.onTheWire(1 - self, 60)),
                new Situation("its own LOGON sent", () -> Make.waiting(self)),
                new Situation("a wire that had 60", () -> {
                    Fix fix = Make.onTheWire(self, 60);
                    Make.deliverAll(fix, self);
                    return fix;
                }),
                new Situation("a wire that the day's end emptied", RefusalsTest::behindADay));
        for (Situation situation : empty) {
            check.refused("deliver, " + situation.name, NOT_NOW, situation.make, fix -> fix.deliver(self));
            check.refused("lose, " + situation.name, NOT_NOW, situation.make, fix -> fix.lose(self));
        }
        // to an OFF and to a WAITING side messages may come all the same
        check.allowed("deliver to an OFF side", () -> Make.waiting(1 - self), fix -> fix.deliver(self));
        check.allowed("lose to an OFF side", () -> Make.waiting(1 - self), fix -> fix.lose(self));
        check.allowed("deliver to a WAITING side", () -> Make.onByAnAsk(1 - self), fix -> fix.deliver(self));
        check.allowed("lose to a WAITING side", () -> Make.onByAnAsk(1 - self), fix -> fix.lose(self));
        check.allowed("the last one of 60", () -> {
            Fix fix = Make.onTheWire(self, 60);
            for (int i = 0; i < 59; i++) {
                fix.lose(self);
            }
            return fix;
        }, fix -> fix.deliver(self));
    }

    /** Promises 16, 17 and 18: "if there is no such side or message"; "place: 0 for the first one". */
    private static void placesOnTheWire(int self) {
        for (int place : FAR_PLACES) {
            wrongPlace(self, place, () -> Make.onTheWire(self, 60));
            wrongPlace(self, place, () -> Make.busy(1 - self));
        }
        wrongPlace(self, 0, Fix::new);
        wrongPlace(self, 0, () -> Make.onTheWire(1 - self, 60));
        wrongPlace(self, 1, () -> Make.onTheWire(self, 1));
        wrongPlace(self, 59, () -> Make.onTheWire(self, 59));
        wrongPlace(self, 59, () -> {
            Fix fix = Make.onTheWire(self, 60);
            fix.lose(self);
            return fix;
        });
        for (int place : new int[] {0, 1, 58, 59}) {
            Supplier<Fix> full = () -> Make.onTheWire(self, 60);
            check.allowed("numberAt " + place, full, fix -> fix.numberAt(self, place));
            check.allowed("textLength " + place, full, fix -> fix.textLength(self, place));
            check.allowed("textChar " + place, full, fix -> fix.textChar(self, place, 0));
        }
    }

    private static void wrongPlace(int self, int place, Supplier<Fix> make) {
        check.refused("numberAt " + place, NO_INDEX, make, fix -> fix.numberAt(self, place));
        check.refused("textLength " + place, NO_INDEX, make, fix -> fix.textLength(self, place));
        check.refused("textChar " + place, NO_INDEX, make, fix -> fix.textChar(self, place, 0));
    }

    /** Promise 18: "if there is no such side, message or character"; "character: 0 for the first character". */
    private static void characters(int self) {
        Supplier<Fix> make = () -> {
            Fix fix = Make.onTheWire(self, 2);
            fix.again(1 - self, 2);
            Make.ticks(fix, 3);
            return fix;
        };
        String[] texts = {"2 BUSINESS 0", "3 BUSINESS 1", "4 BUSINESS 0 P", "5 HEARTBEAT"};
        for (int i = 0; i < texts.length; i++) {
            int place = i;
            int length = texts[place].length();
            for (int character : new int[] {-1, length, length + 1, 256, Integer.MIN_VALUE, Integer.MAX_VALUE}) {
                check.refused("character " + character + " of " + texts[place], NO_INDEX, make,
                        fix -> fix.textChar(self, place, character));
            }
            check.allowed("the first character", make, fix -> fix.textChar(self, place, 0));
            check.allowed("the last character", make, fix -> fix.textChar(self, place, length - 1));
        }
    }

    /** Promise 20: "if there is no such side, or it has not handled so many". */
    private static void keys(int self) {
        check.refused("the first key of a new side", NO_INDEX, Fix::new, fix -> fix.handledKey(self, 0));
        check.refused("the first key behind a day", NO_INDEX, RefusalsTest::behindADay, fix -> fix.handledKey(self, 0));
        check.refused("the key of a message on the wire", NO_INDEX, () -> Make.onTheWire(self, 1),
                fix -> fix.handledKey(self, 0));
        Supplier<Fix> two = () -> {
            Fix fix = Make.onTheWire(self, 2);
            fix.again(1 - self, 2);
            Make.deliverAll(fix, self);
            return fix;
        };
        for (int place : new int[] {-1, 2, 3, 199, 200, Integer.MIN_VALUE, Integer.MAX_VALUE}) {
            check.refused("the key in place " + place + " of two", NO_INDEX, two, fix -> fix.handledKey(self, place));
        }
        check.refused("a key of the other side, which handled none", NO_INDEX, two, fix -> fix.handledKey(1 - self, 0));
        check.allowed("the first key", two, fix -> fix.handledKey(self, 0));
        check.allowed("the last key", two, fix -> fix.handledKey(self, 1));
        // 199 keys are too many to look at them all with the calls that are left
        Fix most = allHandled(self);
        check.same("the 199th key", most.handledKey(self, 198), 200);
        check.same("the key behind it", Check.outcome(() -> most.handledKey(self, 199)), NO_INDEX.getName());
        check.same("and a far one", Check.outcome(() -> most.handledKey(self, 200)), NO_INDEX.getName());
    }

    /** The other side has sent 200 messages, all BUSINESS but the LOGON, and all have come. */
    private static Fix allHandled(int self) {
        Fix fix = Make.bothOn();
        for (int number = 2; number <= 200; number++) {
            fix.send(1 - self, number);
            fix.deliver(self);
        }
        return fix;
    }

    /** Many refused calls in a row are as none. */
    private static void refusedOnesInARow(int self) {
        check.refused("refused calls of all kinds", NOT_NOW, () -> Make.busy(self), fix -> {
            Check.outcome(() -> fix.logon(self));
            Check.outcome(() -> fix.send(self, 1000));
            Check.outcome(() -> fix.again(self, 1));
            Check.outcome(() -> fix.deliver(2));
            Check.outcome(() -> fix.lose(-1));
            fix.endDay();
        });
    }

    /** Promise 10 names no exception: no state refuses a tick. */
    private static void tick() {
        for (Situation situation : situations()) {
            check.allowed("tick of " + situation.name, situation.make, Fix::tick);
        }
    }
}
