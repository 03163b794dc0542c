/** Promises 6 to 10: send, again, deliver, lose, tick. (What they refuse is in RefusalsTest.) */
public final class MessagesTest {
    private static final Check check = new Check();

    public static void main(String[] args) {
        for (int self = 0; self < 2; self++) {
            sendAnswersItsNumber(self);
            sendToAnyState(self);
            againAnswersTheNewNumber(self);
            againBehindALogon(self);
            againOfWhatWasLost(self);
            kindsDelivered(self);
            deliverTakesTheFirst(self);
            kindsLost(self);
            loseChangesNothingElse(self);
            tickOfBothSides(self);
            whatTheTimeIs(self);
        }
        check.end();
    }

    private static void sendAnswersItsNumber(int self) {
        check.sentence("send: Sends a BUSINESS message. Returns its number");
        Fix fix = Make.bothOn();
        check.same("the first", fix.send(self, 31), 2);
        check.same("the second", fix.send(self, 32), 3);
        check.same("one of the other", fix.send(1 - self, 33), 2);
        check.same("the third", fix.send(self, 31), 4);
        check.same("on the wire", Check.wire(fix, 1 - self), "2 BUSINESS 31, 3 BUSINESS 32, 4 BUSINESS 31");
        check.same("on the other wire", Check.wire(fix, self), "2 BUSINESS 33");
        check.same("next numbers", fix.next(self) * 10 + fix.next(1 - self), 53);
        check.same("it is not handled by the side itself", fix.handled(self), 0);
    }

    private static void sendToAnyState(int self) {
        check.sentence("send: Sends a BUSINESS message. Returns its number");
        Fix fix = Make.onByAnAsk(self);
        check.same("to a WAITING side", fix.send(self, 5), 2);
        check.same("behind the LOGON", Check.wire(fix, 1 - self), "1 LOGON, 2 BUSINESS 5");
        Make.deliverAll(fix, 1 - self);
        check.same("which makes it ON ahead of it", Check.keys(fix, 1 - self), "5");
        fix.crash(1 - self);
        check.same("to an OFF side", fix.send(self, 6), 3);
    }

    private static void againAnswersTheNewNumber(int self) {
        check.sentence("again: once more, as a new one that is a possible double. Returns the new number");
        Fix fix = Make.bothOn();
        fix.send(self, 31);
        fix.send(self, 32);
        check.same("again of 2", fix.again(self, 2), 4);
        check.same("again of 3", fix.again(self, 3), 5);
        check.same("again of one sent again", fix.again(self, 4), 6);
        check.same("again of 2 once more", fix.again(self, 2), 7);
        check.same("on the wire", Check.wire(fix, 1 - self), "2 BUSINESS 31, 3 BUSINESS 32, 4 BUSINESS 31 P, "
                + "5 BUSINESS 32 P, 6 BUSINESS 31 P, 7 BUSINESS 31 P");
        Make.deliverAll(fix, 1 - self);
        check.same("the other", Check.plain(fix, 1 - self),
                "state 2 next 2 expected 8 asking false wire:  handled: 31 32 doubles 4 agreed 2");
    }

    private static void againBehindALogon(int self) {
        check.sentence("again: Sends a BUSINESS message that a side sent before");
        Fix fix = Make.bothOn();
        fix.send(self, 31);
        fix.crash(self);
        fix.logon(self);
        fix.deliver(1 - self);
        fix.deliver(self);
        check.same("what was sent ahead of a crash", fix.again(self, 2), 4);
        check.same("its text", Check.lastText(fix, 1 - self), "4 BUSINESS 31 P");
    }

    private static void againOfWhatWasLost(int self) {
        check.sentence("again: Sends a BUSINESS message that a side sent before");
        Fix fix = Make.bothOn();
        fix.send(self, 31);
        fix.lose(1 - self);
        check.same("again of a lost one", fix.again(self, 2), 3);
        fix.deliver(1 - self);
        check.same("behind a gap it is neither handled nor a double", fix.handled(1 - self) + fix.doubles(1 - self), 0);
        fix.deliver(self);
        check.same("resent as they are", Check.wire(fix, 1 - self), "2 BUSINESS 31 D, 3 BUSINESS 31 D P");
        Make.deliverAll(fix, 1 - self);
        check.same("handled once", Check.plain(fix, 1 - self),
                "state 2 next 3 expected 4 asking false wire:  handled: 31 doubles 1 agreed 1");
    }

    /** On the wire to the side are messages of all kinds but LOGON; it is ON and expects the first of them. */
    private static Fix allKinds(int self) {
        Fix fix = Make.bothOn();
        Make.ticks(fix, 3);
        fix.lose(self);
        fix.lose(1 - self);
        fix.send(1 - self, 1);
        fix.deliver(self);
        fix.deliver(1 - self);
        Make.ticks(fix, 5);
        fix.logout(1 - self);
        check.same("on the wire", Check.wire(fix, self),
                "2 FILL 3 D, 3 BUSINESS 1 D, 4 RESEND 2, 5 HEARTBEAT, 6 TEST, 7 LOGOUT");
        return fix;
    }

    private static void kindsDelivered(int self) {
        check.sentence("deliver: Returns the kind of the message");
        check.same("LOGON", Make.waiting(1 - self).deliver(self), SessionFix.LOGON);
        int[] kinds = {SessionFix.FILL, SessionFix.BUSINESS, SessionFix.RESEND, SessionFix.HEARTBEAT, SessionFix.TEST,
            SessionFix.LOGOUT};
        Fix on = allKinds(self);
        Fix off = allKinds(self);
        off.crash(self);
        for (int kind : kinds) {
            check.same("deliver to an ON side", on.deliver(self), kind);
            check.same("deliver to an OFF side", off.deliver(self), kind);
        }
        check.same("nothing is left", on.wire(self) + off.wire(self), 0);
    }

    private static void deliverTakesTheFirst(int self) {
        check.sentence("deliver: Lets the first message on the wire come to a side");
        Fix fix = Make.onTheWire(self, 3);
        fix.send(self, 9);
        fix.deliver(self);
        check.same("the first has come", Check.keys(fix, self), "0");
        check.same("the others are there yet", Check.wire(fix, self), "3 BUSINESS 1, 4 BUSINESS 2");
        check.same("the other wire stays", Check.wire(fix, 1 - self), "2 BUSINESS 9");
        check.same("and the other side", Check.plain(fix, 1 - self),
                "state 2 next 5 expected 2 asking false wire: 2 handled:  doubles 0 agreed 0");
    }

    private static void kindsLost(int self) {
        check.sentence("lose: Returns the kind of the message");
        check.same("LOGON", Make.waiting(1 - self).lose(self), SessionFix.LOGON);
        int[] kinds = {SessionFix.FILL, SessionFix.BUSINESS, SessionFix.RESEND, SessionFix.HEARTBEAT, SessionFix.TEST,
            SessionFix.LOGOUT};
        Fix fix = allKinds(self);
        String due = Check.plain(fix, self).replaceFirst("wire: [0-9 ]* handled", "wire:  handled");
        for (int kind : kinds) {
            check.same("lose", fix.lose(self), kind);
        }
        check.same("nothing has come of them", Check.plain(fix, self), due);
    }

    private static void loseChangesNothingElse(int self) {
        check.sentence("lose: Loses the first message on the wire to a side");
        Fix fix = Make.onTheWire(self, 3);
        fix.send(self, 9);
        check.same("lose", fix.lose(self), SessionFix.BUSINESS);
        check.same("the others are there yet", Check.wire(fix, self), "3 BUSINESS 1, 4 BUSINESS 2");
        check.same("the other wire stays", Check.wire(fix, 1 - self), "2 BUSINESS 9");
        check.same("the side knows nothing of it", Check.plain(fix, self),
                "state 2 next 3 expected 2 asking false wire: 3 4 handled:  doubles 0 agreed 0");
        check.same("nor does the other", Check.plain(fix, 1 - self),
                "state 2 next 5 expected 2 asking false wire: 2 handled:  doubles 0 agreed 0");
        Fix last = Make.bothOn();
        last.send(1 - self, 1);
        last.lose(self);
        Make.ticks(last, 2);
        check.same("a lost last one is no gap", last.isAsking(self), false);
        last.tick();
        last.deliver(self);
        check.same("until another comes", last.isAsking(self), true);
    }

    private static void tickOfBothSides(int self) {
        check.sentence("tick: Lets a tick pass");
        Fix fix = Make.bothOn();
        fix.tick();
        fix.send(self, 1);
        fix.deliver(1 - self);
        Make.ticks(fix, 2);
        check.same("3 ticks of the other alone", Check.wire(fix, self) + "/" + Check.wire(fix, 1 - self), "2 HEARTBEAT/");
        fix.tick();
        check.same("then of the side", Check.wire(fix, self) + "/" + Check.wire(fix, 1 - self),
                "2 HEARTBEAT/3 HEARTBEAT");
        fix.tick();
        check.same("5 ticks of the side, 4 of the other", Check.wire(fix, self) + "/" + Check.wire(fix, 1 - self),
                "2 HEARTBEAT/3 HEARTBEAT, 4 TEST");
        fix.tick();
        check.same("5 ticks of the other", Check.wire(fix, self), "2 HEARTBEAT, 3 TEST");
        Make.ticks(fix, 2);
        check.same("8 ticks of the side alone", fix.stateOf(self) * 10 + fix.stateOf(1 - self), 2);
        fix.tick();
        check.same("then of the other", fix.stateOf(self) * 10 + fix.stateOf(1 - self), 0);
    }

    private static void whatTheTimeIs(int self) {
        check.sentence("tick: Returns the time then");
        Fix fix = new Fix();
        check.same("when OFF", fix.tick(), 1);
        fix.logon(self);
        check.same("when WAITING", fix.tick(), 2);
        fix.deliver(1 - self);
        fix.deliver(self);
        check.same("when ON", fix.tick(), 3);
        fix.crash(self);
        fix.crash(1 - self);
        check.same("behind a crash", fix.tick(), 4);
        fix.endDay();
        check.same("behind a day", fix.tick(), 5);
    }
}
