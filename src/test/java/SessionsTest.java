/** Promises 1 to 5: a new object, logon, logout, crash, endDay. (What they refuse is in RefusalsTest.) */
public final class SessionsTest {
    private static final String EMPTY = "state 0 next 1 expected 1 asking false wire:  handled:  doubles 0 agreed 0";
    private static final Check check = new Check();

    public static void main(String[] args) {
        newObject();
        for (int self = 0; self < 2; self++) {
            logonAnswersItsNumber(self);
            logonOfBothSides(self);
            logoutSendsAndIsOff(self);
            crashTellsWhetherItWasOn(self);
            crashLeavesStoreAndWires(self);
            dayWithNothing(self);
            dayCountsWhatWasSent(self);
            dayCountsNoResends(self);
            dayEmptiesAll(self);
            newDay(self);
        }
        check.end();
    }

    private static void newObject() {
        check.sentence("Two sides that are OFF, with empty stores and wires, at the time 0");
        Fix fix = new Fix();
        check.same("side 0", Check.plain(fix, 0), EMPTY);
        check.same("side 1", Check.plain(fix, 1), EMPTY);
        check.same("the first tick", fix.tick(), 1);
        Fix other = new Fix();
        other.logon(0);
        check.same("objects have nothing in common", fix.wire(1) + fix.stateOf(0), 0);
    }

    private static void logonAnswersItsNumber(int self) {
        check.sentence("logon: Returns the number of its LOGON");
        Fix fix = new Fix();
        for (int number = 1; number <= 12; number++) {
            check.same("logon", fix.logon(self), number);
            check.same("on the wire alone", Check.wire(fix, 1 - self), number + " LOGON");
            check.same("state", fix.stateOf(self), SessionFix.WAITING);
            fix.crash(self);
        }
        check.same("the other has sent nothing", Check.plain(fix, 1 - self).replaceFirst("wire: 12", "wire: "), EMPTY);
    }

    private static void logonOfBothSides(int self) {
        check.sentence("logon: Lets a side log on");
        Fix fix = Make.waiting(self);
        check.same("logon of the other", fix.logon(1 - self), 1);
        check.same("both wait", fix.stateOf(0) * 10 + fix.stateOf(1), 11);
        check.same("the first LOGON is gone", fix.wire(1 - self), 0);
        check.same("the second is there", Check.wire(fix, self), "1 LOGON");
        fix.deliver(self);
        fix.deliver(1 - self);
        check.same("both are ON", fix.stateOf(0) * 10 + fix.stateOf(1), 22);
        check.same("what was emptied away is a gap", Check.wire(fix, self), "2 RESEND 1");
        fix.deliver(self);
        fix.deliver(1 - self);
        check.same("and is filled over", fix.expected(1 - self), 3);
    }

    private static void logoutSendsAndIsOff(int self) {
        check.sentence("logout: it sends a LOGOUT, and becomes OFF");
        Fix fix = Make.bothOn();
        fix.send(1 - self, 3);
        fix.send(self, 4);
        check.same("logout", fix.logout(self), 3);
        check.same("state", fix.stateOf(self), SessionFix.OFF);
        check.same("the LOGOUT is behind the others", Check.wire(fix, 1 - self), "2 BUSINESS 4, 3 LOGOUT");
        check.same("its own wire stays", Check.wire(fix, self), "2 BUSINESS 3");
        check.same("the other is ON yet", fix.stateOf(1 - self), SessionFix.ON);
        check.same("next", fix.next(self), 4);
        check.same("a logon behind it", fix.logon(self), 4);
        Fix ask = Make.onByAnAsk(self);
        check.same("logout of one ON by an ask", ask.logout(self), 2);
        check.same("behind its answer", Check.wire(ask, 1 - self), "1 LOGON, 2 LOGOUT");
    }

    private static void crashTellsWhetherItWasOn(int self) {
        check.sentence("crash: Returns whether it was ON");
        check.same("OFF", new Fix().crash(self), false);
        check.same("WAITING", Make.waiting(self).crash(self), false);
        check.same("the other WAITING", Make.waiting(1 - self).crash(self), false);
        check.same("ON by an ask", Make.onByAnAsk(self).crash(self), true);
        check.same("the other ON", Make.onByAnAsk(1 - self).crash(self), false);
        Fix fix = Make.bothOn();
        check.same("ON by an answer", fix.crash(self), true);
        check.same("once more", fix.crash(self), false);
        check.same("the other", fix.crash(1 - self), true);
        Fix waiting = Make.waiting(self);
        waiting.crash(self);
        check.same("a WAITING side becomes OFF", waiting.stateOf(self), SessionFix.OFF);
        check.same("behind a logout", loggedOut(self).crash(self), false);
        Fix silent = Make.bothOn();
        Make.ticks(silent, 8);
        check.same("behind 8 ticks", silent.crash(self), false);
    }

    private static Fix loggedOut(int side) {
        Fix fix = Make.bothOn();
        fix.logout(side);
        return fix;
    }

    private static void crashLeavesStoreAndWires(int self) {
        check.sentence("crash: it becomes OFF; its store stays");
        Fix fix = Make.bothOn();
        fix.send(1 - self, 7);
        fix.again(1 - self, 2);
        Make.deliverAll(fix, self);
        Make.gap(fix, self);
        fix.send(1 - self, 9);
        fix.crash(self);
        check.same("the side", Check.plain(fix, self),
                "state 0 next 3 expected 4 asking false wire: 6 handled: 7 doubles 1 agreed 1");
        check.same("its wires", Check.wire(fix, self) + " / " + Check.wire(fix, 1 - self), "6 BUSINESS 9 / 2 RESEND 4");
        check.same("the other", Check.plain(fix, 1 - self),
                "state 2 next 7 expected 2 asking false wire: 2 handled:  doubles 0 agreed 0");
    }

    private static void dayWithNothing(int self) {
        check.sentence("endDay: Returns how many messages both sides sent in the day");
        Fix fix = new Fix();
        check.same("a new object", fix.endDay(), 0);
        check.same("once more", fix.endDay(), 0);
        fix.logon(self);
        fix.crash(self);
        check.same("a LOGON alone", fix.endDay(), 1);
        check.same("counted but once", fix.endDay(), 0);
    }

    private static void dayCountsWhatWasSent(int self) {
        check.sentence("endDay: Returns how many messages both sides sent in the day");
        Fix fix = Make.bothOn();
        fix.send(self, 1);
        fix.send(self, 2);
        fix.again(self, 2);
        fix.lose(1 - self);
        Make.ticks(fix, 5);
        fix.logout(self);
        fix.crash(1 - self);
        check.same("of all kinds, lost ones too", fix.endDay(), 7 + 3);
        Fix full = Make.onTheWire(self, 70);
        full.crash(0);
        full.crash(1);
        check.same("those that a full wire lost, too", full.endDay(), 72);
    }

    private static void dayCountsNoResends(int self) {
        check.sentence("endDay: Returns how many messages both sides sent in the day");
        Fix fix = Make.asking(self);
        fix.deliver(1 - self);
        Make.deliverAll(fix, self);
        fix.crash(0);
        fix.crash(1);
        check.same("no message twice", fix.endDay(), 3 + 2);
    }

    private static void dayEmptiesAll(int self) {
        check.sentence("endDay: stores and wires are emptied, next and expected numbers are 1, doubles are 0");
        Fix fix = Make.busy(self);
        fix.deliver(self);
        fix.deliver(1 - self);
        fix.send(self, 1);
        fix.send(1 - self, 2);
        fix.again(self, 2);
        Make.deliverAll(fix, 1 - self);
        Make.deliverAll(fix, self);
        fix.send(self, 3);
        fix.send(1 - self, 4);
        check.same("there are doubles", fix.doubles(0) + fix.doubles(1) > 0, true);
        check.same("keys on both sides", fix.handled(0) > 0 && fix.handled(1) > 0, true);
        check.same("and messages on both wires", fix.wire(0) > 0 && fix.wire(1) > 0, true);
        fix.crash(0);
        fix.crash(1);
        fix.endDay();
        check.same("side 0", Check.plain(fix, 0), EMPTY);
        check.same("side 1", Check.plain(fix, 1), EMPTY);
        check.same("the time goes on", fix.tick(), 3);
    }

    private static void newDay(int self) {
        check.sentence("endDay: Ends the day");
        Fix fix = Make.bothOn();
        fix.send(self, 7);
        fix.deliver(1 - self);
        fix.logout(self);
        fix.crash(1 - self);
        check.same("the day", fix.endDay(), 4);
        check.same("logon", fix.logon(self), 1);
        fix.deliver(1 - self);
        fix.deliver(self);
        check.same("send", fix.send(self, 8), 2);
        check.same("again of the new day's message", fix.again(self, 2), 3);
        check.same("send of a key of the day ahead", fix.send(self, 7), 4);
        check.same("on the wire", Check.wire(fix, 1 - self), "2 BUSINESS 8, 3 BUSINESS 8 P, 4 BUSINESS 7");
        Make.deliverAll(fix, 1 - self);
        check.same("the new day knows no old keys", Check.plain(fix, 1 - self),
                "state 2 next 2 expected 5 asking false wire:  handled: 8 7 doubles 1 agreed 2");
    }
}
