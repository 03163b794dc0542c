/**
 * The sentences of the document's Terms on logging on, numbers, handling and
 * resends, each with its edges: a number just expected, just above, just
 * below; each state of a side; each kind of message. (The numbers of the Terms
 * are in LimitsTest.)
 */
public final class TermsTest {
    private static final Check check = new Check();

    public static void main(String[] args) {
        for (int self = 0; self < 2; self++) {
            storeOutlives(self);
            wireKeepsOrder(self);
            logonEmptiesBothWires(self);
            logonThatAsksAnOffSide(self);
            logonThatAsksAWaitingSide(self);
            logonThatAsksAnOnSide(self);
            logonThatAsksWhileAResendWaits(self);
            logonThatAnswersAWaitingSide(self);
            logonThatAnswersAnOffSide(self);
            othersToAnOffSide(self);
            othersToAWaitingSide(self);
            doubleToAnOffSide(self);
            numberThatIsExpected(self);
            expectedEndsTheWait(self);
            numberThatIsGreater(self);
            greaterWhileAResendWaits(self);
            sentAgainThatIsGreater(self);
            resendThatIsGreater(self);
            offHasNoneWaiting(self);
            numberThatIsLess(self);
            fillThatIsLess(self);
            lessLeavesTheWait(self);
            heartbeatIsNothingMore(self);
            testIsAnswered(self);
            resendIsAnswered(self);
            logoutIsAnswered(self);
            businessByItsKey(self);
            possibleDoubles(self);
            possibleDoubleSentAgain(self);
            resendFromEachNumber(self);
            resendWithFillsBetween(self);
            resendUpToTheLastSoFar(self);
            resendToldTo201(self);
            fillsAreNotKept(self);
            fillAtAFullWire(self);
        }
        check.end();
    }

    // ---- stores and wires

    private static void storeOutlives(int self) {
        check.sentence("Each has a store, which outlives everything but the end of a day");
        String store = "next 3 expected 4 handled: 5 6 doubles 0";
        Fix crash = stored(self);
        crash.crash(self);
        check.same("behind a crash", storeOf(crash, self), store);
        Fix silent = stored(self);
        Make.ticks(silent, 2);
        silent.crash(1 - self);
        Make.ticks(silent, 6);
        check.same("OFF by silence", silent.stateOf(self), SessionFix.OFF);
        check.same("behind silence", storeOf(silent, self), "next 5 expected 4 handled: 5 6 doubles 0");
        Fix logout = stored(self);
        logout.logout(self);
        check.same("behind a logout", storeOf(logout, self), "next 4 expected 4 handled: 5 6 doubles 0");
        logout.logon(self);
        check.same("behind a logon", storeOf(logout, self), "next 5 expected 4 handled: 5 6 doubles 0");
        Fix comes = stored(self);
        comes.logout(1 - self);
        comes.deliver(self);
        check.same("behind a LOGOUT", storeOf(comes, self), "next 4 expected 5 handled: 5 6 doubles 0");
        comes.logon(self);
        comes.deliver(1 - self);
        comes.deliver(self);
        check.same("what was sent is there yet", comes.again(self, 2), 5);
        comes.crash(self);
        comes.crash(1 - self);
        comes.endDay();
        check.same("behind the day", storeOf(comes, self), "next 1 expected 1 handled:  doubles 0");
    }

    /** The side has sent one BUSINESS message and handled two. */
    private static Fix stored(int self) {
        Fix fix = Make.bothOn();
        fix.send(self, 4);
        fix.send(1 - self, 5);
        fix.send(1 - self, 6);
        Make.deliverAll(fix, self);
        return fix;
    }

    private static String storeOf(Fix fix, int side) {
        return "next " + fix.next(side) + " expected " + fix.expected(side) + " handled: " + Check.keys(fix, side)
                + " doubles " + fix.doubles(side);
    }

    private static void wireKeepsOrder(int self) {
        check.sentence("A wire keeps its messages in order");
        Fix fix = Make.onTheWire(self, 4);
        check.same("as they were sent", Check.numbers(fix, self), "2 3 4 5");
        check.same("the first one comes", fix.deliver(self), SessionFix.BUSINESS);
        check.same("its key", Check.keys(fix, self), "0");
        check.same("the first one is lost", fix.lose(self), SessionFix.BUSINESS);
        check.same("the others stay in order", Check.numbers(fix, self), "4 5");
        fix.send(1 - self, 9);
        check.same("the new one is behind them", Check.numbers(fix, self), "4 5 6");
    }

    // ---- logging on

    private static void logonEmptiesBothWires(int self) {
        check.sentence("logon() empties both wires, the side is WAITING, and sends a LOGON that asks");
        Fix fix = Make.bothOn();
        for (int key = 0; key < 60; key++) {
            fix.send(self, key);
            fix.send(1 - self, key);
        }
        fix.crash(self);
        check.same("both are full", fix.wire(0) + fix.wire(1), 120);
        check.same("logon", fix.logon(self), 62);
        check.same("to itself", fix.wire(self), 0);
        check.same("to the other", Check.wire(fix, 1 - self), "62 LOGON");
        check.same("state", fix.stateOf(self), SessionFix.WAITING);
        check.same("the other stays ON", fix.stateOf(1 - self), SessionFix.ON);
        check.same("nothing else of it changes", fix.next(1 - self) * 10 + fix.expected(1 - self), 622);
        fix.deliver(1 - self);
        check.same("it asks", Check.text(fix, self, 0), "62 LOGON");
    }

    private static void logonThatAsksAnOffSide(int self) {
        check.sentence("by one that asks, the side becomes ON, has no resend waiting, and sends a LOGON that answers");
        Fix equal = Make.waiting(1 - self);
        check.same("kind", equal.deliver(self), SessionFix.LOGON);
        check.same("an OFF side, expected", Check.plain(equal, self),
                "state 2 next 2 expected 2 asking false wire:  handled:  doubles 0 agreed 0");
        check.same("the answer", Check.wire(equal, 1 - self), "1 LOGON");
        check.same("the one that asked waits on", equal.stateOf(1 - self), SessionFix.WAITING);

        Fix greater = Make.waiting(1 - self);
        greater.crash(1 - self);
        greater.logon(1 - self);
        greater.deliver(self);
        check.same("an OFF side, greater", Check.plain(greater, self),
                "state 2 next 3 expected 1 asking true wire:  handled:  doubles 0 agreed 0");
        check.same("the answer first, then the RESEND", Check.wire(greater, 1 - self), "1 LOGON, 2 RESEND 1");
    }

    private static void logonThatAsksAWaitingSide(int self) {
        check.sentence("by one that asks, the side becomes ON, has no resend waiting, and sends a LOGON that answers");
        Fix equal = Make.waiting(self);
        equal.logon(1 - self);
        equal.deliver(self);
        check.same("a WAITING side, expected", Check.plain(equal, self),
                "state 2 next 3 expected 2 asking false wire:  handled:  doubles 0 agreed 0");
        check.same("the answer", Check.wire(equal, 1 - self), "2 LOGON");
        equal.deliver(1 - self);
        check.same("the answer is behind a gap", Check.wire(equal, self), "2 RESEND 1");
        check.same("but makes the other ON", equal.stateOf(1 - self), SessionFix.ON);

        Fix greater = Make.waiting(1 - self);
        greater.crash(1 - self);
        greater.logon(self);
        greater.logon(1 - self);
        greater.deliver(self);
        check.same("a WAITING side, greater", Check.plain(greater, self),
                "state 2 next 4 expected 1 asking true wire:  handled:  doubles 0 agreed 0");
        check.same("the answer first, then the RESEND", Check.wire(greater, 1 - self), "2 LOGON, 3 RESEND 1");
    }

    private static void logonThatAsksAnOnSide(int self) {
        check.sentence("by one that asks, the side becomes ON, has no resend waiting, and sends a LOGON that answers");
        Fix equal = Make.bothOn();
        equal.crash(1 - self);
        equal.logon(1 - self);
        equal.deliver(self);
        check.same("an ON side, expected", Check.plain(equal, self),
                "state 2 next 3 expected 3 asking false wire:  handled:  doubles 0 agreed 0");
        check.same("the answer", Check.wire(equal, 1 - self), "2 LOGON");

        Fix greater = Make.bothOn();
        greater.send(1 - self, 1);
        greater.crash(1 - self);
        greater.logon(1 - self);
        greater.deliver(self);
        check.same("an ON side, greater", Check.plain(greater, self),
                "state 2 next 4 expected 2 asking true wire:  handled:  doubles 0 agreed 0");
        check.same("the answer first, then the RESEND", Check.wire(greater, 1 - self), "2 LOGON, 3 RESEND 2");
    }

    private static void logonThatAsksWhileAResendWaits(int self) {
        check.sentence("by one that asks, the side becomes ON, has no resend waiting, and sends a LOGON that answers");
        Fix fix = Make.asking(self);
        Make.ticks(fix, 2);
        fix.crash(1 - self);
        fix.logon(1 - self);
        check.same("one is waiting", fix.isAsking(self), true);
        fix.deliver(self);
        check.same("it is none behind the LOGON, so the gap asks anew", Check.wire(fix, 1 - self),
                "3 LOGON, 4 RESEND 2");
        Make.ticks(fix, 3);
        check.same("and waits its own 4 ticks", fix.isAsking(self), true);
        fix.tick();
        check.same("but no more", fix.isAsking(self), false);
    }

    private static void logonThatAnswersAWaitingSide(int self) {
        check.sentence("by one that answers, a WAITING side becomes ON");
        Fix equal = Make.onByAnAsk(1 - self);
        check.same("kind", equal.deliver(self), SessionFix.LOGON);
        check.same("expected", Check.plain(equal, self),
                "state 2 next 2 expected 2 asking false wire:  handled:  doubles 0 agreed 0");
        check.same("it is not answered", equal.wire(1 - self), 0);

        Fix greater = Make.bothOn();
        greater.send(1 - self, 1);
        greater.crash(self);
        greater.logon(self);
        greater.deliver(1 - self);
        greater.deliver(self);
        check.same("greater", Check.plain(greater, self),
                "state 2 next 4 expected 2 asking true wire:  handled:  doubles 0 agreed 0");
        check.same("a RESEND alone", Check.wire(greater, 1 - self), "3 RESEND 2");
    }

    private static void logonThatAnswersAnOffSide(int self) {
        check.sentence("by one that answers, a WAITING side becomes ON");
        Fix equal = Make.onByAnAsk(1 - self);
        equal.crash(self);
        equal.deliver(self);
        check.same("an OFF side looks at the number but stays OFF", Check.plain(equal, self),
                "state 0 next 2 expected 2 asking false wire:  handled:  doubles 0 agreed 0");

        Fix greater = Make.bothOn();
        greater.send(1 - self, 1);
        greater.crash(self);
        greater.logon(self);
        greater.deliver(1 - self);
        greater.crash(self);
        check.sentence("With a LOGON behind what is told of it above, if the side is ON then");
        greater.deliver(self);
        check.same("an OFF side asks for no resend", Check.plain(greater, self),
                "state 0 next 3 expected 2 asking false wire:  handled:  doubles 0 agreed 0");
        check.same("nothing is put on the wire", greater.wire(1 - self), 0);
    }

    private static void othersToAnOffSide(int self) {
        check.sentence("Other messages that come to a side that is not ON are dropped");
        Fix fix = Make.bothOn();
        Make.ticks(fix, 3);
        fix.lose(self);
        fix.lose(1 - self);
        fix.send(1 - self, 1);
        fix.deliver(self);
        fix.deliver(1 - self);
        fix.send(1 - self, 2);
        fix.again(1 - self, 3);
        Make.ticks(fix, 5);
        fix.logout(1 - self);
        check.same("on the wire", Check.wire(fix, self), "2 FILL 3 D, 3 BUSINESS 1 D, 4 RESEND 2, "
                + "5 BUSINESS 2, 6 BUSINESS 1 P, 7 HEARTBEAT, 8 TEST, 9 LOGOUT");
        fix.crash(self);
        Make.loseAll(fix, 1 - self);
        Make.deliverAll(fix, self);
        check.same("all dropped by an OFF side", Check.plain(fix, self),
                "state 0 next 6 expected 2 asking false wire:  handled:  doubles 0 agreed 0");
        check.same("and nothing sent", fix.wire(1 - self), 0);
        Make.ticks(fix, 10);
        check.same("nor later", fix.wire(1 - self), 0);
    }

    private static void othersToAWaitingSide(int self) {
        check.sentence("Other messages that come to a side that is not ON are dropped");
        Fix fix = Make.bothOn();
        fix.crash(self);
        fix.logon(self);
        fix.send(1 - self, 7);
        fix.again(1 - self, 2);
        Make.ticks(fix, 5);
        fix.logout(1 - self);
        check.same("on the wire", Check.wire(fix, self),
                "2 BUSINESS 7, 3 BUSINESS 7 P, 4 HEARTBEAT, 5 TEST, 6 LOGOUT");
        Make.deliverAll(fix, self);
        check.same("all dropped by a WAITING side", Check.plain(fix, self),
                "state 1 next 3 expected 2 asking false wire:  handled:  doubles 0 agreed 0");
        check.same("the LOGON alone is on its wire", Check.wire(fix, 1 - self), "2 LOGON");

        Fix resend = Make.waiting(self);
        resend.crash(self);
        resend.logon(self);
        resend.deliver(1 - self);
        resend.lose(self);
        check.same("a RESEND behind a lost LOGON", resend.deliver(self), SessionFix.RESEND);
        check.same("is dropped", Check.plain(resend, self),
                "state 1 next 3 expected 1 asking false wire:  handled:  doubles 0 agreed 0");
        check.same("and not answered", resend.wire(1 - self), 0);
    }

    private static void doubleToAnOffSide(int self) {
        check.sentence("for messages other than LOGON: that is ON");
        Fix fix = askedTwice(self);
        fix.crash(self);
        Make.deliverAll(fix, self);
        check.same("what is sent again counts as no double when OFF", Check.plain(fix, self).replaceFirst("next \\d+ ", ""),
                "state 0 expected 5 asking false wire:  handled: 1 2 doubles 0 agreed 2");
    }

    // ---- numbers

    private static void numberThatIsExpected(int self) {
        check.sentence("If its number is what the side expects, it expects the next one then, and handles the message");
        Fix fix = Make.onTheWire(self, 3);
        check.same("expected at first", fix.expected(self), 2);
        fix.deliver(self);
        check.same("then the next", fix.expected(self), 3);
        fix.deliver(self);
        check.same("and the next", fix.expected(self), 4);
        check.same("handled", Check.keys(fix, self), "0 1");
        check.same("none was asked for", fix.wire(1 - self), 0);
    }

    private static void expectedEndsTheWait(int self) {
        check.sentence("has no resend waiting any more");
        Fix fix = Make.asking(self);
        fix.deliver(1 - self);
        check.same("on the wire", Check.wire(fix, self), "2 BUSINESS 1 D, 3 BUSINESS 2 D");
        check.same("waiting", fix.isAsking(self), true);
        fix.deliver(self);
        check.same("waits no more with the first, though the gap is not filled", fix.isAsking(self), false);
        fix.lose(self);
        fix.send(1 - self, 3);
        fix.deliver(self);
        check.same("so the next gap asks at once", Check.wire(fix, 1 - self), "3 RESEND 3");

        Fix logon = Make.waiting(1 - self);
        logon.crash(1 - self);
        logon.logon(1 - self);
        logon.deliver(self);
        logon.deliver(1 - self);
        logon.deliver(1 - self);
        check.same("a FILL on the wire", Check.wire(logon, self), "1 FILL 3 D");
        check.same("waiting", logon.isAsking(self), true);
        logon.deliver(self);
        check.same("a FILL ends it, too", logon.isAsking(self), false);
    }

    private static void numberThatIsGreater(int self) {
        check.sentence("If its number is greater, the message is not handled; the side sends a RESEND");
        greater(self, "BUSINESS", SessionFix.BUSINESS, 0);
        greater(self, "HEARTBEAT", SessionFix.HEARTBEAT, 3);
        greater(self, "TEST", SessionFix.TEST, 5);
        Fix logout = Make.bothOn();
        logout.send(1 - self, 1);
        logout.lose(self);
        logout.logout(1 - self);
        check.same("a LOGOUT", logout.deliver(self), SessionFix.LOGOUT);
        check.same("not handled", Check.plain(logout, self),
                "state 2 next 3 expected 2 asking true wire:  handled:  doubles 0 agreed 0");
        check.same("but asked over", Check.wire(logout, 1 - self), "2 RESEND 2");

        Fix fill = Make.asking(self);
        Make.ticks(fill, 3);
        fill.deliver(1 - self);
        check.same("a FILL behind a gap", Check.wire(fill, self),
                "4 HEARTBEAT, 2 BUSINESS 1 D, 3 BUSINESS 2 D, 4 FILL 5 D");
        for (int i = 0; i < 3; i++) {
            fill.lose(self);
        }
        check.same("a FILL", fill.deliver(self), SessionFix.FILL);
        check.same("is not handled", fill.expected(self), 2);
        check.same("nor a double", fill.doubles(self), 0);
    }

    /** A message is lost, then with so many ticks one of this kind is sent, which comes behind the gap. */
    private static void greater(int self, String name, int kind, int ticks) {
        Fix fix = Make.bothOn();
        fix.send(1 - self, 1);
        Make.ticks(fix, ticks);
        if (ticks == 0) {
            fix.send(1 - self, 2);
        }
        int count = fix.wire(self);
        for (int i = 1; i < count; i++) {
            fix.lose(self);
        }
        Make.loseAll(fix, 1 - self);
        int next = fix.next(self);
        check.same("a " + name, fix.deliver(self), kind);
        check.same(name + " behind a gap is not handled", fix.handled(self) * 10 + fix.expected(self), 2);
        check.same(name + " behind a gap makes a RESEND alone", Check.wire(fix, 1 - self), next + " RESEND 2");
        check.same("which is waiting", fix.isAsking(self), true);
    }

    private static void greaterWhileAResendWaits(int self) {
        check.sentence("then, if no resend is waiting, the side sends a RESEND from the number that it expects");
        Fix fix = Make.asking(self);
        fix.send(1 - self, 3);
        fix.send(1 - self, 4);
        Make.deliverAll(fix, self);
        check.same("one RESEND for all", Check.wire(fix, 1 - self), "2 RESEND 2");
        check.same("nothing handled, nothing double", fix.handled(self) + fix.doubles(self), 0);
        Fix none = Make.bothOn();
        none.send(1 - self, 1);
        none.deliver(self);
        none.send(1 - self, 2);
        none.lose(self);
        none.send(1 - self, 3);
        none.deliver(self);
        check.same("from the number that it expects", Check.wire(none, 1 - self), "2 RESEND 3");
    }

    private static void sentAgainThatIsGreater(int self) {
        check.sentence("If its number is greater, the message is not handled: marked as sent again or not");
        Fix fix = Make.asking(self);
        fix.deliver(1 - self);
        fix.lose(self);
        check.same("the second of an answer", Check.wire(fix, self), "3 BUSINESS 2 D");
        fix.deliver(self);
        check.same("is neither handled nor a double, and the RESEND is waiting yet", Check.plain(fix, self),
                "state 2 next 3 expected 2 asking true wire:  handled:  doubles 0 agreed 0");
        check.same("so it makes no RESEND", fix.wire(1 - self), 0);

        Fix late = Make.asking(self);
        late.deliver(1 - self);
        late.lose(self);
        Make.ticks(late, 4);
        Make.loseAll(late, 1 - self);
        late.deliver(self);
        check.same("it makes one when none is waiting", Check.wire(late, 1 - self), "4 RESEND 2");
        check.same("and is no double then either", late.handled(self) + late.doubles(self), 0);
    }

    private static void resendThatIsGreater(int self) {
        check.sentence("but for a LOGON (as told) and a RESEND, which is answered first");
        Fix gap = Make.bothOn();
        gap.send(1 - self, 9);
        gap.lose(self);
        Make.gap(gap, 1 - self);
        check.same("a RESEND behind a gap", Check.wire(gap, self), "3 RESEND 2");
        check.same("kind", gap.deliver(self), SessionFix.RESEND);
        check.same("answered first, then one of its own", Check.wire(gap, 1 - self),
                "2 BUSINESS 1 D, 3 BUSINESS 2 D, 4 RESEND 2");
        check.same("the gap stays", gap.expected(self), 2);
        check.same("and is waiting", gap.isAsking(self), true);

        Fix twice = Make.bothOn();
        twice.send(1 - self, 8);
        twice.send(1 - self, 9);
        twice.send(self, 1);
        twice.send(self, 2);
        twice.lose(self);
        twice.deliver(self);
        twice.lose(1 - self);
        twice.deliver(1 - self);
        twice.lose(1 - self);
        check.same("asking already", twice.isAsking(self), true);
        twice.deliver(self);
        check.same("answered, and asked no second time", Check.wire(twice, 1 - self),
                "2 BUSINESS 1 D, 3 BUSINESS 2 D, 4 FILL 5 D");
    }

    private static void offHasNoneWaiting(int self) {
        check.sentence("A side that becomes OFF has none waiting");
        Fix crash = Make.asking(self);
        check.same("waiting", crash.isAsking(self), true);
        crash.crash(self);
        check.same("crash", crash.isAsking(self), false);
        Fix logout = Make.asking(self);
        logout.logout(self);
        check.same("logout", logout.isAsking(self), false);
        Fix again = Make.asking(self);
        again.crash(self);
        again.logon(self);
        again.deliver(1 - self);
        check.same("none behind a logon", again.isAsking(self), false);
        again.deliver(self);
        check.same("the gap asks anew though 4 ticks have not passed", Check.wire(again, 1 - self), "4 RESEND 2");
    }

    private static void numberThatIsLess(int self) {
        check.sentence("If its number is less: if it is marked as sent again, it is dropped, and counts as a double");
        Fix fix = askedTwice(self);
        check.same("all has come", Check.plain(fix, self).replaceFirst("next \\d+ ", ""),
                "state 2 expected 5 asking false wire: 2 3 4 handled: 1 2 doubles 0 agreed 2");
        check.same("a BUSINESS message", fix.deliver(self), SessionFix.BUSINESS);
        check.same("is a double", fix.doubles(self), 1);
        check.same("one just below", fix.lose(self) * 10 + fix.doubles(self), 51);
        check.same("a FILL", fix.deliver(self), SessionFix.FILL);
        check.same("is a double, too", fix.doubles(self), 2);
        check.same("dropped", Check.keys(fix, self) + " expected " + fix.expected(self), "1 2 expected 5");
        check.same("ON yet", fix.stateOf(self), SessionFix.ON);
        check.same("doubles of the other", fix.doubles(1 - self), 0);
    }

    private static void fillThatIsLess(int self) {
        check.sentence("If its number is less: if it is marked as sent again, it is dropped, and counts as a double");
        Fix fix = Make.waiting(1 - self);
        fix.crash(1 - self);
        fix.logon(1 - self);
        fix.deliver(self);
        fix.deliver(1 - self);
        Make.ticks(fix, 4);
        fix.deliver(self);
        fix.deliver(1 - self);
        fix.deliver(1 - self);
        Make.ticks(fix, 3);
        fix.deliver(1 - self);
        check.same("two answers", Check.wire(fix, self), "1 FILL 4 D, 4 HEARTBEAT, 1 FILL 5 D");
        fix.deliver(self);
        fix.lose(self);
        check.same("by a FILL the number that it tells", fix.expected(self), 4);
        fix.deliver(self);
        check.same("a FILL that is too low, though it tells more than is expected", fix.expected(self), 4);
        check.same("is a double", fix.doubles(self), 1);
    }

    private static void lessLeavesTheWait(int self) {
        check.sentence("If its number is less: if it is marked as sent again, it is dropped, and counts as a double");
        Fix fix = askedTwiceOneOpen(self);
        fix.send(1 - self, 3);
        fix.send(1 - self, 4);
        fix.lose(self);
        Make.deliverAll(fix, 1 - self);
        fix.deliver(self);
        check.same("on the wire", Check.numbers(fix, self), "2 3 4 5 6");
        check.same("a new gap is waiting", fix.isAsking(self), true);
        fix.deliver(self);
        check.same("a double ends no wait", fix.isAsking(self), true);
        check.same("and is one", fix.doubles(self), 1);
        check.same("it makes no RESEND", fix.wire(1 - self), 1);
    }

    /** The side asked twice for 2, 3, 4; all has come, and the second RESEND is on the wire to the other. */
    private static Fix askedTwiceOneOpen(int self) {
        Fix fix = Make.asking(self);
        Make.ticks(fix, 4);
        Make.deliverAll(fix, 1 - self);
        fix.deliver(self);
        Make.deliverAll(fix, self);
        return fix;
    }

    /** As askedTwiceOneOpen(), but the second answer is on the wire to the side. */
    private static Fix askedTwice(int self) {
        Fix fix = askedTwiceOneOpen(self);
        Make.deliverAll(fix, 1 - self);
        return fix;
    }

    // ---- to handle

    private static void heartbeatIsNothingMore(int self) {
        check.sentence("a HEARTBEAT is nothing more");
        Fix fix = Make.bothOn();
        Make.ticks(fix, 3);
        fix.deliver(self);
        check.same("the side", Check.plain(fix, self),
                "state 2 next 3 expected 3 asking false wire:  handled:  doubles 0 agreed 0");
        check.same("sent but its own", Check.wire(fix, 1 - self), "2 HEARTBEAT");
    }

    private static void testIsAnswered(int self) {
        check.sentence("to a TEST the side sends a HEARTBEAT");
        Fix fix = Make.bothOn();
        Make.ticks(fix, 5);
        Make.loseAll(fix, 1 - self);
        fix.deliver(self);
        check.same("none to a HEARTBEAT", fix.wire(1 - self), 0);
        check.same("a TEST", fix.deliver(self), SessionFix.TEST);
        check.same("its answer", Check.wire(fix, 1 - self), "4 HEARTBEAT");
        check.same("the side", Check.plain(fix, self),
                "state 2 next 5 expected 4 asking false wire:  handled:  doubles 0 agreed 0");
    }

    private static void resendIsAnswered(int self) {
        check.sentence("a RESEND is answered");
        Fix fix = Make.asking(1 - self);
        check.same("a RESEND that is expected", fix.deliver(self), SessionFix.RESEND);
        check.same("its answer alone", Check.wire(fix, 1 - self), "2 BUSINESS 1 D, 3 BUSINESS 2 D");
        check.same("the side", Check.plain(fix, self),
                "state 2 next 4 expected 3 asking false wire:  handled:  doubles 0 agreed 0");
    }

    private static void logoutIsAnswered(int self) {
        check.sentence("by a LOGOUT the side sends a LOGOUT, and becomes OFF");
        Fix fix = Make.bothOn();
        fix.logout(1 - self);
        check.same("the one that logs out is OFF at once", fix.stateOf(1 - self), SessionFix.OFF);
        check.same("a LOGOUT", fix.deliver(self), SessionFix.LOGOUT);
        check.same("the side", Check.plain(fix, self),
                "state 0 next 3 expected 3 asking false wire:  handled:  doubles 0 agreed 0");
        check.same("its LOGOUT", Check.wire(fix, 1 - self), "2 LOGOUT");
        fix.deliver(1 - self);
        check.same("dropped by the OFF one, not answered", fix.wire(self) + fix.expected(1 - self), 2);

        Fix both = Make.bothOn();
        both.logout(self);
        both.logout(1 - self);
        both.deliver(self);
        both.deliver(1 - self);
        check.same("LOGOUTs that cross are dropped", both.wire(0) + both.wire(1), 0);
        check.same("so they are gaps later", both.expected(0) + both.expected(1), 4);
    }

    private static void businessByItsKey(int self) {
        check.sentence("A BUSINESS message is handled by its key");
        Fix fix = Make.bothOn();
        int[] keys = {7, 7, 0, 999, 7};
        for (int key : keys) {
            fix.send(1 - self, key);
        }
        Make.deliverAll(fix, self);
        check.same("in order, each as often as it is sent anew", Check.keys(fix, self), "7 7 0 999 7");
        check.same("none is a double", fix.doubles(self), 0);
        check.same("nothing is sent for it", fix.wire(1 - self), 0);
    }

    private static void possibleDoubles(int self) {
        check.sentence("one that is a possible double counts as a double instead, if its key has been handled");
        Fix fix = Make.bothOn();
        fix.send(1 - self, 7);
        fix.send(1 - self, 8);
        fix.again(1 - self, 2);
        fix.again(1 - self, 4);
        fix.again(1 - self, 3);
        Make.deliverAll(fix, self);
        check.same("the side", Check.plain(fix, self),
                "state 2 next 2 expected 7 asking false wire:  handled: 7 8 doubles 3 agreed 2");
        fix.send(1 - self, 7);
        fix.deliver(self);
        check.same("one without the mark is handled", Check.keys(fix, self), "7 8 7");
        check.same("and no double", fix.doubles(self), 3);
        // what a side handled itself is no matter
        fix.send(self, 7);
        fix.deliver(1 - self);
        check.same("the other handles the key, too", Check.keys(fix, 1 - self), "7");
        check.same("and has no doubles", fix.doubles(1 - self), 0);
    }

    private static void possibleDoubleSentAgain(int self) {
        check.sentence("each BUSINESS message as it is");
        Fix fix = Make.bothOn();
        fix.send(1 - self, 7);
        fix.again(1 - self, 2);
        fix.send(1 - self, 8);
        fix.lose(self);
        fix.lose(self);
        fix.deliver(self);
        fix.deliver(1 - self);
        check.same("a possible double stays one", Check.wire(fix, self),
                "2 BUSINESS 7 D, 3 BUSINESS 7 D P, 4 BUSINESS 8 D");
        Make.deliverAll(fix, self);
        check.same("the mark as sent again makes no double", Check.keys(fix, self), "7 8");
        check.same("the possible double does", fix.doubles(self), 1);
    }

    // ---- resends

    private static void resendFromEachNumber(int self) {
        check.sentence("A RESEND from a number is answered by all messages in the store from that number on");
        for (int from = 2; from <= 5; from++) {
            Fix fix = Make.onTheWire(self, 5);
            for (int number = 2; number < from; number++) {
                fix.deliver(self);
            }
            for (int number = from; number < 6; number++) {
                fix.lose(self);
            }
            fix.deliver(self);
            check.same("asked", Check.wire(fix, 1 - self), "2 RESEND " + from);
            fix.deliver(1 - self);
            StringBuilder due = new StringBuilder();
            for (int number = from; number <= 6; number++) {
                due.append(number == from ? "" : ", ").append(number).append(" BUSINESS ").append(number - 2);
                due.append(" D");
            }
            check.same("answered from " + from, Check.wire(fix, self), due.toString());
            Make.deliverAll(fix, self);
            check.same("so all has come", Check.keys(fix, self), "0 1 2 3 4");
            check.same("expected", fix.expected(self), 7);
        }
        Fix first = Make.sentAndOff(1 - self, 2);
        first.crash(self);
        first.endDay();
        first.logon(1 - self);
        first.crash(1 - self);
        first.logon(1 - self);
        first.deliver(self);
        Make.deliverAll(first, 1 - self);
        check.same("from the number 1 on, and nothing of the day ahead", Check.wire(first, self), "1 FILL 3 D");
    }

    private static void resendWithFillsBetween(int self) {
        check.sentence("in place of others that follow one another one FILL, with the number of the first of them, "
                + "that tells the number behind the last of them");
        Fix fix = Make.bothOn();
        Make.ticks(fix, 3);
        fix.send(1 - self, 5);
        Make.ticks(fix, 2);
        fix.logout(1 - self);
        fix.logon(1 - self);
        fix.deliver(self);
        fix.deliver(1 - self);
        check.same("both are ON", fix.stateOf(0) + fix.stateOf(1), 4);
        fix.send(1 - self, 6);
        fix.send(1 - self, 7);
        Make.ticks(fix, 3);
        Make.loseAll(fix, self);
        check.same("a RESEND from 2", fix.deliver(1 - self), SessionFix.RESEND);
        check.same("one, some, and one at the end", Check.wire(fix, self), "2 FILL 3 D, 3 BUSINESS 5 D, 4 FILL 8 D, "
                + "8 BUSINESS 6 D, 9 BUSINESS 7 D, 10 FILL 11 D");
        Make.deliverAll(fix, self);
        check.same("all has come", Check.plain(fix, self).replaceFirst("next \\d+ ", ""),
                "state 2 expected 11 asking false wire:  handled: 5 6 7 doubles 0 agreed 3");
    }

    private static void resendUpToTheLastSoFar(int self) {
        check.sentence("up to the last one sent so far");
        Fix fix = Make.asking(self);
        fix.send(1 - self, 3);
        fix.send(1 - self, 4);
        Make.loseAll(fix, self);
        fix.deliver(1 - self);
        check.same("those sent behind the gap, too", Check.wire(fix, self),
                "2 BUSINESS 1 D, 3 BUSINESS 2 D, 4 BUSINESS 3 D, 5 BUSINESS 4 D");
        fix.send(1 - self, 5);
        check.same("but none behind the answer", Check.lastText(fix, self), "6 BUSINESS 5");
        check.same("so much is on the wire", fix.wire(self), 5);
    }

    private static void resendToldTo201(int self) {
        check.sentence("one FILL, with the number of the first of them, that tells the number behind the last of them");
        Fix fix = new Fix();
        for (int number = 1; number <= 199; number++) {
            fix.logon(1 - self);
            fix.crash(1 - self);
        }
        check.same("the 200th LOGON", fix.logon(1 - self), 200);
        fix.deliver(self);
        Make.deliverAll(fix, 1 - self);
        check.same("200 others in one FILL", Check.wire(fix, self), "1 FILL 201 D");
        fix.deliver(self);
        check.same("then 201 is expected", fix.expected(self), 201);
        check.same("and none waits", fix.isAsking(self), false);
        fix.tick();
        check.same("both are ON", fix.stateOf(0) + fix.stateOf(1), 4);
    }

    private static void fillsAreNotKept(int self) {
        check.sentence("These FILLs are not kept in the store");
        Fix fix = Make.waiting(1 - self);
        fix.crash(1 - self);
        fix.logon(1 - self);
        fix.deliver(self);
        fix.deliver(1 - self);
        check.same("next ahead of the answer", fix.next(1 - self), 3);
        fix.deliver(1 - self);
        check.same("the answer", Check.wire(fix, self), "1 FILL 3 D");
        check.same("takes no number", fix.next(1 - self), 3);
        fix.lose(self);
        check.same("the next message", fix.send(1 - self, 5), 3);
        Make.ticks(fix, 4);
        fix.deliver(self);
        fix.lose(self);
        Make.loseAll(fix, self);
        Make.deliverAll(fix, 1 - self);
        check.same("and has no place in the next answer", Check.wire(fix, self),
                "1 FILL 3 D, 3 BUSINESS 5 D, 4 FILL 5 D");
    }

    private static void fillAtAFullWire(int self) {
        check.sentence("put on the wire again: what is put on one with 60 messages is lost");
        for (int sent = 58; sent <= 60; sent++) {
            Fix fix = Make.waiting(1 - self);
            fix.crash(1 - self);
            fix.logon(1 - self);
            fix.deliver(self);
            fix.deliver(1 - self);
            for (int key = 0; key < sent; key++) {
                fix.send(1 - self, key);
            }
            check.same("a RESEND", fix.deliver(1 - self), SessionFix.RESEND);
            check.same("the wire is full", fix.wire(self), 60);
            String last = sent == 58 ? "3 BUSINESS 0 D" : sent == 59 ? "1 FILL 3 D" : "62 BUSINESS 59";
            check.same("the last one on it, of " + sent, Check.lastText(fix, self), last);
        }
    }
}
