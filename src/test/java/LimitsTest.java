/**
 * The numbers that the document's Terms name: 60 messages on a wire, 200
 * messages in a day, keys 0 to 999, and 3, 4, 5 and 8 ticks; at each the last
 * that is within and the first that is beyond, by every call that can reach it.
 */
public final class LimitsTest {
    private static final Check check = new Check();

    public static void main(String[] args) {
        for (int self = 0; self < 2; self++) {
            wireOf60(self);
            fullWireByCalls(self);
            fullWireByAnswers(self);
            fullWireByTicks(self);
            fullWireByAResend(self);
            fullWireIsOfOneSide(self);
            dayOf200(self);
            resendsAreNotCounted(self);
            beyond200ByLogon(self);
            beyond200ByAnswers(self);
            beyond200ByTicks(self);
            newDayOf200(self);
            keys(self);
            resendOf4Ticks(self);
            resendLeftOutWaits(self);
            heartbeatOf3Ticks(self);
            whatIsPut(self);
            testOf5Ticks(self);
            offWith8Ticks(self);
            whatIsHeard(self);
            eachKindIsHeard(self);
            heardByBecomingOn(self);
            ticksOfTheOthers(self);
        }
        timeGrows();
        check.end();
    }

    // ---- 60 messages on a wire

    private static void wireOf60(int self) {
        check.sentence("what is put on one with 60 messages is lost");
        Fix fix = Make.onTheWire(self, 59);
        check.same("59 on the wire", fix.wire(self), 59);
        check.same("the 60th has its number", fix.send(1 - self, 59), 61);
        check.same("60 on the wire", fix.wire(self), 60);
        check.same("the 61st has its number", fix.send(1 - self, 60), 62);
        check.same("60 on the wire yet", fix.wire(self), 60);
        check.same("the first one stays the first", fix.numberAt(self, 0), 2);
        check.same("the 60th stays the last", fix.numberAt(self, 59), 61);
        fix.lose(self);
        check.same("room behind one that is lost", fix.wire(self), 59);
        fix.send(1 - self, 61);
        check.same("the next one is the last then", fix.numberAt(self, 59), 63);
        fix.deliver(self);
        check.same("room behind one that has come", fix.wire(self), 59);
        fix.send(1 - self, 62);
        check.same("and the next", fix.numberAt(self, 59), 64);
        check.same("in their order", fix.numberAt(self, 0) * 100 + fix.numberAt(self, 58), 463);
    }

    private static void fullWireByCalls(int self) {
        check.sentence("what is put on one with 60 messages is lost");
        Fix fix = Make.onTheWire(1 - self, 60);
        check.same("again", fix.again(self, 2), 62);
        check.same("logout", fix.logout(self), 63);
        check.same("both are lost", fix.numberAt(1 - self, 59) * 100 + fix.wire(1 - self), 6160);
        check.same("but numbered", fix.next(self), 64);
        check.same("the LOGOUT made it OFF", fix.stateOf(self), SessionFix.OFF);
        check.same("a LOGON finds emptied wires", fix.logon(self), 64);
        check.same("and is on it", Check.wire(fix, 1 - self), "64 LOGON");
        fix.deliver(1 - self);
        fix.deliver(self);
        fix.deliver(self);
        Make.loseAll(fix, 1 - self);
        fix.send(self, 7);
        fix.deliver(1 - self);
        check.same("what a wire lost is in the store: asked for", fix.expected(1 - self), 2);
        check.same("sent again", fix.again(self, 62), 66);
    }

    /** The other side is ON and has put 60 messages on the wire to this one; then one more comes to it. */
    private static void fullWireByAnswers(int self) {
        check.sentence("what is put on one with 60 messages is lost");
        Fix logon = Make.bothOn();
        logon.crash(self);
        logon.logon(self);
        fill(logon, 1 - self, 60);
        check.same("a LOGON", logon.deliver(1 - self), SessionFix.LOGON);
        lostOn(logon, self, 63);
        check.same("it is ON though the answer is lost", logon.stateOf(1 - self), SessionFix.ON);
        check.same("the side waits on", logon.stateOf(self), SessionFix.WAITING);

        Fix test = Make.bothOn();
        Make.ticks(test, 5);
        Make.loseAll(test, self);
        test.deliver(1 - self);
        fill(test, 1 - self, 60);
        check.same("a TEST", test.deliver(1 - self), SessionFix.TEST);
        lostOn(test, self, 65);

        Fix logout = Make.bothOn();
        logout.logout(self);
        fill(logout, 1 - self, 60);
        check.same("a LOGOUT", logout.deliver(1 - self), SessionFix.LOGOUT);
        lostOn(logout, self, 63);
        check.same("it is OFF though its LOGOUT is lost", logout.stateOf(1 - self), SessionFix.OFF);

        Fix gap = Make.bothOn();
        gap.send(self, 1);
        gap.send(self, 2);
        gap.lose(1 - self);
        fill(gap, 1 - self, 60);
        check.same("a message behind a gap", gap.deliver(1 - self), SessionFix.BUSINESS);
        lostOn(gap, self, 63);
        check.same("a RESEND that is lost is waiting all the same", gap.isAsking(1 - self), true);
    }

    private static void fill(Fix fix, int side, int messages) {
        for (int key = 0; key < messages; key++) {
            fix.send(side, key);
        }
    }

    /** 60 messages are on the wire to the side, but the other side has numbered one more. */
    private static void lostOn(Fix fix, int side, int next) {
        check.same("60 on the wire", fix.wire(side), 60);
        check.same("numbered all the same", fix.next(1 - side), next);
        check.same("the last one is a BUSINESS message", Check.lastText(fix, side), next - 2 + " BUSINESS 59");
    }

    private static void fullWireByTicks(int self) {
        check.sentence("what is put on one with 60 messages is lost");
        Fix fix = Make.onTheWire(1 - self, 60);
        Make.ticks(fix, 2);
        check.same("nothing with 2 ticks", fix.next(self), 62);
        fix.tick();
        check.same("the HEARTBEAT has a number", fix.next(self), 63);
        Make.ticks(fix, 2);
        check.same("the TEST has a number", fix.next(self), 64);
        check.same("both are lost", fix.numberAt(1 - self, 59) * 100 + fix.wire(1 - self), 6160);
        fix.deliver(self);
        Make.ticks(fix, 2);
        check.same("what a full wire loses was put on it: no HEARTBEAT", fix.next(self), 64);
        fix.tick();
        check.same("a HEARTBEAT 3 ticks behind the TEST", fix.next(self), 65);
    }

    private static void fullWireByAResend(int self) {
        check.sentence("what is put on one with 60 messages is lost");
        Fix fix = Make.onTheWire(self, 60);
        fix.send(1 - self, 60);
        fix.lose(self);
        fix.deliver(self);
        check.same("asked", Check.wire(fix, 1 - self), "2 RESEND 2");
        fix.deliver(1 - self);
        check.same("two of the answer have room", fix.wire(self), 60);
        check.same("the first of them", Check.text(fix, self, 58), "2 BUSINESS 0 D");
        check.same("the second of them", Check.text(fix, self, 59), "3 BUSINESS 1 D");

        Fix last = Make.asking(self);
        for (int key = 3; key <= 60; key++) {
            last.send(1 - self, key);
        }
        check.same("58 on the wire", last.wire(self), 58);
        last.deliver(1 - self);
        check.same("of 60 two have room, in order", Check.text(last, self, 58) + Check.text(last, self, 59),
                "2 BUSINESS 1 D3 BUSINESS 2 D");

        Fix fits = Make.asking(self);
        fill(fits, 1 - self, 29);
        fits.lose(self);
        check.same("28 on the wire", fits.wire(self), 28);
        fits.deliver(1 - self);
        check.same("31 sent again fit", fits.wire(self), 59);
        check.same("the last of them", Check.lastText(fits, self), "32 BUSINESS 28 D");
    }

    private static void fullWireIsOfOneSide(int self) {
        check.sentence("what is put on one with 60 messages is lost");
        Fix fix = Make.onTheWire(self, 60);
        for (int i = 0; i < 60; i++) {
            fix.send(self, i);
        }
        check.same("60 on each", fix.wire(self) * 100 + fix.wire(1 - self), 6060);
        fix.send(1 - self, 60);
        fix.send(self, 60);
        check.same("and no more", fix.wire(self) * 100 + fix.wire(1 - self), 6060);
        fix.lose(self);
        fix.send(self, 61);
        check.same("room on the one is none on the other", fix.wire(self) * 100 + fix.wire(1 - self), 5960);
    }

    // ---- 200 messages in a day

    private static void dayOf200(int self) {
        check.sentence("A side can have sent 200 messages in a day");
        check.same("send as the 200th", Make.sent(self, 199).send(self, 0), 200);
        check.same("again as the 200th", Make.sent(self, 199).again(self, 199), 200);
        check.same("logout as the 200th", Make.sent(self, 199).logout(self), 200);
        check.same("logon as the 200th", Make.sentAndOff(self, 199).logon(self), 200);
        check.same("next behind the 200th", Make.sent(self, 200).next(self), 201);
        Fix one = Make.sent(self, 200);
        check.same("the 200 are of one side", one.send(1 - self, 5), 2);
        check.same("and it can say so", Check.wire(one, self), "2 BUSINESS 5");
    }

    private static void resendsAreNotCounted(int self) {
        check.sentence("A side can have sent 200 messages in a day: to send one, a side gives it its next number");
        Fix fix = Make.sent(self, 198);
        fix.send(self, 1);
        fix.deliver(1 - self);
        fix.deliver(self);
        check.same("60 were sent again", fix.wire(1 - self), 60);
        check.same("but not numbered", fix.next(self), 200);
        check.same("the 200th is allowed yet", fix.send(self, 2), 200);
        Fix full = Make.sent(self, 199);
        full.send(self, 998);
        full.deliver(1 - self);
        full.deliver(self);
        check.same("with 200 sent a RESEND is answered all the same", full.wire(1 - self), 60);
        check.same("from the number that it tells", Check.text(full, 1 - self, 0), "2 BUSINESS 2 D");
    }

    private static void beyond200ByLogon(int self) {
        check.sentence("what it would have to send beyond them by deliver() or tick() is left out");
        Fix fix = Make.sent(self, 199);
        fix.crash(1 - self);
        fix.logon(1 - self);
        fix.deliver(self);
        check.same("a LOGON that answers as the 200th", Check.wire(fix, 1 - self), "200 LOGON");
        Fix left = Make.sent(self, 200);
        left.crash(1 - self);
        left.logon(1 - self);
        check.same("a LOGON that asks", left.deliver(self), SessionFix.LOGON);
        check.same("its answer is left out", left.wire(1 - self) + left.next(self), 201);
        check.same("ON all the same", left.stateOf(self), SessionFix.ON);
        check.same("its number is looked at all the same", left.expected(self), 3);
        check.same("the other waits on", left.stateOf(1 - self), SessionFix.WAITING);
        Fix off = Make.sentAndOff(self, 200);
        off.crash(1 - self);
        off.logon(1 - self);
        off.deliver(self);
        check.same("an OFF side becomes ON by it, too", off.stateOf(self), SessionFix.ON);
        check.same("and sends nothing", off.wire(1 - self) + off.next(self), 201);
        Fix gap = Make.sentAndOff(self, 200);
        gap.send(1 - self, 1);
        gap.crash(1 - self);
        gap.logon(1 - self);
        gap.deliver(self);
        check.same("behind a gap it becomes ON as well", gap.stateOf(self), SessionFix.ON);
        check.same("its RESEND is left out, too", gap.wire(1 - self) + gap.next(self), 201);
        check.same("but is waiting", gap.isAsking(self), true);
        check.same("and the gap stays", gap.expected(self), 2);
    }

    private static void beyond200ByAnswers(int self) {
        check.sentence("what it would have to send beyond them by deliver() or tick() is left out");
        Fix test = Make.sent(self, 200);
        Make.ticks(test, 5);
        check.same("a HEARTBEAT and a TEST of the other", Check.wire(test, self), "2 HEARTBEAT, 3 TEST");
        Make.deliverAll(test, self);
        check.same("the answer to the TEST is left out", test.wire(1 - self) + test.next(self), 201);
        check.same("the TEST is handled all the same", test.expected(self), 4);

        Fix logout = Make.sent(self, 200);
        logout.logout(1 - self);
        check.same("a LOGOUT", logout.deliver(self), SessionFix.LOGOUT);
        check.same("the LOGOUT for it is left out", logout.wire(1 - self) + logout.next(self), 201);
        check.same("OFF all the same", logout.stateOf(self), SessionFix.OFF);
        check.same("and expects the next", logout.expected(self), 3);

        Fix gap = Make.sent(self, 199);
        Make.gap(gap, self);
        check.same("a RESEND as the 200th", Check.wire(gap, 1 - self), "200 RESEND 2");
    }

    private static void beyond200ByTicks(int self) {
        check.sentence("what it would have to send beyond them by deliver() or tick() is left out");
        Fix beat = Make.sent(self, 199);
        Make.ticks(beat, 3);
        check.same("a HEARTBEAT as the 200th", Check.wire(beat, 1 - self), "200 HEARTBEAT");
        Make.ticks(beat, 4);
        check.same("a TEST and more are left out", Check.wire(beat, 1 - self), "200 HEARTBEAT");
        check.same("ON with 7 ticks", beat.stateOf(self), SessionFix.ON);
        check.same("the time grows", beat.tick(), 8);
        check.same("OFF with 8", beat.stateOf(self), SessionFix.OFF);

        Fix test = Make.sent(self, 198);
        Make.ticks(test, 5);
        check.same("a TEST as the 200th", Check.wire(test, 1 - self), "199 HEARTBEAT, 200 TEST");

        Fix left = Make.sent(self, 200);
        Make.ticks(left, 7);
        check.same("nothing is put on the wire", left.wire(1 - self), 0);
        check.same("nothing is numbered", left.next(self), 201);
        left.deliver(self);
        Make.ticks(left, 7);
        check.same("ON for 7 more", left.stateOf(self), SessionFix.ON);
    }

    private static void newDayOf200(int self) {
        check.sentence("200 messages in a day: behind its end they are counted anew");
        Fix fix = Make.bothOn();
        fill(fix, self, 199);
        fill(fix, 1 - self, 199);
        fix.crash(self);
        fix.crash(1 - self);
        check.same("a day of 200 of each side", fix.endDay(), 400);
        check.same("logon of the new day", fix.logon(self), 1);
        fix.deliver(1 - self);
        fix.deliver(self);
        check.same("and its first message", fix.send(self, 3), 2);
        check.same("which is on the wire", Check.wire(fix, 1 - self), "2 BUSINESS 3");
        check.same("one of the other side", fix.send(1 - self, 4), 2);
        check.same("next numbers", fix.next(self) * 10 + fix.next(1 - self), 33);
    }

    // ---- keys

    private static void keys(int self) {
        check.sentence("keys 0 to 999");
        Fix fix = Make.bothOn();
        int[] keys = {0, 1, 9, 10, 99, 100, 511, 512, 998, 999};
        for (int i = 0; i < keys.length; i++) {
            check.same("send of the key " + keys[i], fix.send(self, keys[i]), i + 2);
            check.same("its text", Check.lastText(fix, 1 - self), (i + 2) + " BUSINESS " + keys[i]);
        }
        check.same("again of the key 999", fix.again(self, 11), 12);
        check.same("its text", Check.lastText(fix, 1 - self), "12 BUSINESS 999 P");
        check.same("again of the key 0", fix.again(self, 2), 13);
        check.same("its text", Check.lastText(fix, 1 - self), "13 BUSINESS 0 P");
        Make.deliverAll(fix, 1 - self);
        check.same("handled", Check.keys(fix, 1 - self), "0 1 9 10 99 100 511 512 998 999");
        check.same("the last two were doubles", fix.doubles(1 - self), 2);
    }

    // ---- 4 ticks

    private static void resendOf4Ticks(int self) {
        check.sentence("A resend waits for at most 4 ticks: with the fourth one behind the RESEND it waits no more");
        for (int before = 0; before < 4; before++) {
            Fix fix = Make.bothOn();
            Make.ticks(fix, before);
            Make.loseAll(fix, self);
            Make.gap(fix, self);
            check.same("it waits", fix.isAsking(self), true);
            Make.ticks(fix, 3);
            check.same("with 3 ticks, begun at " + before, fix.isAsking(self), true);
            int sent = fix.next(self);
            fix.send(1 - self, 3);
            Make.loseAll(fix, self);
            fix.send(1 - self, 4);
            fix.deliver(self);
            check.same("so it asks for nothing", fix.next(self), sent);
            fix.tick();
            check.same("with 4 ticks, begun at " + before, fix.isAsking(self), false);
        }
        Fix fix = Make.asking(self);
        Make.ticks(fix, 4);
        check.same("it waits no more", fix.isAsking(self), false);
        fix.send(1 - self, 3);
        Make.loseAll(fix, self);
        fix.send(1 - self, 4);
        fix.deliver(self);
        check.same("the gap asks anew", Check.lastText(fix, 1 - self), "4 RESEND 2");
        Make.ticks(fix, 3);
        check.same("3 ticks of the new one", fix.isAsking(self), true);
        fix.tick();
        check.same("4 ticks of the new one", fix.isAsking(self), false);
    }

    private static void resendLeftOutWaits(int self) {
        check.sentence("so that nothing is put on the wire by it, and nothing else is different by that");
        Fix fix = Make.sent(self, 200);
        Make.gap(fix, self);
        check.same("the RESEND is left out", fix.wire(1 - self) + fix.next(self), 201);
        check.same("but waits", fix.isAsking(self), true);
        Make.ticks(fix, 3);
        check.same("for 3 ticks", fix.isAsking(self), true);
        fix.tick();
        check.same("and no more with the fourth", fix.isAsking(self), false);
    }

    // ---- 3 ticks

    private static void heartbeatOf3Ticks(int self) {
        check.sentence("if 3 or more have passed since it put anything on the wire, it sends a HEARTBEAT");
        Fix fix = Make.bothOn();
        Make.ticks(fix, 2);
        check.same("none with 2", fix.wire(1 - self), 0);
        fix.tick();
        check.same("one with 3", Check.wire(fix, 1 - self), "2 HEARTBEAT");
        fix.send(1 - self, 1);
        Make.deliverAll(fix, self);
        Make.ticks(fix, 2);
        check.same("none 2 behind it", Check.wire(fix, 1 - self), "2 HEARTBEAT");
        fix.tick();
        check.same("one 3 behind it", Check.wire(fix, 1 - self), "2 HEARTBEAT, 3 HEARTBEAT");

        Fix late = Make.waiting(self);
        Make.ticks(late, 6);
        check.same("a WAITING side sends none", late.next(self), 2);
        late.deliver(1 - self);
        late.deliver(self);
        late.tick();
        check.same("more than 3 have passed: at once", Check.wire(late, 1 - self), "2 HEARTBEAT");
        check.same("the one that answered has time", late.next(1 - self), 2);
    }

    /** A call that puts something on the wire, two ticks behind the last one, and so no HEARTBEAT with the third. */
    private static void whatIsPut(int self) {
        check.sentence("if 3 or more have passed since it put anything on the wire, it sends a HEARTBEAT");
        Fix send = Make.bothOn();
        Make.ticks(send, 2);
        send.send(self, 1);
        quietFor2(send, self, "send");
        Fix again = Make.bothOn();
        again.send(self, 1);
        Make.ticks(again, 2);
        again.again(self, 2);
        quietFor2(again, self, "again");
        Fix resend = Make.bothOn();
        Make.ticks(resend, 2);
        Make.gap(resend, self);
        quietFor2(resend, self, "a RESEND");
        Fix answer = Make.asking(1 - self);
        Make.ticks(answer, 2);
        answer.deliver(self);
        quietFor2(answer, self, "an answer to a RESEND");
        Fix logon = Make.bothOn();
        Make.ticks(logon, 2);
        logon.crash(1 - self);
        logon.logon(1 - self);
        logon.deliver(self);
        quietFor2(logon, self, "a LOGON that answers");
        Fix asks = new Fix();
        Make.ticks(asks, 5);
        asks.logon(self);
        asks.deliver(1 - self);
        asks.deliver(self);
        quietFor2(asks, self, "a LOGON that asks");
        Fix tested = Make.bothOn();
        Make.ticks(tested, 5);
        tested.deliver(self);
        Make.ticks(tested, 1);
        tested.deliver(self);
        check.same("the answer to a TEST", Check.lastText(tested, 1 - self), "4 HEARTBEAT");
        quietFor2(tested, self, "the answer to a TEST");
        Fix fill = new Fix();
        fill.logon(self);
        fill.crash(self);
        fill.logon(self);
        fill.deliver(1 - self);
        fill.deliver(self);
        Make.ticks(fill, 2);
        fill.deliver(self);
        check.same("a FILL alone", Check.wire(fill, 1 - self), "1 FILL 3 D");
        quietFor2(fill, self, "a FILL");
    }

    private static void quietFor2(Fix fix, int self, String what) {
        int next = fix.next(self);
        Make.ticks(fix, 2);
        check.same("nothing 2 ticks behind " + what, fix.next(self), next);
        fix.tick();
        check.same("one message 3 ticks behind " + what, fix.next(self), next + 1);
    }

    // ---- 5 ticks

    private static void testOf5Ticks(int self) {
        check.sentence("if 5 or more have passed, and it has not sent a TEST since it heard anything, it sends a TEST");
        Fix fix = Make.bothOn();
        Make.ticks(fix, 4);
        check.same("none with 4", Check.wire(fix, 1 - self), "2 HEARTBEAT");
        fix.tick();
        check.same("one with 5, though no HEARTBEAT is due", Check.wire(fix, 1 - self), "2 HEARTBEAT, 3 TEST");
        Make.ticks(fix, 2);
        check.same("but one", fix.next(self), 4);
        fix.deliver(self);
        fix.tick();
        check.same("then a HEARTBEAT", Check.lastText(fix, 1 - self), "4 HEARTBEAT");
        Make.ticks(fix, 3);
        check.same("4 ticks behind what it heard", Check.lastText(fix, 1 - self), "5 HEARTBEAT");
        fix.tick();
        check.same("5 ticks: a TEST anew", Check.lastText(fix, 1 - self), "6 TEST");
        check.same("one a tick", fix.next(self), 7);

        Fix both = Make.bothOn();
        Make.ticks(both, 2);
        both.send(self, 1);
        Make.ticks(both, 3);
        check.same("where both are due, a TEST alone", Check.wire(both, 1 - self), "2 BUSINESS 1, 3 TEST");
    }

    // ---- 8 ticks

    private static void offWith8Ticks(int self) {
        check.sentence("if 8 ticks or more have passed since it heard anything, it becomes OFF");
        Fix fix = Make.bothOn();
        Make.ticks(fix, 7);
        check.same("ON with 7", fix.stateOf(self), SessionFix.ON);
        Make.loseAll(fix, 1 - self);
        int next = fix.next(self);
        fix.tick();
        check.same("OFF with 8", fix.stateOf(self), SessionFix.OFF);
        check.same("and sends nothing with it, though a HEARTBEAT would be due", fix.next(self), next);
        check.same("its store stays", fix.expected(self), 2);
        Make.ticks(fix, 9);
        check.same("an OFF side sends nothing", fix.next(self), next);

        Fix late = Make.bothOn();
        Make.ticks(late, 7);
        late.deliver(self);
        Make.ticks(late, 7);
        check.same("heard at 7: ON at 14", late.stateOf(self), SessionFix.ON);
        check.same("the other heard nothing", late.stateOf(1 - self), SessionFix.OFF);
        late.tick();
        check.same("OFF at 15", late.stateOf(self), SessionFix.OFF);
    }

    /** Whatever comes is heard; what is lost, put on the wire or asked is not. */
    private static void whatIsHeard(int self) {
        check.sentence("A side hears whatever comes to it from the wire");
        Fix gap = Make.bothOn();
        gap.send(1 - self, 1);
        gap.send(1 - self, 2);
        gap.lose(self);
        Make.ticks(gap, 4);
        gap.deliver(self);
        heardNow(gap, self, "what is not handled");

        Fix twice = Make.asking(self);
        twice.deliver(1 - self);
        Make.deliverAll(twice, self);
        Make.gap(twice, self);
        Make.ticks(twice, 4);
        twice.send(1 - self, 3);
        Make.loseAll(twice, self);
        twice.deliver(1 - self);
        Make.ticks(twice, 1);
        twice.deliver(self);
        heardNow(twice, self, "what is sent again");

        Fix logon = Make.bothOn();
        Make.ticks(logon, 4);
        logon.crash(1 - self);
        logon.logon(1 - self);
        check.same("a LOGON to an ON side", logon.deliver(self), SessionFix.LOGON);
        heardNow(logon, self, "a LOGON");

        Fix quiet = Make.bothOn();
        quiet.send(1 - self, 1);
        Make.ticks(quiet, 4);
        quiet.lose(self);
        quiet.send(1 - self, 2);
        quiet.send(self, 3);
        quiet.wire(self);
        Check.outcome(() -> quiet.deliver(2));
        quiet.tick();
        check.same("what is lost, sent or refused is not heard", Check.lastText(quiet, 1 - self), "4 TEST");
        Make.ticks(quiet, 3);
        check.same("and so it is OFF with 8", quiet.stateOf(self), SessionFix.OFF);
    }

    /** One message of each kind that leaves a side ON, four ticks behind the last one that it heard. */
    private static void eachKindIsHeard(int self) {
        check.sentence("A side hears whatever comes to it from the wire");
        int[] kinds = {SessionFix.FILL, SessionFix.BUSINESS, SessionFix.RESEND, SessionFix.HEARTBEAT, SessionFix.TEST};
        for (int last = 0; last < kinds.length; last++) {
            Fix fix = Make.bothOn();
            Make.ticks(fix, 3);
            fix.lose(self);
            fix.lose(1 - self);
            fix.send(1 - self, 1);
            fix.deliver(self);
            fix.deliver(1 - self);
            Make.ticks(fix, 5);
            check.same("on the wire", Check.wire(fix, self),
                    "2 FILL 3 D, 3 BUSINESS 1 D, 4 RESEND 2, 5 HEARTBEAT, 6 TEST");
            for (int i = 0; i < last; i++) {
                fix.deliver(self);
            }
            Make.ticks(fix, last == 0 ? 2 : 4);
            check.same("the kind", fix.deliver(self), kinds[last]);
            heardNow(fix, self, "the kind " + kinds[last]);
        }
    }

    private static void heardNow(Fix fix, int self, String what) {
        Make.ticks(fix, 7);
        check.same(what + " is heard: ON with 7 ticks behind it", fix.stateOf(self), SessionFix.ON);
        fix.tick();
        check.same(what + " is heard: OFF with 8", fix.stateOf(self), SessionFix.OFF);
    }

    private static void heardByBecomingOn(int self) {
        check.sentence("when a side becomes ON, it has heard something just then");
        Fix fix = Make.waiting(self);
        Make.ticks(fix, 20);
        check.same("a WAITING side waits on", fix.stateOf(self), SessionFix.WAITING);
        fix.deliver(1 - self);
        Make.ticks(fix, 4);
        check.same("no TEST with 4 ticks of the one that answered", Check.wire(fix, self), "1 LOGON, 2 HEARTBEAT");
        fix.tick();
        check.same("a TEST with 5", Check.lastText(fix, self), "3 TEST");
        fix.deliver(self);
        Make.ticks(fix, 2);
        check.same("ON with 7", fix.stateOf(1 - self), SessionFix.ON);
        fix.tick();
        check.same("OFF with 8", fix.stateOf(1 - self), SessionFix.OFF);
        check.same("the other became ON later", fix.stateOf(self), SessionFix.ON);
        Make.ticks(fix, 4);
        check.same("ON with 7", fix.stateOf(self), SessionFix.ON);
        fix.tick();
        check.same("OFF with 8", fix.stateOf(self), SessionFix.OFF);
        check.same("a TEST that was sent long ago is forgotten", tested(self), "TEST");
    }

    /** OFF by silence behind a TEST, ON anew, and silent once more. */
    private static String tested(int self) {
        Fix fix = Make.bothOn();
        Make.ticks(fix, 8);
        fix.logon(1 - self);
        fix.deliver(self);
        Make.ticks(fix, 5);
        return Check.lastText(fix, 1 - self).substring(2);
    }

    private static void ticksOfTheOthers(int self) {
        check.sentence("for the side 0, and then for the side 1, if it is ON");
        Fix off = new Fix();
        Make.ticks(off, 10);
        check.same("OFF sides send nothing", off.next(0) + off.next(1), 2);
        Fix one = Make.bothOn();
        one.crash(1 - self);
        Make.ticks(one, 3);
        check.same("the ON side alone", one.wire(1 - self) * 10 + one.wire(self), 10);
        Fix waiting = Make.onByAnAsk(self);
        Make.ticks(waiting, 7);
        check.same("a WAITING side sends nothing", Check.wire(waiting, self), "");
        check.same("the ON side does", Check.wire(waiting, 1 - self), "1 LOGON, 2 HEARTBEAT, 3 TEST");
        waiting.tick();
        check.same("the ON side is OFF with 8", waiting.stateOf(self), SessionFix.OFF);
        check.same("the WAITING one is WAITING", waiting.stateOf(1 - self), SessionFix.WAITING);
    }

    private static void timeGrows() {
        check.sentence("With each tick the time grows by 1");
        Fix fix = new Fix();
        for (int time = 1; time <= 512; time++) {
            check.same("tick", fix.tick(), time);
        }
        Fix on = Make.bothOn();
        for (int time = 1; time <= 20; time++) {
            check.same("tick of ON sides", on.tick(), time);
        }
        on.endDay();
        check.same("a day's end leaves the time", on.tick(), 21);
    }
}
