/** Promises 6 to 10: send, again, deliver, lose, tick. */
public final class MessagesTest {
    private static final Class<IndexOutOfBoundsException> NO_INDEX = IndexOutOfBoundsException.class;
    private static final Class<IllegalArgumentException> NO_ARGUMENT = IllegalArgumentException.class;
    private static final Class<IllegalStateException> NOT_NOW = IllegalStateException.class;
    private static final int[] WRONG_SIDES = {-1, 2, Integer.MIN_VALUE, Integer.MAX_VALUE};
    private static final Check check = new Check();

    public static void main(String[] args) {
        wrongSides();
        send();
        sendAtTheLimits();
        again();
        deliver();
        dropped();
        gap();
        resends();
        resendOfAll();
        resendOverTheWire();
        resendOfNothing();
        resendBehindAGap();
        sentAgainTooLate();
        testThatComes();
        deliverAtTheLimit();
        lose();
        fullWire();
        heartbeats();
        tests();
        silence();
        resendWaits();
        tickAtTheLimit();
        tickOfOthers();
        check.end();
    }

    private static void wrongSides() {
        SessionFix fix = Check.bothOn();
        fix.send(0, 1);
        fix.send(1, 1);
        for (int side : WRONG_SIDES) {
            check.refused("send " + side, fix, NO_INDEX, () -> fix.send(side, 1));
            check.refused("send ahead of the key " + side, fix, NO_INDEX, () -> fix.send(side, 1000));
            check.refused("again " + side, fix, NO_INDEX, () -> fix.again(side, 2));
            check.refused("deliver " + side, fix, NO_INDEX, () -> fix.deliver(side));
            check.refused("lose " + side, fix, NO_INDEX, () -> fix.lose(side));
        }
    }

    private static void send() {
        SessionFix fix = new SessionFix();
        check.refused("send of an OFF side", fix, NOT_NOW, () -> fix.send(0, 1));
        check.refused("the key is looked at first", fix, NO_ARGUMENT, () -> fix.send(0, -1));
        fix.logon(0);
        check.refused("send of a WAITING side", fix, NOT_NOW, () -> fix.send(0, 1));
        fix.deliver(1);
        fix.deliver(0);
        for (int key : new int[] {-1, 1000, Integer.MIN_VALUE, Integer.MAX_VALUE}) {
            check.refused("send of the key " + key, fix, NO_ARGUMENT, () -> fix.send(0, key));
        }
        check.same("send(0, 0)", fix.send(0, 0), 2);
        check.same("send(0, 999)", fix.send(0, 999), 3);
        check.same("send(0, 0) once more", fix.send(0, 0), 4);
        check.same("their texts", Check.wire(fix, 1), "2 BUSINESS 0, 3 BUSINESS 999, 4 BUSINESS 0");
        Check.deliverAll(fix, 1);
        check.same("a key sent twice is handled twice", Check.keys(fix, 1), "0 999 0");
        check.same("and is no double", fix.doubles(1), 0);
    }

    private static void sendAtTheLimits() {
        SessionFix fix = Check.bothOn();
        Check.sendUpTo(fix, 0, 199);
        check.same("the 200th", fix.send(0, 5), 200);
        check.refused("the 201st", fix, NOT_NOW, () -> fix.send(0, 5));
        check.refused("the 201st of a wrong key", fix, NO_ARGUMENT, () -> fix.send(0, 1000));
        check.refused("the 201st by again", fix, NOT_NOW, () -> fix.again(0, 200));
        check.refused("again of no message", fix, NO_INDEX, () -> fix.again(0, 201));
        check.same("the other side can yet", fix.send(1, 5), 2);
    }

    private static void again() {
        SessionFix fix = Check.bothOn();
        fix.send(0, 31);
        fix.send(1, 32);
        fix.logout(1);
        for (int number : new int[] {-1, 0, 1, 3, 200, 201, Integer.MIN_VALUE, Integer.MAX_VALUE}) {
            check.refused("again " + number, fix, NO_INDEX, () -> fix.again(0, number));
        }
        check.refused("again of a LOGOUT", fix, NO_INDEX, () -> fix.again(1, 3));
        check.refused("again of an OFF side", fix, NOT_NOW, () -> fix.again(1, 2));
        check.same("again(0, 2)", fix.again(0, 2), 3);
        check.same("again(0, 3)", fix.again(0, 3), 4);
        check.same("possible doubles", Check.wire(fix, 1), "2 BUSINESS 31, 3 BUSINESS 31 P, 4 BUSINESS 31 P");
        SessionFix waiting = new SessionFix();
        waiting.logon(0);
        check.refused("again of a LOGON", waiting, NO_INDEX, () -> waiting.again(0, 1));

        SessionFix lost = Check.bothOn();
        lost.send(0, 31);
        lost.lose(1);
        lost.again(0, 2);
        lost.deliver(1);
        check.same("behind a gap it is not handled", lost.handled(1) + lost.doubles(1), 0);
        lost.deliver(0);
        check.same("resent as they are", Check.wire(lost, 1), "2 BUSINESS 31 D, 3 BUSINESS 31 D P");
        Check.deliverAll(lost, 1);
        check.same("handled once", Check.plain(lost, 1),
                "state 2 next 3 expected 4 asking false wire 0:  handled 1: 31 doubles 1 agreed 1");
    }

    private static void deliver() {
        SessionFix fix = new SessionFix();
        check.refused("deliver of nothing", fix, NOT_NOW, () -> fix.deliver(0));
        fix.logon(0);
        check.refused("deliver to the one that sent", fix, NOT_NOW, () -> fix.deliver(0));
        check.same("LOGON", fix.deliver(1), SessionFix.LOGON);
        check.same("LOGON", fix.deliver(0), SessionFix.LOGON);
        fix.send(0, 7);
        fix.send(0, 8);
        check.same("BUSINESS", fix.deliver(1), SessionFix.BUSINESS);
        check.same("the first one has come", Check.keys(fix, 1) + " / " + Check.wire(fix, 1), "7 / 3 BUSINESS 8");
        check.same("expected(1)", fix.expected(1), 3);
        Check.ticks(fix, 3);
        fix.deliver(1);
        check.same("HEARTBEAT", fix.deliver(1), SessionFix.HEARTBEAT);
        check.same("a HEARTBEAT is nothing more", Check.plain(fix, 1),
                "state 2 next 3 expected 5 asking false wire 0:  handled 2: 7 8 doubles 0 agreed 2");
        check.refused("deliver of nothing", fix, NOT_NOW, () -> fix.deliver(1));
    }

    private static void dropped() {
        SessionFix fix = Check.bothOn();
        fix.send(0, 7);
        fix.crash(1);
        check.same("deliver to an OFF side", fix.deliver(1), SessionFix.BUSINESS);
        check.same("dropped", Check.plain(fix, 1),
                "state 0 next 2 expected 2 asking false wire 0:  handled 0:  doubles 0 agreed 0");
    }

    private static void gap() {
        SessionFix fix = Check.bothOn();
        fix.send(0, 7);
        fix.send(0, 8);
        fix.send(0, 9);
        fix.lose(1);
        fix.deliver(1);
        check.same("a RESEND from the number that is expected", Check.wire(fix, 0), "2 RESEND 2");
        check.same("it waits", fix.isAsking(1), true);
        fix.deliver(1);
        check.same("none but the one that waits", fix.wire(0), 1);
        check.same("nothing is handled", fix.handled(1), 0);
        check.same("nothing counts as a double", fix.doubles(1), 0);
        fix.send(0, 10);
        fix.deliver(0);
        check.same("deliver(0) answers", Check.wire(fix, 1),
                "5 BUSINESS 10, 2 BUSINESS 7 D, 3 BUSINESS 8 D, 4 BUSINESS 9 D, 5 BUSINESS 10 D");
        fix.deliver(1);
        check.same("waits through a gap", fix.isAsking(1), true);
        fix.deliver(1);
        check.same("what is expected ends it", fix.isAsking(1), false);
        Check.deliverAll(fix, 1);
        check.same("all are handled in order", Check.keys(fix, 1), "7 8 9 10");
        check.same("none was a double", fix.doubles(1), 0);
        check.same("agreed", fix.agreed(1), 4);
    }

    /** Side 0 has sent in order: LOGON, 5, HEARTBEAT, TEST, 6, again 6, LOGOUT, LOGON; all but the last lost. */
    private static SessionFix manyKinds() {
        SessionFix fix = Check.bothOn();
        fix.send(0, 5);
        Check.ticks(fix, 5);
        fix.send(0, 6);
        fix.again(0, 5);
        fix.logout(0);
        Check.loseAll(fix, 0);
        fix.logon(0);
        return fix;
    }

    private static void resends() {
        SessionFix fix = manyKinds();
        check.same("the LOGON", Check.wire(fix, 1), "8 LOGON");
        fix.deliver(1);
        check.same("answer and RESEND", Check.wire(fix, 0), "4 LOGON, 5 RESEND 2");
        fix.deliver(0);
        check.same("and a RESEND of side 0", Check.wire(fix, 1), "9 RESEND 2");
        fix.lose(1);
        fix.deliver(0);
        check.same("what lies between is filled over, the RESEND at the end too", Check.wire(fix, 1),
                "2 BUSINESS 5 D, 3 FILL 5 D, 5 BUSINESS 6 D, 6 BUSINESS 6 D P, 7 FILL 10 D");
        fix.deliver(1);
        fix.deliver(1);
        check.same("by a FILL the number that it tells is expected", fix.expected(1), 5);
        Check.deliverAll(fix, 1);
        check.same("expected behind all", fix.expected(1), 10);
        check.same("handled", Check.keys(fix, 1), "5 6");
        check.same("the possible double", fix.doubles(1), 1);
        fix.send(0, 7);
        check.same("a FILL takes no number", Check.wire(fix, 1), "10 BUSINESS 7");
    }

    private static void resendOfAll() {
        SessionFix fix = new SessionFix();
        fix.logon(0);
        fix.crash(0);
        fix.logon(0);
        fix.deliver(1);
        Check.deliverAll(fix, 0);
        check.same("only others: one FILL", Check.wire(fix, 1), "1 FILL 3 D");
        SessionFix only = Check.bothOn();
        only.send(0, 1);
        only.send(0, 2);
        only.lose(1);
        only.deliver(1);
        only.deliver(0);
        check.same("only BUSINESS: no FILL", Check.wire(only, 1), "2 BUSINESS 1 D, 3 BUSINESS 2 D");
    }

    private static void resendOverTheWire() {
        SessionFix fix = Check.bothOn();
        for (int i = 0; i < 62; i++) {
            fix.send(0, i);
        }
        check.same("a full wire", fix.wire(1), 60);
        fix.lose(1);
        fix.deliver(1);
        check.same("58 on it", fix.wire(1), 58);
        fix.deliver(0);
        check.same("two of the resend have room", fix.wire(1), 60);
        check.same("the first of them", Check.text(fix, 1, 58), "2 BUSINESS 0 D");
        check.same("the last of them", Check.text(fix, 1, 59), "3 BUSINESS 1 D");
    }

    /** A second RESEND that comes behind an answer: what has come already counts as doubles. */
    private static void resendOfNothing() {
        SessionFix fix = Check.bothOn();
        fix.send(0, 1);
        fix.send(0, 2);
        fix.lose(1);
        fix.deliver(1);
        Check.ticks(fix, 4);
        check.same("waits no more", fix.isAsking(1), false);
        Check.deliverAll(fix, 0);
        check.same("answer behind the beat of side 0", Check.wire(fix, 1),
                "4 HEARTBEAT, 2 BUSINESS 1 D, 3 BUSINESS 2 D, 4 FILL 5 D");
        fix.deliver(1);
        check.same("asks anew", Check.wire(fix, 0), "4 RESEND 2");
        Check.deliverAll(fix, 1);
        check.same("all has come", fix.expected(1), 5);
        Check.deliverAll(fix, 0);
        check.same("answered once more", Check.wire(fix, 1), "2 BUSINESS 1 D, 3 BUSINESS 2 D, 4 FILL 5 D");
        Check.deliverAll(fix, 1);
        check.same("doubles, the FILL too", fix.doubles(1), 3);
        check.same("handled but once", Check.keys(fix, 1), "1 2");
        check.same("expected as before", fix.expected(1), 5);
        check.same("it is ON", fix.stateOf(1), SessionFix.ON);
    }

    private static void resendBehindAGap() {
        SessionFix fix = Check.bothOn();
        fix.send(0, 1);
        fix.send(0, 2);
        fix.send(1, 3);
        fix.lose(0);
        fix.lose(1);
        fix.deliver(1);
        check.same("side 1 asks", Check.wire(fix, 0), "3 RESEND 2");
        fix.deliver(0);
        check.same("the answer first, then the RESEND of side 0", Check.wire(fix, 1),
                "2 BUSINESS 1 D, 3 BUSINESS 2 D, 4 RESEND 2");
        check.same("the gap stays", fix.expected(0), 2);
        check.same("side 0 waits", fix.isAsking(0), true);
        Check.deliverAll(fix, 1);
        check.same("the RESEND is filled over", Check.wire(fix, 0), "2 BUSINESS 3 D, 3 FILL 4 D");
        Check.deliverAll(fix, 0);
        check.same("side 0 has all", Check.plain(fix, 0),
                "state 2 next 5 expected 4 asking false wire 0:  handled 1: 3 doubles 0 agreed 1");

        SessionFix twice = Check.bothOn();
        twice.send(0, 1);
        twice.send(0, 2);
        twice.send(1, 3);
        twice.send(1, 4);
        twice.lose(0);
        twice.lose(1);
        twice.deliver(0);
        twice.deliver(1);
        check.same("side 0 waits already", twice.isAsking(0), true);
        twice.deliver(0);
        check.same("answers, and asks no second time", Check.wire(twice, 1),
                "4 RESEND 2, 2 BUSINESS 1 D, 3 BUSINESS 2 D, 4 FILL 5 D");
    }

    private static void sentAgainTooLate() {
        SessionFix fix = Check.bothOn();
        fix.send(0, 7);
        fix.send(0, 8);
        fix.send(0, 9);
        fix.deliver(1);
        fix.lose(1);
        fix.deliver(1);
        fix.deliver(0);
        fix.crash(1);
        fix.deliver(1);
        check.same("an OFF side drops what is sent again, and counts no double", fix.doubles(1), 0);
        fix.deliver(1);
        check.same("expected as before", fix.expected(1), 3);
    }

    private static void testThatComes() {
        SessionFix fix = Check.bothOn();
        Check.ticks(fix, 5);
        check.same("beat and test", Check.wire(fix, 1), "2 HEARTBEAT, 3 TEST");
        Check.loseAll(fix, 0);
        fix.deliver(1);
        check.same("no answer to a HEARTBEAT", fix.wire(0), 0);
        check.same("TEST", fix.deliver(1), SessionFix.TEST);
        check.same("a HEARTBEAT is sent to a TEST", Check.wire(fix, 0), "4 HEARTBEAT");

        SessionFix gap = Check.bothOn();
        Check.ticks(gap, 5);
        Check.loseAll(gap, 0);
        gap.lose(1);
        gap.deliver(1);
        check.same("a TEST behind a gap is not answered", Check.wire(gap, 0), "4 RESEND 2");
    }

    private static void deliverAtTheLimit() {
        SessionFix fix = Check.bothOn();
        Check.sendUpTo(fix, 1, 200);
        fix.send(0, 4);
        fix.send(0, 5);
        fix.lose(1);
        fix.deliver(1);
        check.same("the RESEND is left out", fix.wire(0), 0);
        check.same("but one is waiting", fix.isAsking(1), true);
        check.same("next stays", fix.next(1), 201);
        Check.ticks(fix, 3);
        check.same("for 3 ticks", fix.isAsking(1), true);
        fix.tick();
        check.same("and no more with the fourth", fix.isAsking(1), false);

        SessionFix other = Check.bothOn();
        Check.sendUpTo(other, 1, 200);
        other.send(1 - 1, 1);
        Check.ticks(other, 5);
        Check.deliverAll(other, 1);
        check.same("the answer to a TEST is left out", other.wire(0), 0);
        check.same("but the TEST is handled", other.expected(1), 5);
        other.logout(0);
        other.logon(0);
        other.deliver(1);
        check.same("a RESEND is left out", other.wire(0), 0);

        SessionFix asked = Check.bothOn();
        Check.sendUpTo(asked, 0, 199);
        asked.send(0, 998);
        asked.deliver(1);
        check.same("asked from 2 on", Check.wire(asked, 0), "2 RESEND 2");
        asked.deliver(0);
        check.same("what was sent is resent beyond the 200", asked.wire(1), 60);
        check.same("from the first one", Check.text(asked, 1, 0), "2 BUSINESS 0 D");
    }

    private static void lose() {
        SessionFix fix = new SessionFix();
        check.refused("lose of nothing", fix, NOT_NOW, () -> fix.lose(1));
        fix.logon(0);
        check.same("a LOGON lost", fix.lose(1), SessionFix.LOGON);
        check.same("nothing came of it", Check.plain(fix, 1),
                "state 0 next 1 expected 1 asking false wire 0:  handled 0:  doubles 0 agreed 0");
        SessionFix on = Check.bothOn();
        on.send(0, 1);
        on.send(0, 2);
        check.same("a BUSINESS lost", on.lose(1), SessionFix.BUSINESS);
        check.same("the first one is gone", Check.wire(on, 1), "3 BUSINESS 2");
        check.same("nothing is heard of it", on.expected(1), 2);
        on.lose(1);
        Check.ticks(on, 4);
        on.lose(1);
        check.same("what is lost is not heard", on.tick(), 5);
        check.same("so the side tests", Check.text(on, 0, on.wire(0) - 1), "3 TEST");
    }

    private static void fullWire() {
        SessionFix fix = Check.bothOn();
        for (int i = 0; i < 60; i++) {
            fix.send(0, i);
        }
        check.same("60 fit", fix.wire(1), 60);
        check.same("the 61st has its number", fix.send(0, 777), 62);
        check.same("but is lost", fix.wire(1), 60);
        check.same("the last one on the wire", Check.text(fix, 1, 59), "61 BUSINESS 59");
        fix.deliver(1);
        check.same("the 62nd has room", fix.send(0, 778), 63);
        check.same("at the end", Check.text(fix, 1, 59), "63 BUSINESS 778");
        fix.again(0, 62);
        Check.deliverAll(fix, 1);
        fix.deliver(0);
        Check.deliverAll(fix, 1);
        check.same("what a wire lost is in the store", fix.handledKey(1, 60), 777);

        SessionFix beat = Check.bothOn();
        for (int i = 0; i < 60; i++) {
            beat.send(0, i);
        }
        Check.ticks(beat, 2);
        beat.send(0, 60);
        Check.ticks(beat, 2);
        check.same("what a full wire loses was put on it: no HEARTBEAT yet", beat.next(0), 63);
        beat.tick();
        check.same("a TEST with the fifth", beat.next(0), 64);
    }

    private static void heartbeats() {
        SessionFix fix = Check.bothOn();
        check.same("tick", fix.tick(), 1);
        fix.send(0, 1);
        Check.deliverAll(fix, 1);
        check.same("tick", fix.tick(), 2);
        check.same("tick", fix.tick(), 3);
        check.same("3 ticks of the side 1 alone", Check.wire(fix, 0) + "/" + Check.wire(fix, 1), "2 HEARTBEAT/");
        fix.tick();
        check.same("then of the side 0", Check.wire(fix, 0) + "/" + Check.wire(fix, 1), "2 HEARTBEAT/3 HEARTBEAT");
        Check.deliverAll(fix, 0);
        Check.deliverAll(fix, 1);
        Check.ticks(fix, 2);
        check.same("3 ticks behind a HEARTBEAT", Check.wire(fix, 0) + "/" + Check.wire(fix, 1), "3 HEARTBEAT/");

        SessionFix again = Check.bothOn();
        again.send(0, 1);
        again.send(0, 2);
        again.lose(1);
        again.deliver(1);
        Check.ticks(again, 2);
        again.deliver(0);
        Check.deliverAll(again, 1);
        Check.ticks(again, 2);
        check.same("what is resent is put on the wire, too", again.next(0), 4);
        again.tick();
        check.same("3 ticks behind it", Check.wire(again, 1), "4 HEARTBEAT");

        SessionFix late = new SessionFix();
        late.logon(0);
        Check.ticks(late, 4);
        check.same("a WAITING side sends nothing", late.next(0), 2);
        late.deliver(1);
        late.deliver(0);
        late.tick();
        check.same("as the LOGON was put on long ago", Check.wire(late, 1), "2 HEARTBEAT");
        check.same("the side that answered has time", late.wire(0), 0);
    }

    private static void tests() {
        SessionFix fix = Check.bothOn();
        Check.ticks(fix, 4);
        check.same("none with the fourth tick", fix.next(0), 3);
        fix.tick();
        check.same("a TEST with the fifth", Check.wire(fix, 1), "2 HEARTBEAT, 3 TEST");
        check.same("of both", Check.wire(fix, 0), "2 HEARTBEAT, 3 TEST");
        Check.ticks(fix, 2);
        check.same("but one", fix.next(0), 4);
        fix.deliver(0);
        fix.tick();
        check.same("a HEARTBEAT 3 ticks behind the TEST", Check.wire(fix, 1),
                "2 HEARTBEAT, 3 TEST, 4 HEARTBEAT");
        check.same("the side that heard is ON, the other is not", fix.stateOf(0) * 10 + fix.stateOf(1), 20);
        Check.ticks(fix, 3);
        check.same("no TEST ahead of 5 ticks", Check.text(fix, 1, 3), "5 HEARTBEAT");
        fix.tick();
        check.same("a new TEST, as it has heard", Check.text(fix, 1, 4), "6 TEST");

        SessionFix dropped = Check.bothOn();
        dropped.send(0, 1);
        dropped.send(0, 2);
        dropped.lose(1);
        Check.ticks(dropped, 4);
        dropped.deliver(1);
        dropped.tick();
        check.same("what is not handled is heard, too", dropped.next(1), 4);
        check.same("so there is no TEST", Check.wire(dropped, 0), "2 HEARTBEAT, 3 RESEND 2");
    }

    private static void silence() {
        SessionFix fix = Check.bothOn();
        fix.send(0, 1);
        fix.send(0, 2);
        Check.ticks(fix, 1);
        fix.lose(1);
        fix.deliver(1);
        Check.ticks(fix, 6);
        check.same("ON with 7 ticks", fix.stateOf(0), SessionFix.ON);
        fix.tick();
        check.same("OFF with 8", fix.stateOf(0), SessionFix.OFF);
        check.same("the other heard later", fix.stateOf(1), SessionFix.ON);
        int next = fix.next(0);
        fix.tick();
        check.same("then the other too", fix.stateOf(1), SessionFix.OFF);
        check.same("an OFF side sends nothing", fix.next(0), next);
        check.same("time", fix.tick(), 10);

        SessionFix waiting = new SessionFix();
        waiting.logon(0);
        Check.ticks(waiting, 20);
        check.same("a WAITING side waits on", waiting.stateOf(0), SessionFix.WAITING);
        waiting.deliver(1);
        waiting.deliver(0);
        Check.ticks(waiting, 7);
        check.same("heard when it became ON", waiting.stateOf(0) + waiting.stateOf(1), 4);
        waiting.tick();
        check.same("OFF 8 behind it", waiting.stateOf(0) + waiting.stateOf(1), 0);
    }

    private static void resendWaits() {
        SessionFix fix = Check.bothOn();
        Check.ticks(fix, 2);
        fix.send(0, 1);
        fix.send(0, 2);
        fix.lose(1);
        fix.deliver(1);
        Check.ticks(fix, 3);
        check.same("3 ticks", fix.isAsking(1), true);
        fix.deliver(1);
        check.same("none is sent while one waits", Check.wire(fix, 0), "2 RESEND 2, 3 HEARTBEAT");
        fix.tick();
        check.same("4 ticks", fix.isAsking(1), false);
        fix.send(0, 3);
        fix.deliver(1);
        check.same("a new gap asks anew", Check.wire(fix, 0), "2 RESEND 2, 3 HEARTBEAT, 4 RESEND 2");
        check.same("waits", fix.isAsking(1), true);
        Check.ticks(fix, 3);
        check.same("3 ticks of the new one", fix.isAsking(1), true);
        fix.tick();
        check.same("4 ticks of the new one", fix.isAsking(1), false);
    }

    private static void tickAtTheLimit() {
        SessionFix fix = Check.bothOn();
        Check.sendUpTo(fix, 0, 200);
        check.same("tick", fix.tick(), 1);
        Check.ticks(fix, 6);
        check.same("HEARTBEAT and TEST are left out", fix.wire(1) * 1000 + fix.next(0), 201);
        check.same("ON yet", fix.stateOf(0), SessionFix.ON);
        check.same("tick", fix.tick(), 8);
        check.same("OFF by silence", fix.stateOf(0), SessionFix.OFF);
        SessionFix last = Check.bothOn();
        Check.sendUpTo(last, 0, 199);
        Check.ticks(last, 3);
        check.same("a HEARTBEAT as the 200th", Check.wire(last, 1), "200 HEARTBEAT");
        Check.ticks(last, 3);
        check.same("and no TEST", Check.wire(last, 1), "200 HEARTBEAT");
    }

    private static void tickOfOthers() {
        SessionFix fix = new SessionFix();
        for (int i = 1; i <= 100; i++) {
            check.same("tick of OFF sides", fix.tick(), i);
        }
        check.same("nothing is sent", fix.next(0) + fix.next(1), 2);
    }
}
