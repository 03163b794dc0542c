/** Promises 1 to 5: a new object, logon, logout, crash, endDay. */
public final class SessionsTest {
    private static final Class<IndexOutOfBoundsException> NO_SIDE = IndexOutOfBoundsException.class;
    private static final Class<IllegalStateException> NOT_NOW = IllegalStateException.class;
    private static final int[] WRONG_SIDES = {-1, 2, Integer.MIN_VALUE, Integer.MAX_VALUE};
    private static final Check check = new Check();

    public static void main(String[] args) {
        newObject();
        wrongSides();
        logon();
        logonOfOneThatIsOn();
        logonComesToAnySide();
        logonWithAGap();
        otherMessagesWhileWaiting();
        logonThatAnswers();
        logonAtTheLimit();
        logout();
        logoutThatComes();
        crash();
        endDay();
        check.end();
    }

    private static void newObject() {
        SessionFix fix = new SessionFix();
        for (int side = 0; side < 2; side++) {
            check.same("new object, side " + side, Check.plain(fix, side),
                    "state 0 next 1 expected 1 asking false wire 0:  handled 0:  doubles 0 agreed 0");
        }
        check.same("first tick", fix.tick(), 1);
    }

    private static void wrongSides() {
        SessionFix fix = Check.bothOn();
        for (int side : WRONG_SIDES) {
            check.refused("logon " + side, fix, NO_SIDE, () -> fix.logon(side));
            check.refused("logout " + side, fix, NO_SIDE, () -> fix.logout(side));
            check.refused("crash " + side, fix, NO_SIDE, () -> fix.crash(side));
        }
    }

    private static void logon() {
        SessionFix fix = new SessionFix();
        check.same("logon(1)", fix.logon(1), 1);
        check.same("state of the one that logs on", fix.stateOf(1), SessionFix.WAITING);
        check.same("state of the other", fix.stateOf(0), SessionFix.OFF);
        check.same("its LOGON", Check.wire(fix, 0), "1 LOGON");
        check.refused("logon of a WAITING side", fix, NOT_NOW, () -> fix.logon(1));
        check.same("logon(0)", fix.logon(0), 1);
        check.same("logon empties the wire to the side itself", fix.wire(0), 0);
        check.same("and puts its LOGON on the other", Check.wire(fix, 1), "1 LOGON");
        check.same("deliver to a WAITING side", fix.deliver(1), SessionFix.LOGON);
        check.same("it becomes ON by a LOGON that asks", fix.stateOf(1), SessionFix.ON);
        check.same("and answers", Check.wire(fix, 0), "2 LOGON");
        fix.deliver(0);
        check.same("gap of the LOGON that was emptied away", Check.wire(fix, 1), "2 RESEND 1");
        check.same("it is ON all the same", fix.stateOf(0), SessionFix.ON);
    }

    private static void logonOfOneThatIsOn() {
        SessionFix fix = Check.bothOn();
        check.refused("logon of an ON side", fix, NOT_NOW, () -> fix.logon(0));
        fix.send(0, 1);
        fix.send(1, 2);
        fix.crash(0);
        check.same("a crash leaves the wires", fix.wire(0) + fix.wire(1), 2);
        check.same("logon after a crash", fix.logon(0), 3);
        check.same("both wires were emptied", Check.wire(fix, 0) + "/" + Check.wire(fix, 1), "/3 LOGON");
        check.same("the other is ON yet", fix.stateOf(1), SessionFix.ON);
        fix.deliver(1);
        check.same("the answer first, then the RESEND", Check.wire(fix, 0), "3 LOGON, 4 RESEND 2");
    }

    private static void logonComesToAnySide() {
        SessionFix fix = new SessionFix();
        fix.logon(0);
        fix.deliver(1);
        check.same("an OFF side becomes ON", fix.stateOf(1), SessionFix.ON);
        check.same("it expects the next", fix.expected(1), 2);
        check.same("the first one waits", fix.stateOf(0), SessionFix.WAITING);
        fix.deliver(0);
        check.same("until it is answered", fix.stateOf(0), SessionFix.ON);
        check.same("an answer is not answered", fix.wire(1), 0);
        fix.send(1, 5);
        fix.send(1, 6);
        fix.lose(0);
        fix.deliver(0);
        check.same("a resend waits", fix.isAsking(0), true);
        fix.crash(1);
        fix.logon(1);
        fix.deliver(0);
        check.same("a LOGON that asks ends the waiting one, and the gap asks anew",
                Check.wire(fix, 1), "3 LOGON, 4 RESEND 2");
        check.same("so one is waiting", fix.isAsking(0), true);
    }

    private static void logonWithAGap() {
        SessionFix fix = new SessionFix();
        fix.logon(0);
        fix.crash(0);
        fix.logon(0);
        fix.deliver(1);
        check.same("the second LOGON alone", Check.wire(fix, 0), "1 LOGON, 2 RESEND 1");
        check.same("it is not handled", fix.expected(1), 1);
        check.same("a resend waits", fix.isAsking(1), true);
        fix.deliver(0);
        fix.deliver(0);
        check.same("both LOGONs are filled over", Check.wire(fix, 1), "1 FILL 3 D");
        fix.deliver(1);
        check.same("the FILL tells the next", fix.expected(1), 3);
        check.same("and no resend waits", fix.isAsking(1), false);
    }

    private static void otherMessagesWhileWaiting() {
        SessionFix fix = new SessionFix();
        fix.logon(0);
        fix.crash(0);
        fix.logon(0);
        fix.deliver(1);
        fix.lose(0);
        fix.deliver(0);
        check.same("a WAITING side drops a RESEND", fix.expected(0), 1);
        check.same("and is WAITING yet", fix.stateOf(0), SessionFix.WAITING);
        fix.crash(1);
        fix.logon(1);
        fix.deliver(0);
        check.same("gap seen by the side that waited", Check.wire(fix, 1), "3 LOGON, 4 RESEND 1");
    }

    private static void logonThatAnswers() {
        SessionFix fix = new SessionFix();
        fix.logon(0);
        fix.deliver(1);
        fix.crash(0);
        check.same("the answer is on the wire yet", Check.wire(fix, 0), "1 LOGON");
        fix.deliver(0);
        check.same("an OFF side stays OFF by an answer", fix.stateOf(0), SessionFix.OFF);
        check.same("but it has looked at the number", fix.expected(0), 2);

        SessionFix gap = new SessionFix();
        gap.logon(0);
        gap.deliver(1);
        gap.send(1, 4);
        gap.crash(0);
        gap.crash(1);
        gap.logon(0);
        gap.deliver(1);
        gap.crash(0);
        gap.deliver(0);
        check.same("an OFF side asks for nothing by an answer with a gap", gap.wire(1) + gap.expected(0), 1);
        check.same("and has nothing waiting", gap.isAsking(0), false);
    }

    private static void logonAtTheLimit() {
        SessionFix fix = Check.bothOn();
        Check.sendUpTo(fix, 0, 199);
        fix.crash(0);
        check.same("the 200th message", fix.logon(0), 200);
        fix.crash(0);
        check.refused("logon with 200 sent", fix, NOT_NOW, () -> fix.logon(0));
        check.same("next behind the last", fix.next(0), 201);

        SessionFix other = Check.bothOn();
        Check.sendUpTo(other, 0, 200);
        other.crash(1);
        other.logon(1);
        other.deliver(0);
        check.same("ON by a LOGON though the answer is left out", other.stateOf(0), SessionFix.ON);
        check.same("nothing is put on the wire", other.wire(1), 0);
        check.same("nothing is numbered", other.next(0), 201);
    }

    private static void logout() {
        SessionFix first = new SessionFix();
        check.refused("logout of an OFF side", first, NOT_NOW, () -> first.logout(0));
        first.logon(0);
        check.refused("logout of a WAITING side", first, NOT_NOW, () -> first.logout(0));
        SessionFix fix = Check.bothOn();
        fix.send(1, 3);
        fix.send(1, 4);
        fix.lose(0);
        fix.deliver(0);
        check.same("a resend waits", fix.isAsking(0), true);
        check.same("logout(0)", fix.logout(0), 3);
        check.same("it is OFF", fix.stateOf(0), SessionFix.OFF);
        check.same("nothing waits at an OFF side", fix.isAsking(0), false);
        check.same("its LOGOUT", Check.wire(fix, 1), "2 RESEND 2, 3 LOGOUT");

        SessionFix full = Check.bothOn();
        Check.sendUpTo(full, 1, 199);
        check.same("a LOGOUT as the 200th", full.logout(1), 200);
        SessionFix fuller = Check.bothOn();
        Check.sendUpTo(fuller, 1, 200);
        check.refused("logout with 200 sent", fuller, NOT_NOW, () -> fuller.logout(1));
        check.same("it is ON yet", fuller.stateOf(1), SessionFix.ON);
    }

    private static void logoutThatComes() {
        SessionFix fix = Check.bothOn();
        fix.logout(0);
        check.same("deliver the LOGOUT", fix.deliver(1), SessionFix.LOGOUT);
        check.same("it is OFF by it", fix.stateOf(1), SessionFix.OFF);
        check.same("it expects the next", fix.expected(1), 3);
        check.same("and sends one itself", Check.wire(fix, 0), "2 LOGOUT");
        fix.deliver(0);
        check.same("which an OFF side drops", fix.expected(0), 2);
        check.same("and does not answer", fix.wire(1), 0);

        SessionFix full = Check.bothOn();
        Check.sendUpTo(full, 1, 200);
        full.logout(0);
        full.deliver(1);
        check.same("OFF though the LOGOUT is left out", full.stateOf(1), SessionFix.OFF);
        check.same("left out", full.wire(0), 0);

        SessionFix gap = Check.bothOn();
        gap.send(0, 1);
        gap.lose(1);
        gap.logout(0);
        gap.deliver(1);
        check.same("a LOGOUT behind a gap is not handled", gap.stateOf(1), SessionFix.ON);
        check.same("but asked over", Check.wire(gap, 0), "2 RESEND 2");
    }

    private static void crash() {
        SessionFix fix = new SessionFix();
        check.same("crash of an OFF side", fix.crash(0), false);
        fix.logon(0);
        check.same("crash of a WAITING side", fix.crash(0), false);
        check.same("it is OFF", fix.stateOf(0), SessionFix.OFF);
        SessionFix on = Check.bothOn();
        on.send(0, 7);
        on.deliver(1);
        on.again(0, 2);
        on.deliver(1);
        on.send(0, 8);
        on.send(0, 9);
        on.lose(1);
        on.deliver(1);
        check.same("a resend waits", on.isAsking(1), true);
        check.same("crash of an ON side", on.crash(1), true);
        check.same("what the store keeps", Check.plain(on, 1),
                "state 0 next 3 expected 4 asking false wire 0:  handled 1: 7 doubles 1 agreed 1");
        check.same("crash of an OFF side again", on.crash(1), false);
        check.same("the wire stays", Check.wire(on, 0), "2 RESEND 4");
    }

    private static void endDay() {
        SessionFix fix = new SessionFix();
        check.same("an empty day", fix.endDay(), 0);
        SessionFix first = new SessionFix();
        first.logon(0);
        check.refused("a day with a WAITING side", first, NOT_NOW, () -> first.endDay());
        SessionFix day = Check.bothOn();
        day.send(0, 7);
        day.again(0, 2);
        Check.deliverAll(day, 1);
        check.same("a double in the day", day.doubles(1), 1);
        day.crash(1);
        check.refused("a day with the side 0 ON", day, NOT_NOW, () -> day.endDay());
        day.logout(0);
        Check.ticks(day, 3);
        check.same("messages of the day", day.endDay(), 5);
        String empty = "state 0 next 1 expected 1 asking false wire 0:  handled 0:  doubles 0 agreed 0";
        check.same("side 0 behind the day", Check.plain(day, 0), empty);
        check.same("side 1 behind the day", Check.plain(day, 1), empty);
        check.same("the time goes on", day.tick(), 4);
        day.logon(0);
        day.deliver(1);
        day.deliver(0);
        day.send(0, 7);
        day.again(0, 2);
        Check.deliverAll(day, 1);
        check.same("the new day knows no old keys", Check.plain(day, 1),
                "state 2 next 2 expected 4 asking false wire 0:  handled 1: 7 doubles 1 agreed 1");
        SessionFix one = Check.bothOn();
        one.crash(0);
        check.refused("a day with the side 1 ON", one, NOT_NOW, () -> one.endDay());
    }
}
