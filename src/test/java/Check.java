/** Holds answers against what is due, and tells the text of what an object shows. */
final class Check {
    private int checked;
    private int wrong;

    void same(String what, long got, long due) {
        checked++;
        if (got != due) {
            tell(what + " answered " + got + ", due is " + due);
        }
    }

    void same(String what, boolean got, boolean due) {
        same(what, got ? 1 : 0, due ? 1 : 0);
    }

    void same(String what, String got, String due) {
        checked++;
        if (!got.equals(due)) {
            tell(what + " answered \"" + got + "\", due is \"" + due + "\"");
        }
    }

    /** The call throws just this exception, and nothing that the object shows is another then. */
    void refused(String what, SessionFix fix, Class<? extends RuntimeException> due, Runnable call) {
        checked++;
        String before = whole(fix);
        String got = "nothing";
        try {
            call.run();
        } catch (RuntimeException thrown) {
            got = thrown.getClass().getName();
        }
        if (!got.equals(due.getName())) {
            tell(what + " threw " + got + ", due is " + due.getName());
        }
        same(what + " leaves all as it was", whole(fix), before);
    }

    void tell(String text) {
        wrong++;
        if (wrong <= 20) {
            System.out.println(text);
        }
    }

    /** Ends the program with 1 if an answer was wrong. */
    void end() {
        System.out.println(checked + " checked, " + wrong + " wrong");
        if (wrong != 0 || checked == 0) {
            System.exit(1);
        }
    }

    static String text(SessionFix fix, int side, int place) {
        StringBuilder text = new StringBuilder();
        int length = fix.textLength(side, place);
        for (int character = 0; character < length; character++) {
            text.append(fix.textChar(side, place, character));
        }
        return text.toString();
    }

    /** All messages on the wire to a side, with a comma between them. */
    static String wire(SessionFix fix, int side) {
        StringBuilder text = new StringBuilder();
        for (int place = 0; place < fix.wire(side); place++) {
            text.append(place == 0 ? "" : ", ").append(text(fix, side, place));
        }
        return text.toString();
    }

    static String keys(SessionFix fix, int side) {
        StringBuilder text = new StringBuilder();
        for (int place = 0; place < fix.handled(side); place++) {
            text.append(place == 0 ? "" : " ").append(fix.handledKey(side, place));
        }
        return text.toString();
    }

    static String numbers(SessionFix fix, int side) {
        StringBuilder text = new StringBuilder();
        for (int place = 0; place < fix.wire(side); place++) {
            text.append(place == 0 ? "" : " ").append(fix.numberAt(side, place));
        }
        return text.toString();
    }

    /** What can be seen of a side but the texts on its wire. */
    static String plain(SessionFix fix, int side) {
        return "state " + fix.stateOf(side) + " next " + fix.next(side) + " expected " + fix.expected(side)
                + " asking " + fix.isAsking(side) + " wire " + fix.wire(side) + ": " + numbers(fix, side)
                + " handled " + fix.handled(side) + ": " + keys(fix, side)
                + " doubles " + fix.doubles(side) + " agreed " + fix.agreed(side);
    }

    static String whole(SessionFix fix) {
        return plain(fix, 0) + " " + wire(fix, 0) + " / " + plain(fix, 1) + " " + wire(fix, 1);
    }

    /** Both sides are ON, have sent a LOGON each, expect 2, and their wires are empty, at the time 0. */
    static SessionFix bothOn() {
        SessionFix fix = new SessionFix();
        fix.logon(0);
        fix.deliver(1);
        fix.deliver(0);
        return fix;
    }

    static void ticks(SessionFix fix, int ticks) {
        for (int i = 0; i < ticks; i++) {
            fix.tick();
        }
    }

    static void deliverAll(SessionFix fix, int side) {
        for (int i = 0; i < 1000 && fix.wire(side) > 0; i++) {
            fix.deliver(side);
        }
    }

    static void loseAll(SessionFix fix, int side) {
        for (int i = 0; i < 1000 && fix.wire(side) > 0; i++) {
            fix.lose(side);
        }
    }

    /** Lets an ON side send BUSINESS messages that all are lost, until it has sent so many messages. */
    static void sendUpTo(SessionFix fix, int side, int sent) {
        for (int i = 0; i < 1000 && fix.next(side) <= sent; i++) {
            fix.send(side, i);
            loseAll(fix, 1 - side);
        }
    }
}
