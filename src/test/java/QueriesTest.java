/** Promises 11 to 22: what is. Much of it is held against in the other tests as well. */
public final class QueriesTest {
    private static final Class<IndexOutOfBoundsException> NO_INDEX = IndexOutOfBoundsException.class;
    private static final int[] WRONG_SIDES = {-1, 2, Integer.MIN_VALUE, Integer.MAX_VALUE};
    private static final int[] WRONG_PLACES = {-1, 60, 1000, Integer.MIN_VALUE, Integer.MAX_VALUE};
    private static final Check check = new Check();

    public static void main(String[] args) {
        constants();
        wrongSides();
        wrongPlaces();
        states();
        numbers();
        asking();
        wires();
        texts();
        characters();
        handled();
        doubles();
        agreed();
        check.end();
    }

    private static void constants() {
        check.same("NONE", SessionFix.NONE, -1);
        check.same("OFF", SessionFix.OFF, 0);
        check.same("WAITING", SessionFix.WAITING, 1);
        check.same("ON", SessionFix.ON, 2);
        check.same("LOGON", SessionFix.LOGON, 0);
        check.same("HEARTBEAT", SessionFix.HEARTBEAT, 1);
        check.same("TEST", SessionFix.TEST, 2);
        check.same("RESEND", SessionFix.RESEND, 3);
        check.same("FILL", SessionFix.FILL, 4);
        check.same("BUSINESS", SessionFix.BUSINESS, 5);
        check.same("LOGOUT", SessionFix.LOGOUT, 6);
    }

    /** A message on each wire, and a key handled by each side. */
    private static SessionFix busy() {
        SessionFix fix = Check.bothOn();
        for (int side = 0; side < 2; side++) {
            fix.send(side, 11 + side);
            fix.deliver(1 - side);
            fix.send(side, 21 + side);
        }
        return fix;
    }

    private static void wrongSides() {
        SessionFix fix = busy();
        for (int side : WRONG_SIDES) {
            check.refused("stateOf " + side, fix, NO_INDEX, () -> fix.stateOf(side));
            check.refused("next " + side, fix, NO_INDEX, () -> fix.next(side));
            check.refused("expected " + side, fix, NO_INDEX, () -> fix.expected(side));
            check.refused("isAsking " + side, fix, NO_INDEX, () -> fix.isAsking(side));
            check.refused("wire " + side, fix, NO_INDEX, () -> fix.wire(side));
            check.refused("numberAt " + side, fix, NO_INDEX, () -> fix.numberAt(side, 0));
            check.refused("textLength " + side, fix, NO_INDEX, () -> fix.textLength(side, 0));
            check.refused("textChar " + side, fix, NO_INDEX, () -> fix.textChar(side, 0, 0));
            check.refused("handled " + side, fix, NO_INDEX, () -> fix.handled(side));
            check.refused("handledKey " + side, fix, NO_INDEX, () -> fix.handledKey(side, 0));
            check.refused("doubles " + side, fix, NO_INDEX, () -> fix.doubles(side));
            check.refused("agreed " + side, fix, NO_INDEX, () -> fix.agreed(side));
        }
    }

    private static void wrongPlaces() {
        SessionFix fix = busy();
        for (int place : WRONG_PLACES) {
            wrongPlace(fix, place);
        }
        wrongPlace(fix, 1);
        SessionFix full = Check.bothOn();
        for (int i = 0; i < 61; i++) {
            full.send(0, i);
        }
        check.same("the last place of a full wire", full.numberAt(1, 59), 61);
        check.refused("the place behind it", full, NO_INDEX, () -> full.numberAt(1, 60));
        Check.deliverAll(full, 1);
        check.refused("the first place of an empty wire", full, NO_INDEX, () -> full.numberAt(1, 0));
        check.same("the last key", full.handledKey(1, 59), 59);
        check.refused("the key behind it", full, NO_INDEX, () -> full.handledKey(1, 60));
    }

    private static void wrongPlace(SessionFix fix, int place) {
        for (int i = 0; i < 2; i++) {
            int side = i;
            check.refused("numberAt at " + place, fix, NO_INDEX, () -> fix.numberAt(side, place));
            check.refused("textLength at " + place, fix, NO_INDEX, () -> fix.textLength(side, place));
            check.refused("textChar at " + place, fix, NO_INDEX, () -> fix.textChar(side, place, 0));
            check.refused("handledKey at " + place, fix, NO_INDEX, () -> fix.handledKey(side, place));
        }
    }

    private static void states() {
        SessionFix fix = new SessionFix();
        check.same("OFF", fix.stateOf(0) + fix.stateOf(1), 0);
        fix.logon(1);
        check.same("WAITING", fix.stateOf(1), 1);
        fix.deliver(0);
        check.same("ON", fix.stateOf(0), 2);
        fix.logout(0);
        check.same("OFF", fix.stateOf(0), 0);
    }

    private static void numbers() {
        SessionFix fix = Check.bothOn();
        fix.send(0, 5);
        fix.send(0, 6);
        fix.send(1, 7);
        fix.deliver(1);
        check.same("next(0)", fix.next(0), 4);
        check.same("next(1)", fix.next(1), 3);
        check.same("expected(0)", fix.expected(0), 2);
        check.same("expected(1)", fix.expected(1), 3);
    }

    private static void asking() {
        SessionFix fix = Check.bothOn();
        fix.send(0, 5);
        fix.send(0, 6);
        fix.lose(1);
        fix.deliver(1);
        check.same("isAsking(0)", fix.isAsking(0), false);
        check.same("isAsking(1)", fix.isAsking(1), true);
        fix.crash(1);
        check.same("isAsking(1) behind a crash", fix.isAsking(1), false);
    }

    private static void wires() {
        SessionFix fix = Check.bothOn();
        check.same("empty wires", fix.wire(0) + fix.wire(1), 0);
        fix.send(0, 5);
        fix.send(0, 6);
        fix.send(0, 7);
        check.same("wire(1)", fix.wire(1), 3);
        check.same("wire(0)", fix.wire(0), 0);
        check.same("numbers", Check.numbers(fix, 1), "2 3 4");
        fix.lose(1);
        check.same("numbers then", Check.numbers(fix, 1), "3 4");
        fix.deliver(1);
        fix.deliver(0);
        check.same("numbers of what is sent again", Check.numbers(fix, 1), "4 2 3 4");
    }

    private static void texts() {
        SessionFix fix = Check.bothOn();
        fix.send(0, 31);
        fix.again(0, 2);
        Check.ticks(fix, 5);
        fix.logout(0);
        check.same("BUSINESS, HEARTBEAT, TEST, LOGOUT", Check.wire(fix, 1),
                "2 BUSINESS 31, 3 BUSINESS 31 P, 4 HEARTBEAT, 5 TEST, 6 LOGOUT");
        fix.logon(0);
        check.same("LOGON", Check.wire(fix, 1), "7 LOGON");
        fix.deliver(1);
        check.same("RESEND", Check.wire(fix, 0), "4 LOGON, 5 RESEND 2");
        fix.deliver(0);
        fix.deliver(0);
        check.same("FILL and marks", Check.wire(fix, 1),
                "8 RESEND 2, 2 BUSINESS 31 D, 3 BUSINESS 31 D P, 4 FILL 9 D");
        check.same("length of RESEND", fix.textLength(1, 0), 10);
        check.same("length of BUSINESS D", fix.textLength(1, 1), 15);
        check.same("length of BUSINESS D P", fix.textLength(1, 2), 17);
        check.same("length of FILL", fix.textLength(1, 3), 10);

        SessionFix long1 = Check.bothOn();
        Check.sendUpTo(long1, 0, 199);
        long1.send(0, 999);
        check.same("a number of three digits", Check.wire(long1, 1), "200 BUSINESS 999");
        long1.deliver(1);
        check.same("number told", Check.wire(long1, 0), "2 RESEND 2");
        SessionFix zero = Check.bothOn();
        zero.send(1, 0);
        check.same("the key 0", Check.wire(zero, 0), "2 BUSINESS 0");
        SessionFix told = Check.bothOn();
        Check.sendUpTo(told, 0, 197);
        Check.ticks(told, 3);
        told.logout(0);
        Check.loseAll(told, 0);
        told.logon(0);
        told.deliver(1);
        Check.deliverAll(told, 0);
        check.same("it sends no more", told.next(0), 201);
        check.same("the wire is full of the resend", told.wire(1), 60);
    }

    private static void characters() {
        SessionFix fix = Check.bothOn();
        fix.send(0, 31);
        String text = "2 BUSINESS 31";
        check.same("length", fix.textLength(1, 0), text.length());
        for (int place = 0; place < text.length(); place++) {
            check.same("character " + place, fix.textChar(1, 0, place), text.charAt(place));
        }
        for (int character : new int[] {-1, text.length(), 100, Integer.MIN_VALUE, Integer.MAX_VALUE}) {
            check.refused("character " + character, fix, NO_INDEX, () -> fix.textChar(1, 0, character));
        }
    }

    private static void handled() {
        SessionFix fix = Check.bothOn();
        check.refused("no key yet", fix, NO_INDEX, () -> fix.handledKey(1, 0));
        fix.send(0, 0);
        fix.send(0, 999);
        fix.send(0, 0);
        fix.send(1, 4);
        Check.deliverAll(fix, 1);
        check.same("handled(1)", fix.handled(1), 3);
        check.same("handled(0)", fix.handled(0), 0);
        check.same("keys", Check.keys(fix, 1), "0 999 0");
        check.refused("behind the last", fix, NO_INDEX, () -> fix.handledKey(1, 3));
        check.refused("ahead of the first", fix, NO_INDEX, () -> fix.handledKey(1, -1));
    }

    private static void doubles() {
        SessionFix fix = Check.bothOn();
        fix.send(0, 5);
        fix.again(0, 2);
        fix.again(0, 3);
        Check.deliverAll(fix, 1);
        check.same("possible doubles", fix.doubles(1), 2);
        check.same("of one side", fix.doubles(0), 0);
        check.same("handled once", Check.keys(fix, 1), "5");
        fix.send(0, 5);
        fix.deliver(1);
        check.same("no double without the mark", fix.doubles(1), 2);
        check.same("handled twice then", Check.keys(fix, 1), "5 5");
    }

    private static void agreed() {
        SessionFix fix = Check.bothOn();
        fix.send(0, 5);
        fix.send(0, 6);
        fix.again(0, 2);
        fix.send(0, 5);
        fix.send(0, 7);
        check.same("nothing has come", fix.agreed(1), 0);
        fix.deliver(1);
        check.same("one has come", fix.agreed(1), 1);
        fix.deliver(1);
        fix.deliver(1);
        check.same("a possible double is passed over", fix.agreed(1), 2);
        fix.deliver(1);
        check.same("a key sent anew is not", fix.agreed(1), 3);
        fix.deliver(1);
        check.same("all have come", fix.agreed(1), 4);
        check.same("of the other side none", fix.agreed(0), 0);
        fix.send(0, 8);
        fix.send(0, 9);
        fix.lose(1);
        fix.deliver(1);
        check.same("a gap", fix.agreed(1), 4);
        fix.deliver(0);
        fix.deliver(1);
        check.same("half filled", fix.agreed(1), 5);

        SessionFix anew = Check.bothOn();
        anew.send(0, 5);
        anew.send(0, 5);
        anew.send(0, 6);
        anew.again(0, 2);
        anew.send(0, 7);
        Check.deliverAll(anew, 1);
        check.same("a key sent anew without the mark is held against", anew.agreed(1), 4);
    }
}
