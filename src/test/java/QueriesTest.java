/** Promises 11 to 22: what is. (What they refuse is in RefusalsTest.) */
public final class QueriesTest {
    private static final Check check = new Check();

    public static void main(String[] args) {
        constants();
        for (int self = 0; self < 2; self++) {
            states(self);
            nextNumbers(self);
            expectedNumbers(self);
            asking(self);
            wires(self);
            numbersOnTheWire(self);
            textOfEachKind(self);
            textOfMarks(self);
            textOfLongNumbers(self);
            lengthOfTexts(self);
            charactersOfAText(self);
            handledMessages(self);
            handledKeys(self);
            doublesOfADay(self);
            agreedUpToWhatIsExpected(self);
            agreedButPossibleDoubles(self);
            agreedAcrossAGap(self);
            queriesChangeNothing(self);
        }
        check.end();
    }

    private static void constants() {
        check.sentence("The constants");
        check.same("NONE", SessionFix.NONE, -1);
        check.same("OFF", SessionFix.OFF, 0);
        check.same("WAITING", SessionFix.WAITING, 1);
        check.same("ON", SessionFix.ON, 2);
        check.same("LOGON", SessionFix.LOGON, 0);
        check.same("HEARTBEAT", SessionFix.HEARTBEAT, 1);
        check.same("TEST", SessionFix.TEST, 2);
        check.same("RESEND", SessionFix.RESEND, 3);
        check.same("FILL", SessionFix.FILL, 4);
        check.same("BUSINESS", SessionFix.BUSINESS, 5);
        check.same("LOGOUT", SessionFix.LOGOUT, 6);
    }

    private static void states(int self) {
        check.sentence("stateOf: Returns OFF, WAITING or ON");
        Fix fix = new Fix();
        check.same("at first", fix.stateOf(self), 0);
        fix.logon(self);
        check.same("behind a logon", fix.stateOf(self), 1);
        check.same("the other", fix.stateOf(1 - self), 0);
        fix.deliver(1 - self);
        check.same("by a LOGON that asks", fix.stateOf(1 - self), 2);
        check.same("the side yet", fix.stateOf(self), 1);
        fix.deliver(self);
        check.same("by a LOGON that answers", fix.stateOf(self), 2);
        fix.logout(self);
        check.same("behind a logout", fix.stateOf(self), 0);
        check.same("the other yet", fix.stateOf(1 - self), 2);
        fix.deliver(1 - self);
        check.same("by a LOGOUT", fix.stateOf(1 - self), 0);
    }

    private static void nextNumbers(int self) {
        check.sentence("next: Returns the number of the next message of a side");
        Fix fix = new Fix();
        check.same("at first", fix.next(self), 1);
        fix.logon(self);
        check.same("behind a LOGON", fix.next(self), 2);
        check.same("of the other", fix.next(1 - self), 1);
        fix.deliver(1 - self);
        check.same("behind its answer", fix.next(1 - self), 2);
        fix.deliver(self);
        check.same("next is the number of the next", fix.next(self), fix.send(self, 5));
        check.same("behind it", fix.next(self), 3);
        check.same("behind the 200th", Make.sent(self, 200).next(self), 201);
    }

    private static void expectedNumbers(int self) {
        check.sentence("expected: Returns the number that a side expects");
        Fix fix = Make.bothOn();
        check.same("behind a LOGON", fix.expected(self), 2);
        fix.send(1 - self, 5);
        check.same("what is on the wire is expected yet", fix.expected(self), 2);
        fix.deliver(self);
        check.same("behind it", fix.expected(self), 3);
        fix.send(1 - self, 6);
        fix.lose(self);
        check.same("what is lost is expected yet", fix.expected(self), 3);
        check.same("of the other", fix.expected(1 - self), 2);
        Fix most = new Fix();
        most.logon(self);
        most.deliver(1 - self);
        most.deliver(self);
        for (int number = 2; number <= 200; number++) {
            most.send(self, number);
            most.deliver(1 - self);
        }
        check.same("behind the 200th", most.expected(1 - self), 201);
        check.same("its keys", most.handled(1 - self), 199);
        check.same("all agreed", most.agreed(1 - self), 199);
    }

    private static void asking(int self) {
        check.sentence("isAsking: Tells whether a side has a resend waiting");
        check.same("at first", new Fix().isAsking(self), false);
        Fix fix = Make.bothOn();
        check.same("with no gap", fix.isAsking(self), false);
        Make.gap(fix, self);
        check.same("with one", fix.isAsking(self), true);
        check.same("the other has none", fix.isAsking(1 - self), false);
        fix.deliver(1 - self);
        check.same("answered, but not come", fix.isAsking(self), true);
        check.same("the one that answered has none", fix.isAsking(1 - self), false);
        fix.deliver(self);
        check.same("come", fix.isAsking(self), false);
    }

    private static void wires(int self) {
        check.sentence("wire: Returns how many messages are on the wire to a side");
        Fix fix = Make.onTheWire(self, 3);
        check.same("to the side", fix.wire(self), 3);
        check.same("to the other", fix.wire(1 - self), 0);
        fix.deliver(self);
        check.same("behind one that came", fix.wire(self), 2);
        fix.lose(self);
        check.same("behind one that was lost", fix.wire(self), 1);
        fix.lose(self);
        check.same("behind the last", fix.wire(self), 0);
    }

    private static void numbersOnTheWire(int self) {
        check.sentence("numberAt: Returns the number of a message on the wire to a side");
        Fix fix = Make.onTheWire(self, 3);
        fix.send(self, 1);
        check.same("numbers", Check.numbers(fix, self), "2 3 4");
        check.same("of the other wire", Check.numbers(fix, 1 - self), "2");
        fix.lose(self);
        check.same("behind one that is lost", Check.numbers(fix, self), "3 4");
        fix.deliver(self);
        fix.lose(1 - self);
        fix.deliver(1 - self);
        check.same("those sent again have their own", Check.numbers(fix, self), "4 2 3 4 5");
    }

    private static void textOfEachKind(int self) {
        check.sentence("its number, a space, the name of its kind, for a RESEND and a FILL a space and the number that "
                + "it tells, for a BUSINESS message a space and its key");
        Fix fix = Make.bothOn();
        fix.send(1 - self, 31);
        Make.ticks(fix, 5);
        fix.logout(1 - self);
        check.same("BUSINESS, HEARTBEAT, TEST, LOGOUT", Check.wire(fix, self),
                "2 BUSINESS 31, 3 HEARTBEAT, 4 TEST, 5 LOGOUT");
        fix.logon(1 - self);
        check.same("LOGON", Check.wire(fix, self), "6 LOGON");
        fix.deliver(self);
        check.same("LOGON, RESEND", Check.wire(fix, 1 - self), "4 LOGON, 5 RESEND 2");
        fix.deliver(1 - self);
        fix.deliver(1 - self);
        check.same("RESEND, BUSINESS, FILL", Check.wire(fix, self), "7 RESEND 2, 2 BUSINESS 31 D, 3 FILL 8 D");
    }

    private static void textOfMarks(int self) {
        check.sentence("for one that is marked as sent again a space and the letter D, for a possible double a space "
                + "and the letter P (with both first D)");
        Fix fix = Make.bothOn();
        fix.send(1 - self, 7);
        fix.again(1 - self, 2);
        check.same("no mark, P", Check.wire(fix, self), "2 BUSINESS 7, 3 BUSINESS 7 P");
        fix.lose(self);
        fix.deliver(self);
        fix.deliver(1 - self);
        check.same("D, D P", Check.wire(fix, self), "2 BUSINESS 7 D, 3 BUSINESS 7 D P");
        Make.deliverAll(fix, self);
        fix.again(1 - self, 3);
        check.same("one sent again is kept without the mark", Check.wire(fix, self), "4 BUSINESS 7 P");
    }

    private static void textOfLongNumbers(int self) {
        check.sentence("as \"7 BUSINESS 31 D\"");
        Fix fix = Make.bothOn();
        for (int number = 2; number <= 100; number++) {
            fix.send(1 - self, number * 10 - 1);
        }
        fix.send(1 - self, 999);
        check.same("one digit", Check.text(fix, self, 0), "2 BUSINESS 19");
        check.same("9", Check.text(fix, self, 7), "9 BUSINESS 89");
        check.same("10", Check.text(fix, self, 8), "10 BUSINESS 99");
        check.same("11", Check.text(fix, self, 9), "11 BUSINESS 109");
        Make.loseAll(fix, self);
        fix.send(1 - self, 0);
        check.same("three digits, and the key 0", Check.wire(fix, self), "102 BUSINESS 0");
        fix.again(1 - self, 101);
        check.same("and the key 999", Check.lastText(fix, self), "103 BUSINESS 999 P");
        check.same("what the 99th tells is there", fix.again(1 - self, 99), 104);
        check.same("its key", Check.lastText(fix, self), "104 BUSINESS 989 P");
        Fix most = Make.sent(1 - self, 199);
        most.send(1 - self, 999);
        check.same("the last number and the last key", Check.wire(most, self), "200 BUSINESS 999");
        check.same("as many characters", most.textLength(self, 0), 16);
    }

    private static void lengthOfTexts(int self) {
        check.sentence("textLength: Returns how many characters a message on the wire to a side has as text");
        Fix fix = Make.bothOn();
        fix.send(1 - self, 7);
        fix.again(1 - self, 2);
        Make.ticks(fix, 5);
        fix.logout(1 - self);
        String[] texts = {"2 BUSINESS 7", "3 BUSINESS 7 P", "4 HEARTBEAT", "5 TEST", "6 LOGOUT"};
        for (int place = 0; place < texts.length; place++) {
            check.same("length of " + texts[place], fix.textLength(self, place), texts[place].length());
        }
        fix.logon(1 - self);
        check.same("length of 7 LOGON", fix.textLength(self, 0), 7);
        fix.deliver(self);
        check.same("length of 5 RESEND 2", fix.textLength(1 - self, 1), 10);
        fix.deliver(1 - self);
        fix.deliver(1 - self);
        String[] again = {"8 RESEND 2", "2 BUSINESS 7 D", "3 BUSINESS 7 D P", "4 FILL 9 D"};
        for (int place = 0; place < again.length; place++) {
            check.same("length of " + again[place], fix.textLength(self, place), again[place].length());
        }
    }

    private static void charactersOfAText(int self) {
        check.sentence("textChar: Returns a character of that text");
        Fix fix = Make.onTheWire(self, 1);
        fix.send(1 - self, 31);
        String text = "3 BUSINESS 31";
        for (int character = 0; character < text.length(); character++) {
            check.same("character " + character, fix.textChar(self, 1, character), text.charAt(character));
        }
    }

    private static void handledMessages(int self) {
        check.sentence("handled: Returns how many BUSINESS messages a side has handled in this day");
        Fix fix = Make.onTheWire(self, 2);
        check.same("on the wire", fix.handled(self), 0);
        fix.deliver(self);
        check.same("the first", fix.handled(self), 1);
        fix.deliver(self);
        check.same("the second", fix.handled(self), 2);
        fix.again(1 - self, 2);
        fix.deliver(self);
        check.same("a possible double is not handled", fix.handled(self), 2);
        Make.ticks(fix, 3);
        fix.deliver(self);
        check.same("nor is a HEARTBEAT", fix.handled(self), 2);
        check.same("the other", fix.handled(1 - self), 0);
        fix.crash(0);
        check.same("behind a crash", fix.handled(self), 2);
        fix.crash(1);
        fix.endDay();
        check.same("in a new day", fix.handled(self), 0);
    }

    private static void handledKeys(int self) {
        check.sentence("handledKey: Returns the key of a BUSINESS message that a side handled");
        Fix fix = Make.bothOn();
        fix.send(1 - self, 0);
        fix.send(1 - self, 999);
        fix.send(1 - self, 0);
        fix.send(self, 4);
        Make.deliverAll(fix, self);
        Make.deliverAll(fix, 1 - self);
        check.same("the first", fix.handledKey(self, 0), 0);
        check.same("the second", fix.handledKey(self, 1), 999);
        check.same("the last", fix.handledKey(self, 2), 0);
        check.same("of the other", Check.keys(fix, 1 - self), "4");
    }

    private static void doublesOfADay(int self) {
        check.sentence("doubles: Returns how many doubles a side has had in this day");
        Fix fix = Make.bothOn();
        fix.send(1 - self, 5);
        fix.again(1 - self, 2);
        fix.again(1 - self, 3);
        check.same("on the wire", fix.doubles(self), 0);
        fix.deliver(self);
        check.same("the first is none", fix.doubles(self), 0);
        fix.deliver(self);
        fix.deliver(self);
        check.same("possible doubles", fix.doubles(self), 2);
        check.same("of the other", fix.doubles(1 - self), 0);
        fix.crash(0);
        fix.crash(1);
        check.same("behind a crash", fix.doubles(self), 2);
        fix.endDay();
        check.same("in a new day", fix.doubles(self), 0);
    }

    private static void agreedUpToWhatIsExpected(int self) {
        check.sentence("gone through from the number 1 on up to the one ahead of what the side expects");
        check.same("at first", new Fix().agreed(self), 0);
        Fix fix = Make.onTheWire(self, 3);
        for (int come = 0; come < 3; come++) {
            check.same("with " + come, fix.agreed(self), come);
            fix.deliver(self);
        }
        check.same("with all", fix.agreed(self), 3);
        check.same("the other handled none", fix.agreed(1 - self), 0);
        fix.send(1 - self, 9);
        check.same("what the store has beyond is not held against", fix.agreed(self), 3);
        fix.crash(0);
        fix.crash(1);
        check.same("behind a crash", fix.agreed(self), 3);
        fix.endDay();
        check.same("in a new day", fix.agreed(self), 0);
    }

    private static void agreedButPossibleDoubles(int self) {
        check.sentence("its BUSINESS messages, but possible doubles of keys that came ahead");
        Fix fix = Make.bothOn();
        fix.send(1 - self, 5);
        fix.send(1 - self, 6);
        fix.again(1 - self, 2);
        fix.send(1 - self, 5);
        fix.again(1 - self, 3);
        fix.send(1 - self, 7);
        int[] agreed = {1, 2, 2, 3, 3, 4};
        for (int due : agreed) {
            fix.deliver(self);
            check.same("with the number " + (fix.expected(self) - 1), fix.agreed(self), due);
        }
        check.same("keys", Check.keys(fix, self), "5 6 5 7");
    }

    private static void agreedAcrossAGap(int self) {
        check.sentence("held against the keys handled, one by one, until two are unlike or one row ends");
        Fix fix = Make.onTheWire(self, 1);
        fix.deliver(self);
        Make.gap(fix, self);
        check.same("a gap", fix.agreed(self), 1);
        fix.deliver(1 - self);
        fix.deliver(self);
        check.same("half filled", fix.agreed(self), 2);
        fix.deliver(self);
        check.same("filled", fix.agreed(self), 3);
        Make.ticks(fix, 3);
        fix.deliver(self);
        fix.send(1 - self, 8);
        fix.deliver(self);
        check.same("other kinds are passed over", fix.agreed(self), 4);
    }

    private static void queriesChangeNothing(int self) {
        check.sentence("what is");
        Fix asked = Make.busy(self);
        Fix left = Make.busy(self);
        check.same("asked twice", Check.whole(asked), Check.whole(asked));
        for (int i = 0; i < 9; i++) {
            Check.plain(asked, i % 2);
            check.same("tick", asked.tick(), left.tick());
        }
        check.same("what comes of it", Check.whole(asked), Check.whole(left));
    }
}
