import java.util.function.Consumer;
import java.util.function.Supplier;

/** Holds answers against what is due, and tells each that is another. */
final class Check {
    private static final int MOST_TOLD = 20;
    /** As many calls as the longest text of a message needs. */
    private static final int CALLS_OF_A_TEXT = 25;

    private String sentence = "";
    private int passed;
    private int failed;

    /** What is checked from here on belongs to this sentence of the document. */
    void sentence(String text) {
        sentence = text;
    }

    void same(String what, long got, long due) {
        count(got == due, what + " answered " + got + ", due is " + due);
    }

    void same(String what, boolean got, boolean due) {
        count(got == due, what + " answered " + got + ", due is " + due);
    }

    void same(String what, String got, String due) {
        count(got.equals(due), what + " answered \"" + got + "\", due is \"" + due + "\"");
    }

    void count(boolean isRight, String text) {
        if (isRight) {
            passed++;
            return;
        }
        failed++;
        if (failed <= MOST_TOLD) {
            System.out.println(text + (sentence.isEmpty() ? "" : " (" + sentence + ")"));
        }
    }

    /**
     * The call throws just this exception and changes nothing: an object that
     * is made alike and not called looks the same now, and whatever comes then.
     */
    void refused(String what, Class<? extends RuntimeException> due, Supplier<Fix> make, Consumer<Fix> call) {
        for (Future future : Future.values()) {
            Fix called = make.get();
            Fix left = make.get();
            String got = outcome(() -> call.accept(called));
            same(what + " throws", got, due.getName());
            // a call as well, so that both have as many left
            left.wire(0);
            same(what + " leaves all as it was, " + future, future.story(called), future.story(left));
        }
    }

    /** The call throws nothing. */
    void allowed(String what, Supplier<Fix> make, Consumer<Fix> call) {
        Fix fix = make.get();
        same(what + " throws", outcome(() -> call.accept(fix)), "nothing");
    }

    static String outcome(Runnable call) {
        try {
            call.run();
            return "nothing";
        } catch (RuntimeException thrown) {
            return thrown.getClass().getName();
        }
    }

    /** Ends the program with 1 if an answer was wrong. */
    void end() {
        System.out.println(passed + " passed, " + failed + " failed");
        if (failed != 0 || passed == 0) {
            System.exit(1);
        }
    }

    /** What may come behind a call: it shows also what an object hides, such as when a side heard anything. */
    private enum Future {
        NOW, SILENCE, TALK;

        String story(Fix fix) {
            StringBuilder story = new StringBuilder();
            for (int i = 0; this != NOW && i < 9; i++) {
                if (this == TALK) {
                    deliverOne(fix, i % 2);
                }
                story.append(fix.tick()).append(brief(fix, 0)).append(brief(fix, 1));
            }
            return story.append(this == SILENCE ? "" : whole(fix)).toString();
        }

        private static void deliverOne(Fix fix, int side) {
            if (fix.wire(side) > 0) {
                fix.deliver(side);
            }
        }

        private static String brief(Fix fix, int side) {
            return " " + fix.stateOf(side) + "," + fix.next(side) + "," + fix.isAsking(side) + "," + fix.wire(side);
        }
    }

    // ---- what an object shows, as text

    static String text(Fix fix, int side, int place) {
        StringBuilder text = new StringBuilder();
        int length = fix.textLength(side, place);
        for (int character = 0; character < length; character++) {
            text.append(fix.textChar(side, place, character));
        }
        return text.toString();
    }

    static String lastText(Fix fix, int side) {
        return text(fix, side, fix.wire(side) - 1);
    }

    /** All messages on the wire to a side, with a comma between them. */
    static String wire(Fix fix, int side) {
        StringBuilder text = new StringBuilder();
        int count = fix.wire(side);
        for (int place = 0; place < count; place++) {
            text.append(place == 0 ? "" : ", ").append(text(fix, side, place));
        }
        return text.toString();
    }

    static String keys(Fix fix, int side) {
        StringBuilder text = new StringBuilder();
        int count = fix.handled(side);
        for (int place = 0; place < count; place++) {
            text.append(place == 0 ? "" : " ").append(fix.handledKey(side, place));
        }
        return text.toString();
    }

    static String numbers(Fix fix, int side) {
        StringBuilder text = new StringBuilder();
        int count = fix.wire(side);
        for (int place = 0; place < count; place++) {
            text.append(place == 0 ? "" : " ").append(fix.numberAt(side, place));
        }
        return text.toString();
    }

    /** What can be seen of a side but the texts on its wire. */
    static String plain(Fix fix, int side) {
        return "state " + fix.stateOf(side) + " next " + fix.next(side) + " expected " + fix.expected(side)
                + " asking " + fix.isAsking(side) + " wire: " + numbers(fix, side)
                + " handled: " + keys(fix, side)
                + " doubles " + fix.doubles(side) + " agreed " + fix.agreed(side);
    }

    /** All that can be seen, with as many of the texts as there are calls left for. */
    static String whole(Fix fix) {
        StringBuilder all = new StringBuilder(plain(fix, 0) + " / " + plain(fix, 1));
        for (int side = 0; side < 2; side++) {
            int count = fix.wire(side);
            for (int place = 0; place < count && fix.callsLeft() > CALLS_OF_A_TEXT; place++) {
                all.append(" / ").append(text(fix, side, place));
            }
        }
        return all.toString();
    }
}
