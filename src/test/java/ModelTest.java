import java.util.ArrayList;
import java.util.List;

/** Long runs of calls, the same ones each time, with each answer held against the model. */
public final class ModelTest {
    private static final int CALLS = 512;
    private static final int RUNS = 300;

    private enum Call {
        LOGON, LOGOUT, CRASH, END_DAY, SEND, AGAIN, DELIVER, LOSE, TICK,
        STATE_OF, NEXT, EXPECTED, IS_ASKING, WIRE, NUMBER_AT, TEXT_LENGTH, TEXT_CHAR, HANDLED, HANDLED_KEY, DOUBLES,
        AGREED
    }

    private static final Call[] ALL = Call.values();
    private static final int FIRST_QUERY = Call.STATE_OF.ordinal();

    /** How often each call comes, in the order of the calls from LOGON to TICK. */
    private static final int[][] HABITS = {
        {4, 1, 1, 2, 20, 8, 50, 4, 10},
        {6, 0, 1, 0, 60, 20, 30, 6, 1},
        {20, 1, 4, 6, 20, 8, 40, 20, 10},
        {10, 0, 0, 0, 10, 4, 60, 8, 30},
        {10, 3, 6, 10, 10, 3, 60, 2, 3},
        {10, 0, 0, 0, 90, 5, 4, 2, 2},
        {20, 0, 1, 0, 4, 1, 40, 1, 20},
        {5, 0, 0, 0, 3, 1, 90, 20, 12},
        {10, 1, 1, 0, 70, 30, 10, 10, 3},
        {30, 1, 30, 1, 4, 1, 8, 1, 1},
    };

    private record Step(Call call, int side, int first, int second) {
        @Override
        public String toString() {
            return call + "(" + side + ", " + first + ", " + second + ")";
        }

        String answerOf(Engine engine) {
            try {
                return String.valueOf(perform(engine));
            } catch (RuntimeException thrown) {
                return thrown.getClass().getName();
            }
        }

        private int perform(Engine engine) {
            return call.ordinal() < FIRST_QUERY ? act(engine) : ask(engine);
        }

        private int act(Engine engine) {
            switch (call) {
                case LOGON:
                    return engine.logon(side);
                case LOGOUT:
                    return engine.logout(side);
                case CRASH:
                    return engine.crash(side) ? 1 : 0;
                case END_DAY:
                    return engine.endDay();
                case SEND:
                    return engine.send(side, first);
                case AGAIN:
                    return engine.again(side, first);
                case DELIVER:
                    return engine.deliver(side);
                case LOSE:
                    return engine.lose(side);
                default:
                    return engine.tick();
            }
        }

        private int ask(Engine engine) {
            switch (call) {
                case STATE_OF:
                    return engine.stateOf(side);
                case NEXT:
                    return engine.next(side);
                case EXPECTED:
                    return engine.expected(side);
                case IS_ASKING:
                    return engine.isAsking(side) ? 1 : 0;
                case WIRE:
                    return engine.wire(side);
                case NUMBER_AT:
                    return engine.numberAt(side, first);
                case TEXT_LENGTH:
                    return engine.textLength(side, first);
                case TEXT_CHAR:
                    return engine.textChar(side, first, second);
                case HANDLED:
                    return engine.handled(side);
                case HANDLED_KEY:
                    return engine.handledKey(side, first);
                case DOUBLES:
                    return engine.doubles(side);
                default:
                    return engine.agreed(side);
            }
        }
    }

    private static final Check check = new Check();
    private static long seed;

    public static void main(String[] args) {
        for (int habit = 0; habit < HABITS.length; habit++) {
            for (int run = 0; run < RUNS; run++) {
                seed = habit * 1000003L + run * 7919L + 1;
                walk(HABITS[habit], "habit " + habit + " run " + run);
            }
        }
        check.end();
    }

    /** A row of numbers that is the same each time. */
    private static int draw(int bound) {
        seed = seed * 6364136223846793005L + 1442695040888963407L;
        return (int) ((seed >>> 33) % bound);
    }

    private static void walk(int[] habit, String name) {
        Fix fix = new Fix();
        Model model = new Model();
        List<Step> steps = new ArrayList<>();
        int keys = 1 + draw(3) * 20 + draw(2) * 939;
        boolean isOneSided = draw(3) == 0;
        int queriesOfTen = draw(9);
        for (int i = 0; i < CALLS; i++) {
            boolean isQuery = draw(10) < queriesOfTen;
            Step step = isQuery ? drawQuery(model) : drawAction(habit, model, keys, isOneSided);
            steps.add(step);
            String due = step.answerOf(model);
            String got = step.answerOf(fix);
            if (!got.equals(due)) {
                check.same(name + ", the last of " + steps, got, due);
                return;
            }
        }
        check.same(name, steps.size(), CALLS);
    }

    private static Step drawAction(int[] habit, Model model, int keys, boolean isOneSided) {
        Call call = drawCall(habit);
        // some runs favour a side, so that the other hears less; and now and then there is no such side
        int side = draw(60) == 0 ? draw(4) - 1 : isOneSided && draw(4) > 0 ? 0 : draw(2);
        int value = 0;
        if (call == Call.SEND) {
            value = draw(40) == 0 ? draw(2) * 1001 - 1 : draw(keys);
        } else if (call == Call.AGAIN) {
            value = draw(model.next(side == 1 ? 1 : 0) + 2) - 1;
        }
        return new Step(call, side, value, 0);
    }

    private static Call drawCall(int[] habit) {
        int sum = 0;
        for (int often : habit) {
            sum += often;
        }
        int drawn = draw(sum);
        int call = 0;
        while (drawn >= habit[call]) {
            drawn -= habit[call];
            call++;
        }
        return ALL[call];
    }

    /** Places and characters are drawn from one ahead of the first to one behind the last. */
    private static Step drawQuery(Model model) {
        Call call = ALL[FIRST_QUERY + draw(ALL.length - FIRST_QUERY)];
        int side = draw(40) == 0 ? draw(4) - 1 : draw(2);
        int known = side == 1 ? 1 : 0;
        int count = call == Call.HANDLED_KEY ? model.handled(known) : model.wire(known);
        int place = draw(3) == 0 ? count - draw(3) : draw(count + 2) - 1;
        boolean isThere = place >= 0 && place < model.wire(known);
        int length = isThere ? model.textLength(known, place) : 0;
        return new Step(call, side, place, draw(length + 2) - 1);
    }
}
