import java.util.ArrayList;
import java.util.List;

/** Long runs of calls, the same ones each time, with each answer held against the model. */
public final class ModelTest {
    private static final int CALLS = 512;
    private static final int RUNS = 60;

    private enum Call { LOGON, LOGOUT, CRASH, END_DAY, SEND, AGAIN, DELIVER, LOSE, TICK, WRONG }

    /** How often each call comes, in the order of the calls. */
    private static final int[][] HABITS = {
        {4, 1, 1, 2, 20, 8, 50, 4, 10, 2},
        {6, 0, 1, 0, 60, 20, 30, 6, 1, 0},
        {20, 1, 4, 6, 20, 8, 40, 20, 10, 2},
        {10, 0, 0, 0, 10, 4, 60, 8, 30, 1},
        {10, 3, 6, 10, 10, 3, 60, 2, 3, 1},
        {10, 0, 0, 0, 90, 5, 4, 2, 2, 0},
        {20, 0, 1, 0, 4, 1, 40, 1, 20, 0},
        {5, 0, 0, 0, 3, 1, 90, 20, 12, 0},
        {10, 1, 1, 0, 70, 30, 10, 10, 3, 0},
    };

    private static final Check check = new Check();
    private static long seed;

    public static void main(String[] args) {
        for (int habit = 0; habit < HABITS.length; habit++) {
            for (int run = 0; run < RUNS; run++) {
                seed = habit * 1000003L + run * 7919L + 1;
                walk(HABITS[habit], "habit " + habit + " run " + run);
            }
        }
        check.end();
    }

    /** A row of numbers that is the same each time. */
    private static int draw(int bound) {
        seed = seed * 6364136223846793005L + 1442695040888963407L;
        return (int) ((seed >>> 33) % bound);
    }

    private static Call drawCall(int[] habit) {
        int sum = 0;
        for (int often : habit) {
            sum += often;
        }
        int drawn = draw(sum);
        int call = 0;
        while (drawn >= habit[call]) {
            drawn -= habit[call];
            call++;
        }
        return Call.values()[call];
    }

    private static void walk(int[] habit, String name) {
        SessionFix fix = new SessionFix();
        Model model = new Model();
        List<String> calls = new ArrayList<>();
        int keys = 1 + draw(3) * 20 + draw(2) * 939;
        int oneSided = draw(3);
        for (int i = 0; i < CALLS; i++) {
            Call call = drawCall(habit);
            int side = drawSide(call, oneSided);
            int value = drawValue(call, fix, side, keys);
            calls.add(call + "(" + side + ", " + value + ")");
            String got = outcome(() -> ofClass(fix, call, side, value));
            String due = outcome(() -> ofModel(model, call, side, value));
            boolean isRight = got.equals(due) && looksAlike(fix, model, i);
            check.same(name + " call " + i, isRight, true);
            if (!isRight) {
                check.tell(got + ", due is " + due + " by " + calls);
                check.tell(Check.whole(fix));
                check.tell(model.plain(0) + " " + model.wire(0) + " / " + model.plain(1) + " " + model.wire(1));
                return;
            }
        }
    }

    /** Some runs favour a side, so that the other hears less. */
    private static int drawSide(Call call, int oneSided) {
        if (call == Call.WRONG) {
            return draw(4) - 1;
        }
        return oneSided == 0 && draw(4) > 0 ? 0 : draw(2);
    }

    private static int drawValue(Call call, SessionFix fix, int side, int keys) {
        switch (call) {
            case SEND:
                return draw(keys);
            case AGAIN:
                return draw(fix.next(side) + 1);
            case WRONG:
                return draw(12);
            default:
                return 0;
        }
    }

    private static boolean looksAlike(SessionFix fix, Model model, int call) {
        for (int side = 0; side < 2; side++) {
            if (!Check.plain(fix, side).equals(model.plain(side))) {
                return false;
            }
            if (call % 8 == 0 && !Check.wire(fix, side).equals(model.wire(side))) {
                return false;
            }
        }
        return true;
    }

    private interface Answer {
        int get();
    }

    private static String outcome(Answer answer) {
        try {
            return String.valueOf(answer.get());
        } catch (RuntimeException thrown) {
            return thrown.getClass().getName();
        }
    }

    private static int ofClass(SessionFix fix, Call call, int side, int value) {
        switch (call) {
            case LOGON:
                return fix.logon(side);
            case LOGOUT:
                return fix.logout(side);
            case CRASH:
                return fix.crash(side) ? 1 : 0;
            case END_DAY:
                return fix.endDay();
            case SEND:
                return fix.send(side, value);
            case AGAIN:
                return fix.again(side, value);
            case DELIVER:
                return fix.deliver(side);
            case LOSE:
                return fix.lose(side);
            case TICK:
                return fix.tick();
            default:
                return value < 6 ? fix.send(side, value < 3 ? -1 - value : 998 + value) : fix.again(side, value - 8);
        }
    }

    private static int ofModel(Model model, Call call, int side, int value) {
        switch (call) {
            case LOGON:
                return model.logon(side);
            case LOGOUT:
                return model.logout(side);
            case CRASH:
                return model.crash(side);
            case END_DAY:
                return model.endDay();
            case SEND:
                return model.send(side, value);
            case AGAIN:
                return model.again(side, value);
            case DELIVER:
                return model.deliver(side);
            case LOSE:
                return model.lose(side);
            case TICK:
                return model.tick();
            default:
                return value < 6 ? model.send(side, value < 3 ? -1 - value : 998 + value) : model.again(side, value - 8);
        }
    }
}
