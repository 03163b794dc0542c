/**
 * A SessionFix that counts its calls: the document promises nothing behind the
 * 512th, so a test that goes further would hold it to what is free.
 */
final class Fix implements Engine {
    private static final int MOST_CALLS = 512;

    private final SessionFix fix = new SessionFix();
    private int calls;

    private SessionFix counted() {
        calls++;
        if (calls > MOST_CALLS) {
            throw new AssertionError("the test makes more than " + MOST_CALLS + " calls of one object");
        }
        return fix;
    }

    int callsLeft() {
        return MOST_CALLS - calls;
    }

    @Override
    public int logon(int side) {
        return counted().logon(side);
    }

    @Override
    public int logout(int side) {
        return counted().logout(side);
    }

    @Override
    public boolean crash(int side) {
        return counted().crash(side);
    }

    @Override
    public int endDay() {
        return counted().endDay();
    }

    @Override
    public int send(int side, int key) {
        return counted().send(side, key);
    }

    @Override
    public int again(int side, int number) {
        return counted().again(side, number);
    }

    @Override
    public int deliver(int side) {
        return counted().deliver(side);
    }

    @Override
    public int lose(int side) {
        return counted().lose(side);
    }

    @Override
    public int tick() {
        return counted().tick();
    }

    @Override
    public int stateOf(int side) {
        return counted().stateOf(side);
    }

    @Override
    public int next(int side) {
        return counted().next(side);
    }

    @Override
    public int expected(int side) {
        return counted().expected(side);
    }

    @Override
    public boolean isAsking(int side) {
        return counted().isAsking(side);
    }

    @Override
    public int wire(int side) {
        return counted().wire(side);
    }

    @Override
    public int numberAt(int side, int place) {
        return counted().numberAt(side, place);
    }

    @Override
    public int textLength(int side, int place) {
        return counted().textLength(side, place);
    }

    @Override
    public char textChar(int side, int place, int character) {
        return counted().textChar(side, place, character);
    }

    @Override
    public int handled(int side) {
        return counted().handled(side);
    }

    @Override
    public int handledKey(int side, int place) {
        return counted().handledKey(side, place);
    }

    @Override
    public int doubles(int side) {
        return counted().doubles(side);
    }

    @Override
    public int agreed(int side) {
        return counted().agreed(side);
    }
}
