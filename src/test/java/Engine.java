/** The calls of the document's face, for the class and for the model of it. */
interface Engine {
    int logon(int side);

    int logout(int side);

    boolean crash(int side);

    int endDay();

    int send(int side, int key);

    int again(int side, int number);

    int deliver(int side);

    int lose(int side);

    int tick();

    int stateOf(int side);

    int next(int side);

    int expected(int side);

    boolean isAsking(int side);

    int wire(int side);

    int numberAt(int side, int place);

    int textLength(int side, int place);

    char textChar(int side, int place, int character);

    int handled(int side);

    int handledKey(int side, int place);

    int doubles(int side);

    int agreed(int side);
}
