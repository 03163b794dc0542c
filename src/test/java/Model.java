import java.util.ArrayDeque;
import java.util.ArrayList;
import java.util.Arrays;
import java.util.HashSet;
import java.util.List;
import java.util.Set;

/** The document once more, written apart from the class and with no eye on what it makes. */
final class Model implements Engine {
    enum Kind { LOGON, HEARTBEAT, TEST, RESEND, FILL, BUSINESS, LOGOUT }

    record Message(int number, Kind kind, int told, boolean asks, boolean sentAgain, boolean possibleDouble) {
        String text() {
            List<String> words = new ArrayList<>(Arrays.asList(String.valueOf(number), kind.name()));
            if (kind == Kind.RESEND || kind == Kind.FILL || kind == Kind.BUSINESS) {
                words.add(String.valueOf(told));
            }
            if (sentAgain) {
                words.add("D");
            }
            if (possibleDouble) {
                words.add("P");
            }
            return String.join(" ", words);
        }

        Message again() {
            return new Message(number, kind, told, asks, true, possibleDouble);
        }
    }

    final class Party {
        Party other;
        int state;
        List<Message> store = new ArrayList<>();
        List<Integer> keys = new ArrayList<>();
        int expected = 1;
        int doubles;
        /** The time with which the resend waits no more; -1 if none waits. */
        int waitsUntil = -1;
        int heard;
        int put;
        boolean tested;
        ArrayDeque<Message> wire = new ArrayDeque<>();

        void reset() {
            store = new ArrayList<>();
            keys = new ArrayList<>();
            expected = 1;
            doubles = 0;
            wire.clear();
        }

        void off() {
            state = 0;
            waitsUntil = -1;
        }

        void transmit(Message message) {
            put = time;
            if (other.wire.size() < 60) {
                other.wire.addLast(message);
            }
        }

        void originate(Kind kind, int told, boolean asks, boolean possibleDouble) {
            if (store.size() < 200) {
                Message message = new Message(store.size() + 1, kind, told, asks, false, possibleDouble);
                store.add(message);
                transmit(message);
            }
        }

        void gapFound() {
            if (waitsUntil == -1) {
                originate(Kind.RESEND, expected, false, false);
                waitsUntil = time + 4;
            }
        }

        void answer(int from) {
            List<Message> answers = new ArrayList<>();
            for (Message message : store.subList(Math.min(from - 1, store.size()), store.size())) {
                Message last = answers.isEmpty() ? null : answers.get(answers.size() - 1);
                if (message.kind == Kind.BUSINESS) {
                    answers.add(message.again());
                } else if (last != null && last.kind == Kind.FILL) {
                    answers.set(answers.size() - 1,
                            new Message(last.number, Kind.FILL, message.number + 1, false, true, false));
                } else {
                    answers.add(new Message(message.number, Kind.FILL, message.number + 1, false, true, false));
                }
            }
            answers.forEach(this::transmit);
        }

        void logonComes(Message message) {
            if (message.number < expected) {
                off();
                return;
            }
            boolean gap = message.number > expected;
            if (!gap) {
                expected++;
                waitsUntil = -1;
            }
            if (message.asks) {
                state = 2;
                waitsUntil = -1;
                originate(Kind.LOGON, 0, false, false);
            } else if (state == 1) {
                state = 2;
            }
            if (gap && state == 2) {
                gapFound();
            }
        }

        void comes(Message message) {
            heard = time;
            tested = false;
            if (message.kind == Kind.LOGON) {
                logonComes(message);
            } else if (state != 2) {
                return;
            } else if (message.number < expected) {
                if (message.sentAgain) {
                    doubles++;
                } else {
                    off();
                }
            } else if (message.number > expected) {
                if (message.kind == Kind.RESEND) {
                    answer(message.told);
                }
                gapFound();
            } else {
                waitsUntil = -1;
                expected = message.kind == Kind.FILL ? message.told : expected + 1;
                handle(message);
            }
        }

        void handle(Message message) {
            if (message.kind == Kind.TEST) {
                originate(Kind.HEARTBEAT, 0, false, false);
            } else if (message.kind == Kind.RESEND) {
                answer(message.told);
            } else if (message.kind == Kind.LOGOUT) {
                originate(Kind.LOGOUT, 0, false, false);
                off();
            } else if (message.kind == Kind.BUSINESS) {
                if (message.possibleDouble && keys.contains(message.told)) {
                    doubles++;
                } else {
                    keys.add(message.told);
                }
            }
        }

        void ticked() {
            if (waitsUntil == time) {
                waitsUntil = -1;
            }
            if (state != 2) {
                return;
            }
            if (time - heard >= 8) {
                off();
            } else if (time - heard >= 5 && !tested) {
                originate(Kind.TEST, 0, false, false);
                tested = true;
            } else if (time - put >= 3) {
                originate(Kind.HEARTBEAT, 0, false, false);
            }
        }

        int agreed() {
            List<Integer> told = new ArrayList<>();
            Set<Integer> ahead = new HashSet<>();
            for (Message message : other.store.subList(0, Math.min(expected - 1, other.store.size()))) {
                if (message.kind == Kind.BUSINESS) {
                    if (ahead.add(message.told) || !message.possibleDouble) {
                        told.add(message.told);
                    }
                }
            }
            int agreed = 0;
            while (agreed < told.size() && agreed < keys.size() && told.get(agreed).equals(keys.get(agreed))) {
                agreed++;
            }
            return agreed;
        }
    }

    private final Party[] parties = {new Party(), new Party()};
    private int time;

    Model() {
        parties[0].other = parties[1];
        parties[1].other = parties[0];
    }

    Party party(int side) {
        if (side < 0 || side > 1) {
            throw new IndexOutOfBoundsException();
        }
        return parties[side];
    }

    private static void allow(boolean allowed) {
        if (!allowed) {
            throw new IllegalStateException();
        }
    }

    @Override
    public int logon(int side) {
        Party party = party(side);
        allow(party.state == 0 && party.store.size() < 200);
        party.wire.clear();
        party.other.wire.clear();
        party.state = 1;
        party.originate(Kind.LOGON, 0, true, false);
        return party.store.size();
    }

    @Override
    public int logout(int side) {
        Party party = party(side);
        allow(party.state == 2 && party.store.size() < 200);
        party.originate(Kind.LOGOUT, 0, false, false);
        party.off();
        return party.store.size();
    }

    @Override
    public boolean crash(int side) {
        int state = party(side).state;
        party(side).off();
        return state == 2;
    }

    @Override
    public int endDay() {
        allow(parties[0].state == 0 && parties[1].state == 0);
        int sent = parties[0].store.size() + parties[1].store.size();
        parties[0].reset();
        parties[1].reset();
        return sent;
    }

    @Override
    public int send(int side, int key) {
        Party party = party(side);
        if (key < 0 || key > 999) {
            throw new IllegalArgumentException();
        }
        allow(party.state == 2 && party.store.size() < 200);
        party.originate(Kind.BUSINESS, key, false, false);
        return party.store.size();
    }

    @Override
    public int again(int side, int number) {
        Party party = party(side);
        if (number < 1 || number > party.store.size() || party.store.get(number - 1).kind != Kind.BUSINESS) {
            throw new IndexOutOfBoundsException();
        }
        allow(party.state == 2 && party.store.size() < 200);
        party.originate(Kind.BUSINESS, party.store.get(number - 1).told, false, true);
        return party.store.size();
    }

    @Override
    public int deliver(int side) {
        Party party = party(side);
        allow(!party.wire.isEmpty());
        Message message = party.wire.removeFirst();
        party.comes(message);
        return message.kind.ordinal();
    }

    @Override
    public int lose(int side) {
        Party party = party(side);
        allow(!party.wire.isEmpty());
        return party.wire.removeFirst().kind.ordinal();
    }

    @Override
    public int tick() {
        time++;
        parties[0].ticked();
        parties[1].ticked();
        return time;
    }

    @Override
    public int stateOf(int side) {
        return party(side).state;
    }

    @Override
    public int next(int side) {
        return party(side).store.size() + 1;
    }

    @Override
    public int expected(int side) {
        return party(side).expected;
    }

    @Override
    public boolean isAsking(int side) {
        return party(side).waitsUntil != -1;
    }

    @Override
    public int wire(int side) {
        return party(side).wire.size();
    }

    /** The lists throw what the document asks for a place that they have not. */
    private Message at(int side, int place) {
        return new ArrayList<>(party(side).wire).get(place);
    }

    @Override
    public int numberAt(int side, int place) {
        return at(side, place).number;
    }

    @Override
    public int textLength(int side, int place) {
        return at(side, place).text().length();
    }

    @Override
    public char textChar(int side, int place, int character) {
        String text = at(side, place).text();
        if (character < 0 || character >= text.length()) {
            throw new IndexOutOfBoundsException();
        }
        return text.charAt(character);
    }

    @Override
    public int handled(int side) {
        return party(side).keys.size();
    }

    @Override
    public int handledKey(int side, int place) {
        return party(side).keys.get(place);
    }

    @Override
    public int doubles(int side) {
        return party(side).doubles;
    }

    @Override
    public int agreed(int side) {
        return party(side).agreed();
    }
}
