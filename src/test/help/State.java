import java.util.StringJoiner;

/** All that an object tells of itself, but for how many findings there were. */
final class State {
    private static final int STATE = -3, NULL = -11, CAST = -13;
    private static final int LONGEST_READ = 6;

    private final Tried object;
    private final StringJoiner told = new StringJoiner("; ");

    private State(Tried object) {
        this.object = object;
    }

    /** Reads an object to its end: it is turned back and laid anew, and of no more use. */
    static String of(Tried object, int... collectedPlaces) {
        State state = new State(object);
        state.readSheets();
        state.readGround();
        state.readPast();
        state.readPosts(collectedPlaces);
        return state.told.toString();
    }

    private long read(String name, long... arguments) {
        long answer = object.ask(name, arguments);
        told.add(Tried.told(name, arguments) + " " + answer);
        return answer;
    }

    private void readSheets() {
        read("total", 8);
        for (int s = 0; s <= 3; s++) {
            for (int lane = 0; lane <= 3; lane++) {
                long first = read("at", s, lane, 0);
                for (int i = 1; i < LONGEST_READ && first != NULL && first != CAST; i++) {
                    read("at", s, lane, i);
                }
            }
        }
    }

    private void readGround() {
        for (int what = 0; what <= 6; what++) {
            read("total", what);
        }
        if (read("cutting") == STATE) {
            return;
        }
        long fences = read("total", 2);
        for (int f = 0; f < fences; f++) {
            read("end", f, 0);
            read("end", f, 1);
            read("kind", f);
            read("weightAs", f, 0);
            read("turns", f);
            read("sure", f);
        }
        long thirds = read("thirds");
        for (int i = 0; i < thirds; i++) {
            read("third", i, 0);
            read("third", i, 1);
            read("third", i, 2);
        }
        readAllCuttings();
    }

    private void readAllCuttings() {
        read("rank");
        read("far");
        for (int greatest = 0; greatest <= 1; greatest++) {
            read("best", greatest);
            read("bestRank", greatest);
        }
        long count = read("count");
        for (int r = 0; r < count; r++) {
            read("of", r);
            read("apart", r);
            read("way", r);
            read("crossings", r);
        }
    }

    private void readPast() {
        for (int undone = 0; undone <= 10 && read("back") != STATE; undone++) {
            read("cutting");
        }
    }

    /** A post is collected where another is refused; what is laid of them tells their order. */
    private void readPosts(int[] places) {
        for (int i = 0; i + 1 < places.length; i += 2) {
            read("post", places[i], places[i + 1]);
        }
        read("lay");
        read("cutting");
        long posts = read("total", 1);
        for (int a = 0; a < posts; a++) {
            for (int b = a + 1; b < posts; b++) {
                read("fence", a, b);
            }
        }
        read("count");
        read("total", 3);
    }
}
