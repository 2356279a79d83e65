import java.util.ArrayList;
import java.util.Arrays;
import java.util.List;

/** What the tests of the bounds share: cases that are counted, states to begin with, and looks at all that can be seen. */
final class Checks {
    static final int BAD = -1, NO = -2, FULL = -3, NONE = -4;
    static final int ASK_NONE = -100000, ASK_BAD = -1000000, ASK_NO = -1000002;
    static final int LOWEST = Integer.MIN_VALUE, HIGHEST = Integer.MAX_VALUE;
    static final int[] BAD_DAYS = {LOWEST, -365, -1, 14601, 20000, HIGHEST};
    static final int[] BAD_WORDS = {LOWEST, -36, -1, 36, 37, HIGHEST};

    // The document promises nothing of an object behind its 512th call, and a state takes some calls too.
    private static final int LOOKS_AT_ONCE = 250;

    private int wrong = 0;
    private int cases = 0;

    interface State {
        void build(DoorCodes x);
    }

    interface Call {
        int on(DoorCodes x);
    }

    void due(String what, int got, int want) {
        cases++;
        if (got != want) {
            wrong++;
            System.out.println(what + " answered " + got + ", due is " + want);
        }
    }

    /** One call on a new object in that state. */
    void due(String what, State state, Call call, int want) {
        due(what, call.on(made(state)), want);
    }

    /** The call answers so, and nothing that can be seen is another behind it. */
    void refused(String what, State state, Call call, int want) {
        due(what, state, call, want);
        same(what, state, call);
    }

    /** Nothing that can be seen is another behind the call. */
    void same(String what, State state, Call call) {
        cases++;
        int[] before = lookAll(state, x -> 0);
        int[] behind = lookAll(state, call);
        if (!Arrays.equals(before, behind)) {
            wrong++;
            System.out.println(what + ": something has changed, at " + Arrays.mismatch(before, behind));
        }
    }

    /** Something that can be seen is another behind the call: so the looks would see it. */
    void changes(String what, State state, Call call) {
        cases++;
        if (Arrays.equals(lookAll(state, x -> 0), lookAll(state, call))) {
            wrong++;
            System.out.println(what + ": nothing has changed");
        }
    }

    void end(String name) {
        System.out.println(wrong == 0 ? name + ": all " + cases + " cases hold" : name + ": " + wrong + " do not hold");
        if (wrong != 0) {
            System.exit(1);
        }
    }

    // ---- states

    static DoorCodes made(State state) {
        DoorCodes x = new DoorCodes();
        state.build(x);
        return x;
    }

    static void empty(DoorCodes x) {
        // As it is made.
    }

    /** So many sides in a chain, each of 30 doors, 10 long, 1 letter a door, 5 steps apart. */
    static State chain(int sides) {
        return x -> {
            for (int i = 0; i < sides; i++) {
                x.side(30, 0, 10, 1);
                if (i > 0) {
                    x.link(i - 1, i, 5);
                }
            }
        };
    }

    /** So many sides without links, each of one door. */
    static State apart(int sides) {
        return x -> {
            for (int i = 0; i < sides; i++) {
                x.side(1, 0, 1, 1);
            }
        };
    }

    /** Some of everything: rules, misreads, codes split and passed, old words, editions, two towns, a text with a fault. */
    static void rich(DoorCodes x) {
        for (int i = 0; i < 6; i++) {
            x.side(20 + 5 * i, i, 10 + i, 1 + i);
        }
        for (int i = 1; i < 6; i++) {
            x.link(i - 1, i, 4 + i);
        }
        x.link(0, 2, 11);
        force(x, "m110,0;o30,0;y1,0;n0,3;s0,5;");
        x.misread(0, 1, 20);
        x.misread(1, 0, 10);
        x.misread(2, 3, 99);
        x.keep();
        x.give(10, 3);
        x.edition();
        x.split(3, 12);
        x.keep();
        x.pass(5, 4, 20);
        x.split(0, 25);
        x.edition();
        x.wipe();
        write(x, "m50,0;o12,3;y4");
    }

    static void write(DoorCodes x, String text) {
        for (int from = 0; from < text.length(); from += 8) {
            String part = text.substring(from, Math.min(text.length(), from + 8));
            long v = 0;
            for (int i = 0; i < part.length(); i++) {
                v = v << 8 | part.charAt(i);
            }
            x.write(part.length(), v);
        }
    }

    static int force(DoorCodes x, String text) {
        x.wipe();
        write(x, text);
        return x.force();
    }

    static State with(State first, State then) {
        return x -> {
            first.build(x);
            then.build(x);
        };
    }

    static State ruled(State first, String text) {
        return with(first, x -> {
            if (force(x, text) < 0) {
                throw new IllegalStateException("a fault in " + text);
            }
        });
    }

    static String times(int n, String item) {
        return item.repeat(n);
    }

    // ---- looks

    private static int[] lookAll(State state, Call between) {
        List<Call> looks = new ArrayList<>();
        lookAtSides(looks);
        lookAtRules(looks);
        lookAtWords(looks);
        lookAtCodes(looks);
        int[] seen = new int[looks.size()];
        DoorCodes x = null;
        for (int i = 0; i < seen.length; i++) {
            if (i % LOOKS_AT_ONCE == 0) {
                x = behind(state, between);
            }
            seen[i] = looks.get(i).on(x);
        }
        return joined(seen, joined(textSeen(behind(state, between)), keptSeen(behind(state, between))));
    }

    private static DoorCodes behind(State state, Call between) {
        DoorCodes x = made(state);
        between.on(x);
        return x;
    }

    private static void lookAtSides(List<Call> looks) {
        for (int i = -1; i < 10; i++) {
            int n = i;
            looks.add(x -> x.count(n));
            for (int day : new int[] {0, 365, 14600}) {
                looks.add(x -> x.doors(n, day));
                looks.add(x -> x.shaped(day, n - 3));
                looks.add(x -> x.shaped(day, n));
            }
        }
        for (int s = 1; s < 512; s += s < 64 ? 1 : 37) {
            int shape = s;
            looks.add(x -> x.walk(shape));
            looks.add(x -> x.row(shape, 0));
            looks.add(x -> x.row(shape, 1));
            looks.add(x -> x.right(shape, 0));
            looks.add(x -> x.right(shape, 14600));
        }
    }

    private static void lookAtRules(List<Call> looks) {
        looks.add(x -> x.fault());
        looks.add(x -> x.quarrel());
        for (int w = 0; w < 3; w++) {
            int what = w;
            for (int day : new int[] {0, 3, 12, 14600}) {
                looks.add(x -> x.rule(what, day));
                looks.add(x -> x.why(what, day));
            }
        }
    }

    private static void lookAtWords(List<Call> looks) {
        for (int from = 0; from < 6; from++) {
            for (int to = 0; to < 6; to++) {
                int word = 7 * from;
                int as = 7 * to;
                looks.add(x -> x.read(word, as));
            }
        }
        for (int w = 0; w < 36; w++) {
            int word = w;
            for (int i = -1; i < 3; i++) {
                int n = i;
                looks.add(x -> x.who(word, n));
            }
        }
        for (int i = -1; i < 4; i++) {
            int n = i;
            looks.add(x -> x.words(0, 2, n));
            looks.add(x -> x.words(25, 4, n));
        }
    }

    private static void lookAtCodes(List<Call> looks) {
        for (int s = 0; s < 9; s++) {
            int side = s;
            looks.add(x -> x.code(side, 0));
            looks.add(x -> x.code(side, 1));
            looks.add(x -> x.fullYear(side, 0));
            for (int e = 0; e < 10; e++) {
                int edition = e;
                looks.add(x -> x.book(edition, side));
            }
            for (int o = 0; o < 9; o++) {
                int other = o;
                looks.add(x -> x.ask(side, other, 25));
            }
        }
        for (int w = 0; w < 36; w++) {
            int word = w;
            for (int day : new int[] {0, 25, 42, 43, 50, 51, 55, 56}) {
                looks.add(x -> x.lead(word, day));
            }
        }
        for (int e = 0; e < 10; e++) {
            int edition = e;
            looks.add(x -> x.wrong(edition, 25));
            looks.add(x -> x.wrong(edition, 56));
        }
        for (int b : new int[] {1, 300, 1000000}) {
            looks.add(x -> x.rounds(25, b, 0));
            looks.add(x -> x.rounds(25, b, 1));
        }
    }

    /** THE TEXT itself is only seen by what comes in force of it, so all but its faulty end is tried. */
    private static int[] textSeen(DoorCodes x) {
        int[] seen = new int[20];
        seen[0] = x.write(2, ('1' << 8) + ',');
        seen[1] = x.fault();
        seen[2] = x.write(2, ('7' << 8) + ';');
        seen[3] = x.fault();
        seen[4] = x.force();
        seen[5] = x.quarrel();
        for (int what = 0; what < 3; what++) {
            seen[6 + 2 * what] = x.rule(what, 14600);
            seen[7 + 2 * what] = x.why(what, 14600);
        }
        seen[12] = x.wipe();
        return seen;
    }

    /** Towns that are kept are only seen when they come back. */
    private static int[] keptSeen(DoorCodes x) {
        int[] seen = new int[3 * 120];
        int at = 0;
        for (int town = 0; town < 3; town++) {
            seen[at++] = x.back();
            seen[at++] = x.count(5);
            seen[at++] = x.count(6);
            seen[at++] = x.count(7);
            seen[at++] = x.count(8);
            for (int side = 0; side < 9; side++) {
                seen[at++] = x.code(side, 0);
                seen[at++] = x.book(0, side);
            }
            for (int word = 0; word < 36; word++) {
                seen[at++] = x.lead(word, 25);
                seen[at++] = x.lead(word, 42);
            }
        }
        return seen;
    }

    private static int[] joined(int[] one, int[] other) {
        int[] both = Arrays.copyOf(one, one.length + other.length);
        System.arraycopy(other, 0, both, one.length, other.length);
        return both;
    }
}
