import java.util.ArrayList;
import java.util.Arrays;
import java.util.List;
import java.util.Random;
import java.util.TreeMap;
import java.util.TreeSet;

/** Random runs of calls against a slow model that goes through all rows, partings and words. */
public final class ModelTest {
    private static final int BAD = -1, NO = -2, FULL = -3, NONE = -4;
    private static final int RUNS = 400;
    // The document promises nothing behind the 512th call, and the last step of a run may be of several.
    private static final int CALLS = 440;

    public static void main(String[] args) {
        TreeMap<String, Integer> seen = new TreeMap<>();
        for (int run = 0; run < RUNS; run++) {
            if (!new Run(run, seen).agrees()) {
                System.exit(1);
            }
        }
        int few = 0;
        for (String name : new String[] {"give ok", "split ok", "pass ok", "ask ok", "words ok", "who ok",
            "rounds ok", "wrong ok", "lead ok", "back ok", "shaped ok", "quarrel ok", "split -3", "ask -100000",
            "write -1", "write -3", "edition -3", "side -3", "give -3", "keep -3"}) {
            if (seen.getOrDefault(name, 0) < 5) {
                System.out.println("hardly seen: " + name);
                few++;
            }
        }
        System.out.println("the model agrees: " + seen);
        if (few > 0) {
            System.exit(1);
        }
    }

    private static final class Run {
        private final Random random;
        private final int run;
        private final TreeMap<String, Integer> seen;
        private final DoorCodes x = new DoorCodes();
        private final Model model = new Model();
        private int today = 0;
        private int made = 0;

        Run(int run, TreeMap<String, Integer> seen) {
            this.run = run;
            this.random = new Random(77 + run);
            this.seen = seen;
        }

        boolean agrees() {
            int sides = run % 20 == 19 ? 9 : 1 + random.nextInt(7);
            for (int i = 0; i < sides; i++) {
                if (!addSide()) {
                    return false;
                }
            }
            for (int i = 0; i < sides * 3; i++) {
                if (!addLink()) {
                    return false;
                }
            }
            for (int step = 0; step < CALLS && made < CALLS; step++) {
                if (!callOnce()) {
                    return false;
                }
            }
            return true;
        }

        private int upTo(int n) {
            return random.nextInt(n + 1);
        }

        private int anySide() {
            return upTo(20) == 0 ? upTo(11) - 1 : upTo(Math.max(0, model.sides.size() - 1));
        }

        private int anyDay() {
            int kind = upTo(9);
            if (kind == 0) {
                return upTo(14700) - 50;
            }
            if (kind == 1) {
                return today - upTo(5);
            }
            if (kind < 4) {
                today = Math.min(14600, today + upTo(40));
            }
            return today;
        }

        private int anyShape() {
            return upTo(20) == 0 ? upTo(600) - 5 : 1 + upTo((1 << model.sides.size()) - 1);
        }

        private int anyEdition() {
            return upTo(10) == 0 ? upTo(12) - 1 : upTo(Math.max(0, model.count(6) - 1));
        }

        private int anyWord() {
            if (upTo(30) == 0) {
                return upTo(50) - 5;
            }
            // Words of low letters are those that codes have, or had.
            return upTo(1) == 0 ? 6 * upTo(2) + upTo(2) : upTo(35);
        }

        private boolean same(String call, int got, int want) {
            made++;
            String name = call.substring(0, call.indexOf('('));
            String kind = name + " " + (want >= 0 || name.equals("ask") && want > -90000 ? "ok" : "" + want);
            seen.merge(kind, 1, Integer::sum);
            if (got != want) {
                System.out.println("run " + run + ": " + call + " answered " + got + ", the model " + want);
            }
            return got == want;
        }

        private boolean addSide() {
            int doors = upTo(30) == 0 ? upTo(300) - 50 : 1 + upTo(50);
            int growth = upTo(30) == 0 ? upTo(40) - 10 : upTo(3);
            int length = upTo(30) == 0 ? upTo(700) - 50 : 1 + upTo(4);
            int mail = upTo(30) == 0 ? upTo(70) - 10 : 1 + upTo(5);
            return same("side()", x.side(doors, growth, length, mail), model.side(doors, growth, length, mail));
        }

        private boolean addLink() {
            int a = anySide();
            int b = anySide();
            int steps = upTo(20) == 0 ? upTo(600) - 50 : upTo(4);
            return same("link()", x.link(a, b, steps), model.link(a, b, steps));
        }

        private String anyItem() {
            int n = Math.max(2, model.sides.size());
            switch (upTo(7)) {
                case 0: return "m" + (30 + upTo(150)) + "," + upTo(1000) + ";";
                case 1: return "m" + (60 + upTo(150)) + ",0;";
                case 2: return "y" + upTo(4) + "," + upTo(500) + ";";
                case 3: return "o" + upTo(60) + "," + upTo(500) + ";";
                case 4: return "n" + upTo(5) + "," + upTo(5) + ";";
                case 5: return "s" + upTo(n - 1) + "," + upTo(n - 1) + ";";
                case 6: return upTo(1) == 0 ? "u" + upTo(n - 1) + "," + upTo(n - 1) + ";" : "o200,0;";
                default: return upTo(15) == 0 ? "z" : "";
            }
        }

        private boolean newRules() {
            if (!same("wipe()", x.wipe(), model.wipe())) {
                return false;
            }
            StringBuilder text = new StringBuilder();
            if (upTo(25) == 0) {
                for (int pair = 0; pair < 36; pair++) {
                    if (pair / 6 <= pair % 6) {
                        text.append("n" + pair / 6 + "," + pair % 6 + ";");
                    }
                }
            }
            for (int i = upTo(9); i > 0; i--) {
                text.append(anyItem());
            }
            for (int at = 0; at < text.length(); ) {
                int n = Math.min(1 + upTo(7), text.length() - at);
                long v = upTo(1) == 0 ? 0 : random.nextLong();
                for (int i = 0; i < n; i++) {
                    v = v << 8 | text.charAt(at + i);
                }
                if (!same("write()", x.write(n, v), model.write(n, v))) {
                    return false;
                }
                at += n;
            }
            return same("fault()", x.fault(), model.fault()) && same("force()", x.force(), model.force());
        }

        /** Bytes that are no rules, and so many at times that the text is full. */
        private boolean scribble() {
            boolean fine = true;
            for (int i = upTo(9) == 0 ? 30 : 1; i > 0; i--) {
                int n = upTo(10) - 1;
                long v = random.nextLong();
                fine &= same("write(" + n + ", " + v, x.write(n, v), model.write(n, v));
            }
            return fine && same("fault()", x.fault(), model.fault()) && same("force()", x.force(), model.force());
        }

        private boolean callOnce() {
            int side = anySide();
            int other = anySide();
            int day = anyDay();
            int shape = anyShape();
            int word = anyWord();
            int i = upTo(6) - 3;
            int l = upTo(20) == 0 ? upTo(6) : 2 + upTo(2);
            switch (upTo(38)) {
                case 0: return upTo(3) != 0 || newRules();
                case 1: return upTo(9) != 0 || addSide();
                case 2: return upTo(3) != 0 || addLink();
                case 3: return same("doors()", x.doors(side, day), model.doors(side, day));
                case 4: return same("walk(" + shape, x.walk(shape), model.walk(shape));
                case 5: return same("row(" + shape + ", " + i, x.row(shape, i), model.row(shape, i));
                case 6: return same("right(" + shape, x.right(shape, day), model.right(shape, day));
                case 7: case 8: return same("shaped(" + day + ", " + i, x.shaped(day, i), model.shaped(day, i));
                case 9: case 10: {
                    int what = upTo(4) - 1;
                    return same("rule(" + what + ", " + day, x.rule(what, day), model.rule(what, day))
                            && same("why(" + what + ", " + day, x.why(what, day), model.why(what, day));
                }
                case 11: return same("quarrel()", x.quarrel(), model.quarrel());
                case 12: {
                    int from = upTo(6);
                    int to = upTo(6);
                    int v = upTo(3) == 0 ? upTo(110) - 5 : upTo(20);
                    return same("misread()", x.misread(from, to, v), model.misread(from, to, v));
                }
                case 13: {
                    int as = upTo(37) - 1;
                    return same("read()", x.read(word, as), model.read(word, as));
                }
                case 14: case 15:
                    return same("words(" + day + ", " + l + ", " + i, x.words(day, l, i), model.words(day, l, i));
                case 16: return same("who(" + word + ", " + i, x.who(word, i), model.who(word, i));
                case 17: return same("give(" + day + ", " + l, x.give(day, l), model.give(day, l));
                case 18: case 19: case 20:
                    return same("split(" + side + ", " + day, x.split(side, day), model.split(side, day));
                case 21: case 22: {
                    String call = "ask(" + side + ", " + other + ", " + day;
                    return same(call, x.ask(side, other, day), model.ask(side, other, day));
                }
                case 23: case 24: case 25: {
                    String call = "pass(" + side + ", " + other + ", " + day;
                    return same(call, x.pass(side, other, day), model.pass(side, other, day));
                }
                case 26: {
                    int what = upTo(2);
                    return same("code()", x.code(side, what), model.code(side, what));
                }
                case 27: case 28: return same("lead(" + word + ", " + day, x.lead(word, day), model.lead(word, day));
                case 29: case 30: {
                    int b = upTo(20) == 0 ? upTo(2) - 1 : 1 + upTo(1500);
                    int what = upTo(10) == 0 ? 2 : upTo(1);
                    return same("rounds(" + day + ", " + b + ", " + what, x.rounds(day, b, what), model.rounds(day, b, what));
                }
                case 31: return same("fullYear(" + side + ", " + day, x.fullYear(side, day), model.fullYear(side, day));
                case 32: return run % 3 != 0 && upTo(2) != 0 || same("edition()", x.edition(), model.edition());
                case 33: {
                    int edition = anyEdition();
                    return same("book()", x.book(edition, side), model.book(edition, side));
                }
                case 34: {
                    int edition = anyEdition();
                    return same("wrong(" + edition + ", " + day, x.wrong(edition, day), model.wrong(edition, day));
                }
                case 35: return upTo(3) != 0 || same("keep()", x.keep(), model.keep());
                case 36: return upTo(5) != 0 || same("back()", x.back(), model.back());
                case 37: return upTo(9) != 0 || scribble();
                default: {
                    boolean fine = true;
                    for (int what = -1; what <= 9; what++) {
                        fine &= same("count(" + what, x.count(what), model.count(what));
                    }
                    return fine;
                }
            }
        }
    }

    /** The document's words once more, with no thought for speed. */
    private static final class Model {
        private static final class Item {
            char letter;
            int a;
            int b;
        }

        private static final class State {
            int latest = -1;
            int[] word = new int[9];
            List<int[]> leads = new ArrayList<>();
            List<int[]> editions = new ArrayList<>();

            State() {
                Arrays.fill(word, -1);
            }

            State twin() {
                State s = new State();
                s.latest = latest;
                s.word = word.clone();
                s.leads.addAll(leads);
                s.editions.addAll(editions);
                return s;
            }
        }

        final List<int[]> sides = new ArrayList<>();
        private final int[][] links = new int[9][9];
        private String text = "";
        private List<Item> items = new ArrayList<>();
        private final int[][] misreads = new int[6][6];
        private State state = new State();
        private final List<State> kept = new ArrayList<>();

        private static boolean in(int v, int low, int high) {
            return low <= v && v <= high;
        }

        private static boolean badDay(int day) {
            return !in(day, 0, 14600);
        }

        private boolean badSide(int side) {
            return !in(side, 0, sides.size() - 1);
        }

        private boolean badShape(int shape) {
            return !in(shape, 1, (1 << sides.size()) - 1);
        }

        int side(int doors, int growth, int length, int mail) {
            if (!in(doors, 1, 200) || !in(growth, 0, 20) || !in(length, 1, 500) || !in(mail, 1, 50)) {
                return BAD;
            }
            if (state.latest >= 0) {
                return NO;
            }
            if (sides.size() == 9) {
                return FULL;
            }
            sides.add(new int[] {doors, growth, length, mail});
            return sides.size() - 1;
        }

        int link(int a, int b, int steps) {
            if (badSide(a) || badSide(b) || a == b || !in(steps, 0, 500)) {
                return BAD;
            }
            if (state.latest >= 0) {
                return NO;
            }
            int was = links[a][b];
            links[a][b] = steps;
            links[b][a] = steps;
            return was;
        }

        private int doorsThen(int side, int day) {
            return sides.get(side)[0] + sides.get(side)[1] * (day / 365);
        }

        private List<Integer> list(int shape) {
            List<Integer> of = new ArrayList<>();
            for (int i = 0; i < 9; i++) {
                if ((shape & 1 << i) != 0) {
                    of.add(i);
                }
            }
            return of;
        }

        int doors(int side, int day) {
            return badSide(side) || badDay(day) ? BAD : doorsThen(side, day);
        }

        private void rows(List<Integer> row, int left, int steps, int[] best, List<Integer> bestRow) {
            if (left == 0) {
                // Rows come in order, so an equal one is a later one.
                if (best[0] < 0 || steps < best[0]) {
                    best[0] = steps;
                    bestRow.clear();
                    bestRow.addAll(row);
                }
                return;
            }
            for (int next : list(left)) {
                int step = row.isEmpty() ? 0 : links[row.get(row.size() - 1)][next];
                if (row.isEmpty() || step > 0) {
                    row.add(next);
                    rows(row, left & ~(1 << next), steps + step + sides.get(next)[2], best, bestRow);
                    row.remove(row.size() - 1);
                }
            }
        }

        private final TreeMap<String, int[]> walksSeen = new TreeMap<>();

        private int leastWalk(int shape) {
            String key = shape + Arrays.deepToString(links) + sides.size();
            int[] best = walksSeen.get(key);
            if (best == null) {
                best = new int[] {-1};
                rows(new ArrayList<>(), shape, 0, best, new ArrayList<>());
                walksSeen.put(key, best);
            }
            return best[0];
        }

        int walk(int shape) {
            if (badShape(shape)) {
                return BAD;
            }
            return leastWalk(shape) < 0 ? NONE : leastWalk(shape);
        }

        int row(int shape, int i) {
            if (badShape(shape) || i < 0) {
                return BAD;
            }
            int[] best = {-1};
            List<Integer> row = new ArrayList<>();
            rows(new ArrayList<>(), shape, 0, best, row);
            return i < row.size() ? row.get(i) : NONE;
        }

        private int doorsTogether(int shape, int day) {
            int sum = 0;
            for (int side : list(shape)) {
                sum += doorsThen(side, day);
            }
            return sum;
        }

        private boolean isRight(int shape, int day) {
            for (Item item : items) {
                int both = 1 << item.a | 1 << item.b;
                if (item.letter == 's' && (shape & both) == both) {
                    return false;
                }
                if (item.letter == 'u' && (shape & both) != 0 && (shape & both) != both) {
                    return false;
                }
            }
            return doorsTogether(shape, day + 365 * rule(1, day)) <= rule(0, day) && leastWalk(shape) >= 0;
        }

        int right(int shape, int day) {
            return badShape(shape) || badDay(day) ? BAD : isRight(shape, day) ? 1 : 0;
        }

        private void partings(int left, List<Integer> parts, boolean[] right, List<List<Integer>> all) {
            if (left == 0) {
                all.add(new ArrayList<>(parts));
                return;
            }
            int low = Integer.lowestOneBit(left);
            for (int shape = 1; shape <= left; shape++) {
                if ((shape & left) == shape && (shape & low) != 0 && right[shape]) {
                    parts.add(shape);
                    partings(left & ~shape, parts, right, all);
                    parts.remove(parts.size() - 1);
                }
            }
        }

        private int walksOf(List<Integer> shapes) {
            int sum = 0;
            for (int shape : shapes) {
                sum += leastWalk(shape);
            }
            return sum;
        }

        private boolean[] rights(int day) {
            boolean[] right = new boolean[1 << sides.size()];
            for (int shape = 1; shape < right.length; shape++) {
                right[shape] = isRight(shape, day);
            }
            return right;
        }

        private List<Integer> shapes(int day) {
            List<List<Integer>> all = new ArrayList<>();
            partings((1 << sides.size()) - 1, new ArrayList<>(), rights(day), all);
            List<Integer> best = null;
            // They come by least bits already.
            for (List<Integer> parts : all) {
                if (best == null || parts.size() < best.size()
                        || parts.size() == best.size() && walksOf(parts) < walksOf(best)) {
                    best = parts;
                }
            }
            return best == null ? new ArrayList<>() : best;
        }

        int shaped(int day, int i) {
            if (badDay(day) || i < -3) {
                return BAD;
            }
            List<Integer> shapes = shapes(day);
            if (i == -3) {
                boolean[] right = rights(day);
                for (int side = 0; side < sides.size(); side++) {
                    boolean found = false;
                    for (int shape = 1; shape < right.length; shape++) {
                        found |= right[shape] && (shape >> side & 1) == 1;
                    }
                    if (!found) {
                        return side;
                    }
                }
                return NONE;
            }
            if (shapes.isEmpty()) {
                return NONE;
            }
            if (i == -1) {
                return shapes.size();
            }
            return i == -2 ? walksOf(shapes) : i < shapes.size() ? shapes.get(i) : NONE;
        }

        int write(int n, long v) {
            if (!in(n, 1, 8)) {
                return BAD;
            }
            if (text.length() + n > 200) {
                return FULL;
            }
            for (int i = n - 1; i >= 0; i--) {
                text += (char) (v >>> 8 * i & 255);
            }
            return text.length();
        }

        int wipe() {
            int was = text.length();
            text = "";
            return was;
        }

        private int parse(String from, List<Item> into) {
            int at = 0;
            while (at < from.length()) {
                int end = from.indexOf(';', at);
                String one = end < 0 ? "" : from.substring(at, end);
                if (!one.matches("[myonsu][0-9]{1,5},[0-9]{1,5}")) {
                    return at;
                }
                Item item = new Item();
                item.letter = one.charAt(0);
                String[] numbers = one.substring(1).split(",");
                item.a = Integer.parseInt(numbers[0]);
                item.b = Integer.parseInt(numbers[1]);
                int low = item.letter == 'm' ? 1 : 0;
                int high = "mo".indexOf(item.letter) >= 0 ? 9999 : item.letter == 'y' ? 40 : item.letter == 'n' ? 5 : 8;
                int highB = "moy".indexOf(item.letter) >= 0 ? 14600 : high;
                boolean alike = "su".indexOf(item.letter) >= 0 && item.a == item.b;
                if (!in(item.a, low, high) || !in(item.b, 0, highB) || alike) {
                    return at;
                }
                into.add(item);
                at = end + 1;
            }
            return NONE;
        }

        int fault() {
            return parse(text, new ArrayList<>());
        }

        int force() {
            List<Item> read = new ArrayList<>();
            if (parse(text, read) != NONE) {
                return NO;
            }
            items = read;
            return items.size();
        }

        int why(int what, int day) {
            if (!in(what, 0, 2) || badDay(day)) {
                return BAD;
            }
            int last = NONE;
            for (int i = 0; i < items.size(); i++) {
                if (items.get(i).letter == "myo".charAt(what) && items.get(i).b <= day) {
                    last = i;
                }
            }
            return last;
        }

        int rule(int what, int day) {
            int why = why(what, day);
            return why == BAD ? BAD : why >= 0 ? items.get(why).a : what == 0 ? 100 : 0;
        }

        int quarrel() {
            for (int i = 0; i < items.size(); i++) {
                for (int j = i + 1; j < items.size(); j++) {
                    Item a = items.get(i);
                    Item b = items.get(j);
                    boolean days = a.letter == b.letter && "myo".indexOf(a.letter) >= 0 && a.b == b.b && a.a != b.a;
                    String both = "" + a.letter + b.letter;
                    boolean pairs = (both.equals("su") || both.equals("us"))
                            && Math.min(a.a, a.b) == Math.min(b.a, b.b) && Math.max(a.a, a.b) == Math.max(b.a, b.b);
                    if (days || pairs) {
                        return 100 * i + j;
                    }
                }
            }
            return NONE;
        }

        int misread(int from, int to, int v) {
            if (!in(from, 0, 5) || !in(to, 0, 5) || from == to || !in(v, 0, 99)) {
                return BAD;
            }
            int was = misreads[from][to];
            misreads[from][to] = v;
            if (Arrays.stream(misreads[from]).sum() > 100) {
                misreads[from][to] = was;
                return NO;
            }
            return was;
        }

        private int letter(int from, int to) {
            return from == to ? 100 - Arrays.stream(misreads[from]).sum() : misreads[from][to];
        }

        int read(int word, int as) {
            if (!in(word, 0, 35) || !in(as, 0, 35)) {
                return BAD;
            }
            return letter(word / 6, as / 6) * letter(word % 6, as % 6);
        }

        private boolean allowed(int word) {
            for (Item item : items) {
                boolean one = item.a == word / 6 && item.b == word % 6;
                boolean other = item.b == word / 6 && item.a == word % 6;
                if (item.letter == 'n' && (one || other)) {
                    return false;
                }
            }
            return true;
        }

        private boolean linked(int one, int other) {
            for (int a : list(one)) {
                for (int b : list(other)) {
                    if (links[a][b] > 0) {
                        return true;
                    }
                }
            }
            return false;
        }

        private int harm(List<Integer> shapes, int[] words) {
            int sum = 0;
            for (int i = 0; i < shapes.size(); i++) {
                for (int j = 0; j < i; j++) {
                    int both = read(words[i], words[j]) + read(words[j], words[i]);
                    sum += linked(shapes.get(i), shapes.get(j)) ? 3 * both : both;
                }
            }
            return sum;
        }

        private void wordings(int at, int[] words, int l, List<Integer> shapes, List<int[]> best) {
            if (at == shapes.size()) {
                if (best.isEmpty() || harm(shapes, words) < harm(shapes, best.get(0))) {
                    best.clear();
                    best.add(words.clone());
                }
                return;
            }
            for (int word = 0; word < 36; word++) {
                boolean unlike = true;
                for (int i = 0; i < at; i++) {
                    unlike &= words[i] != word;
                }
                if (unlike && word / 6 < l && word % 6 < l && allowed(word)) {
                    words[at] = word;
                    wordings(at + 1, words, l, shapes, best);
                }
            }
        }

        private int[] wording(List<Integer> shapes, int l) {
            List<int[]> best = new ArrayList<>();
            wordings(0, new int[4], l, shapes, best);
            return best.isEmpty() ? null : best.get(0);
        }

        int words(int day, int l, int i) {
            if (badDay(day) || !in(l, 2, 4) || i < -1) {
                return BAD;
            }
            List<Integer> shapes = shapes(day);
            if (!in(shapes.size(), 1, 4)) {
                return NO;
            }
            int[] words = wording(shapes, l);
            if (words == null) {
                return NONE;
            }
            return i == -1 ? harm(shapes, words) : i < shapes.size() ? words[i] : NONE;
        }

        private TreeSet<Integer> alive() {
            TreeSet<Integer> words = new TreeSet<>();
            for (int word : state.word) {
                if (word >= 0) {
                    words.add(word);
                }
            }
            return words;
        }

        int who(int word, int i) {
            if (!in(word, 0, 35) || i < -1) {
                return BAD;
            }
            List<Integer> maybe = new ArrayList<>(alive());
            maybe.removeIf(w -> read(w, word) == 0);
            maybe.sort((a, b) -> read(a, word) != read(b, word) ? read(b, word) - read(a, word) : a - b);
            return i == -1 ? maybe.size() : i < maybe.size() ? maybe.get(i) : NONE;
        }

        private void become(int side, int word, int day) {
            if (state.word[side] >= 0 && state.word[side] != word) {
                state.leads.add(new int[] {side, state.word[side], day + rule(2, day)});
            }
            state.word[side] = word;
        }

        int give(int day, int l) {
            if (badDay(day) || !in(l, 2, 4)) {
                return BAD;
            }
            List<Integer> shapes = shapes(day);
            if (day < state.latest || !in(shapes.size(), 1, 4)) {
                return NO;
            }
            int[] words = wording(shapes, l);
            if (words == null) {
                return FULL;
            }
            for (int i = 0; i < shapes.size(); i++) {
                for (int side : list(shapes.get(i))) {
                    become(side, words[i], day);
                }
            }
            state.latest = day;
            return shapes.size();
        }

        private int codeWith(int word) {
            int bits = 0;
            for (int i = 0; i < 9; i++) {
                bits |= state.word[i] == word ? 1 << i : 0;
            }
            return bits;
        }

        int split(int side, int day) {
            if (badSide(side) || badDay(day)) {
                return BAD;
            }
            if (state.latest < 0 || day < state.latest) {
                return NO;
            }
            int code = codeWith(state.word[side]);
            int[] best = null;
            for (int half = 1; half < code; half++) {
                int rest = code & ~half;
                boolean low = (half & Integer.lowestOneBit(code)) != 0;
                if ((half & code) == half && low && isRight(half, day) && isRight(rest, day)) {
                    int difference = Math.abs(doorsTogether(half, day) - doorsTogether(rest, day));
                    int[] one = {difference, leastWalk(half) + leastWalk(rest), half};
                    if (best == null || Arrays.compare(one, best) < 0) {
                        best = one;
                    }
                }
            }
            if (best == null) {
                return NO;
            }
            for (int word = 0; word < 36; word++) {
                if (allowed(word) && codeWith(word) == 0 && leadBits(word, day) == 0) {
                    for (int moved : list(code & ~best[2])) {
                        become(moved, word, day);
                    }
                    state.latest = day;
                    return word;
                }
            }
            return FULL;
        }

        int ask(int side, int other, int day) {
            if (badSide(side) || badSide(other) || badDay(day)) {
                return -1000000;
            }
            if (state.latest < 0 || day < state.latest || state.word[side] == state.word[other]) {
                return -1000002;
            }
            int own = codeWith(state.word[side]);
            int its = codeWith(state.word[other]);
            int joined = its | 1 << side;
            int left = own & ~(1 << side);
            if (!isRight(joined, day) || left != 0 && !isRight(left, day)) {
                return -100000;
            }
            return leastWalk(joined) + (left == 0 ? 0 : leastWalk(left)) - leastWalk(own) - leastWalk(its);
        }

        int pass(int side, int other, int day) {
            int cost = ask(side, other, day);
            if (cost == -1000000) {
                return BAD;
            }
            if (cost == -1000002 || cost == -100000) {
                return NO;
            }
            become(side, state.word[other], day);
            state.latest = day;
            return state.word[side];
        }

        int code(int side, int what) {
            if (badSide(side) || !in(what, 0, 1)) {
                return BAD;
            }
            int word = state.word[side];
            return word < 0 ? NONE : what == 0 ? word : codeWith(word);
        }

        private int leadBits(int word, int day) {
            int bits = codeWith(word);
            for (int[] lead : state.leads) {
                if (lead[1] == word && day <= lead[2]) {
                    bits |= codeWith(state.word[lead[0]]);
                }
            }
            return bits;
        }

        int lead(int word, int day) {
            if (!in(word, 0, 35) || badDay(day)) {
                return BAD;
            }
            if (day < state.latest) {
                return NO;
            }
            return leadBits(word, day) == 0 ? NONE : leadBits(word, day);
        }

        private void load(List<Integer> weights, int at, List<Integer> rounds, int b, int[] best) {
            if (at == weights.size()) {
                int heaviest = 0;
                for (int round : rounds) {
                    heaviest = Math.max(heaviest, round);
                }
                if (best[0] < 0 || rounds.size() < best[0] || rounds.size() == best[0] && heaviest < best[1]) {
                    best[0] = rounds.size();
                    best[1] = heaviest;
                }
                return;
            }
            for (int i = 0; i <= rounds.size(); i++) {
                int was = i < rounds.size() ? rounds.get(i) : 0;
                if (was + weights.get(at) > b) {
                    continue;
                }
                if (i == rounds.size()) {
                    rounds.add(weights.get(at));
                    load(weights, at + 1, rounds, b, best);
                    rounds.remove(i);
                    return;
                }
                rounds.set(i, was + weights.get(at));
                load(weights, at + 1, rounds, b, best);
                rounds.set(i, was);
            }
        }

        int rounds(int day, int b, int what) {
            if (badDay(day) || !in(b, 1, 1000000) || !in(what, 0, 1)) {
                return BAD;
            }
            if (state.latest < 0) {
                return NO;
            }
            List<Integer> weights = new ArrayList<>();
            for (int word : alive()) {
                int weight = 0;
                for (int side : list(codeWith(word))) {
                    weight += sides.get(side)[3] * doorsThen(side, day);
                }
                weights.add(weight);
            }
            int[] best = {-1, -1};
            load(weights, 0, new ArrayList<>(), b, best);
            return best[0] < 0 ? NONE : best[what];
        }

        int fullYear(int side, int day) {
            if (badSide(side) || badDay(day)) {
                return BAD;
            }
            if (state.latest < 0) {
                return NO;
            }
            for (int k = 0; k <= 40; k++) {
                if (doorsTogether(codeWith(state.word[side]), day + 365 * k) > rule(0, day)) {
                    return k;
                }
            }
            return NONE;
        }

        int edition() {
            if (state.latest < 0) {
                return NO;
            }
            if (state.editions.size() == 10) {
                return FULL;
            }
            state.editions.add(state.word.clone());
            return state.editions.size() - 1;
        }

        int book(int edition, int side) {
            if (!in(edition, 0, state.editions.size() - 1) || badSide(side)) {
                return BAD;
            }
            return state.editions.get(edition)[side];
        }

        int wrong(int edition, int day) {
            if (!in(edition, 0, state.editions.size() - 1) || badDay(day)) {
                return BAD;
            }
            if (day < state.latest) {
                return NO;
            }
            int bits = 0;
            for (int side = 0; side < sides.size(); side++) {
                int then = state.editions.get(edition)[side];
                if (then != state.word[side] && (leadBits(then, day) >> side & 1) == 0) {
                    bits |= 1 << side;
                }
            }
            return bits;
        }

        int keep() {
            if (kept.size() == 2) {
                return FULL;
            }
            kept.add(state.twin());
            return kept.size();
        }

        int back() {
            if (kept.isEmpty()) {
                return NO;
            }
            state = kept.remove(kept.size() - 1);
            return kept.size();
        }

        int count(int what) {
            switch (what) {
                case 0: return sides.size();
                case 1: {
                    int count = 0;
                    for (int[] row : links) {
                        for (int walk : row) {
                            count += walk > 0 ? 1 : 0;
                        }
                    }
                    return count / 2;
                }
                case 2: return text.length();
                case 3: return items.size();
                case 4: return alive().size();
                case 5: {
                    int count = 0;
                    for (int word = 0; word < 36; word++) {
                        boolean had = codeWith(word) != 0;
                        count += state.latest >= 0 && !had && leadBits(word, state.latest) != 0 ? 1 : 0;
                    }
                    return count;
                }
                case 6: return state.editions.size();
                case 7: return kept.size();
                case 8: return state.latest;
                default: return BAD;
            }
        }
    }
}
