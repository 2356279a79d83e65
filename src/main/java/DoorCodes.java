import java.util.Arrays;

/** A code for every door. The numbered promises of the document say what each call answers. */
public final class DoorCodes {
    public static final int BAD = -1, NO = -2, FULL = -3, NONE = -4;

    private static final int SIDES = 9;
    private static final int SHAPES = 1 << SIDES;
    private static final int LAST_DAY = 14600;
    private static final int YEAR = 365;
    private static final int YEARS_AHEAD = 40;
    private static final int BYTES = 200;
    private static final int ITEMS = 40;
    private static final int LETTERS = 6;
    private static final int ALL_WORDS = LETTERS * LETTERS;
    private static final int CODES_GIVEN = 4;
    private static final int EDITIONS = 10;
    private static final int TOWNS = 2;
    private static final int HEAVIEST_ROUND = 1000000;

    // Above every walk that can be, so that a least of several is taken without asking first.
    private static final int NO_WALK = 1000000;
    // One part more outweighs every walk or weight, so that one number orders both.
    private static final int ONE_PART = 1000000;
    private static final int NO_PARTS = 100 * ONE_PART;
    // One door of difference outweighs all walks.
    private static final int ONE_DOOR = 100000;
    private static final int NO_HALVES = 20000 * ONE_DOOR;
    // Above the harm of four words of which each is always read as each other.
    private static final int NO_WORDS = 1000000;

    private static final int ASK_NOT_RIGHT = -100000;
    private static final int ASK_BAD = -1000000;
    private static final int ASK_NO = -1000002;

    private final Streets streets;
    private final Text text;
    private final Items draft;
    private final Items inForce;
    private final Misreads misreads;
    private final Shaper shaper;
    private final Wording wording;
    private final Rounder rounder;
    private final Town town;
    private final Town[] kept;
    private int keptCount;

    public DoorCodes() {
        streets = new Streets();
        text = new Text();
        draft = new Items();
        inForce = new Items();
        misreads = new Misreads();
        shaper = new Shaper(streets, inForce);
        wording = new Wording(streets, inForce, misreads, shaper);
        rounder = new Rounder();
        town = new Town();
        kept = new Town[TOWNS];
        for (int i = 0; i < TOWNS; i++) {
            kept[i] = new Town();
        }
        keptCount = 0;
    }

    // ---- sides, shapes

    public int side(int doors, int growth, int length, int mail) {
        if (!within(doors, 1, 200) || !within(growth, 0, 20)
                || !within(length, 1, 500) || !within(mail, 1, 50)) {
            return BAD;
        }
        if (town.isGiven()) {
            return NO;
        }
        if (streets.size >= SIDES) {
            return FULL;
        }
        forgetShaped();
        return streets.add(doors, growth, length, mail);
    }

    public int link(int a, int b, int walk) {
        if (!isSide(a) || !isSide(b) || a == b || !within(walk, 0, 500)) {
            return BAD;
        }
        if (town.isGiven()) {
            return NO;
        }
        forgetShaped();
        return streets.setLink(a, b, walk);
    }

    public int doors(int side, int day) {
        if (!isSide(side) || !isDay(day)) {
            return BAD;
        }
        return streets.doorsOf(1 << side, day);
    }

    public int walk(int shape) {
        if (!isShape(shape)) {
            return BAD;
        }
        int least = streets.leastWalk(shape);
        return least < NO_WALK ? least : NONE;
    }

    public int row(int shape, int i) {
        if (!isShape(shape) || i < 0) {
            return BAD;
        }
        return streets.sideInRow(shape, i);
    }

    public int right(int shape, int day) {
        if (!isShape(shape) || !isDay(day)) {
            return BAD;
        }
        return shaper.isRight(shape, day) ? 1 : 0;
    }

    public int shaped(int day, int i) {
        if (!isDay(day) || i < -3) {
            return BAD;
        }
        shaper.shapeOn(day);
        if (i == -3) {
            return shaper.bar();
        }
        if (shaper.count == 0) {
            return NONE;
        }
        if (i == -1) {
            return shaper.count;
        }
        if (i == -2) {
            return shaper.walks;
        }
        return i < shaper.count ? shaper.shapes[i] : NONE;
    }

    // ---- rules

    public int write(int n, long v) {
        if (!within(n, 1, 8)) {
            return BAD;
        }
        if (text.length + n > BYTES) {
            return FULL;
        }
        text.append(n, v);
        return text.length;
    }

    public int wipe() {
        int was = text.length;
        text.length = 0;
        return was;
    }

    public int fault() {
        int place = draft.readFrom(text);
        return place < 0 ? NONE : place;
    }

    public int force() {
        if (draft.readFrom(text) >= 0) {
            return NO;
        }
        inForce.copy(draft);
        forgetShaped();
        return inForce.count;
    }

    public int rule(int what, int day) {
        if (!within(what, 0, 2) || !isDay(day)) {
            return BAD;
        }
        return inForce.valueOn(what, day);
    }

    public int why(int what, int day) {
        if (!within(what, 0, 2) || !isDay(day)) {
            return BAD;
        }
        int item = inForce.itemOn(what, day);
        return item < 0 ? NONE : item;
    }

    public int quarrel() {
        for (int one = 0; one < inForce.count; one++) {
            for (int other = one + 1; other < inForce.count; other++) {
                if (inForce.areAtOdds(one, other)) {
                    return 100 * one + other;
                }
            }
        }
        return NONE;
    }

    // ---- words

    public int misread(int from, int to, int v) {
        if (!isLetter(from) || !isLetter(to) || from == to || !within(v, 0, 99)) {
            return BAD;
        }
        if (!misreads.hasRoom(from, to, v)) {
            return NO;
        }
        wording.forget();
        return misreads.set(from, to, v);
    }

    public int read(int word, int as) {
        if (!isWord(word) || !isWord(as)) {
            return BAD;
        }
        return misreads.readAs(word, as);
    }

    public int words(int day, int l, int i) {
        if (!isDay(day) || !within(l, 2, 4) || i < -1) {
            return BAD;
        }
        if (!canBeWorded(day)) {
            return NO;
        }
        if (!wording.findWords(day, l)) {
            return NONE;
        }
        if (i == -1) {
            return wording.leastHarm;
        }
        return i < shaper.count && i < CODES_GIVEN ? wording.best[i] : NONE;
    }

    public int who(int word, int i) {
        if (!isWord(word) || i < -1) {
            return BAD;
        }
        if (i == -1) {
            return countOfMaybe(word);
        }
        for (int one = 0; one < ALL_WORDS; one++) {
            if (mayBe(one, word) && rankOfMaybe(one, word) == i) {
                return one;
            }
        }
        return NONE;
    }

    private boolean mayBe(int one, int word) {
        return town.sidesWith(one) != 0 && misreads.readAs(one, word) > 0;
    }

    private int countOfMaybe(int word) {
        int count = 0;
        for (int one = 0; one < ALL_WORDS; one++) {
            if (mayBe(one, word)) {
                count++;
            }
        }
        return count;
    }

    private int rankOfMaybe(int one, int word) {
        int mine = misreads.readAs(one, word);
        int rank = 0;
        for (int other = 0; other < ALL_WORDS; other++) {
            if (mayBe(other, word)) {
                int its = misreads.readAs(other, word);
                if (its > mine || its == mine && other < one) {
                    rank++;
                }
            }
        }
        return rank;
    }

    // ---- codes

    public int give(int day, int l) {
        if (!isDay(day) || !within(l, 2, 4)) {
            return BAD;
        }
        if (day < town.latest || !canBeWorded(day)) {
            return NO;
        }
        if (!wording.findWords(day, l)) {
            return FULL;
        }
        for (int i = 0; i < shaper.count && i < CODES_GIVEN; i++) {
            renameAll(shaper.shapes[i], wording.best[i], day);
        }
        town.latest = day;
        return shaper.count;
    }

    public int split(int side, int day) {
        if (!isSide(side) || !isDay(day)) {
            return BAD;
        }
        if (!town.isGiven() || day < town.latest) {
            return NO;
        }
        int code = town.codeOf(side);
        int stays = bestHalf(code, day);
        if (stays == 0) {
            return NO;
        }
        int word = lowestFreeWord(day);
        if (word < 0) {
            return FULL;
        }
        renameAll(code ^ stays, word, day);
        town.latest = day;
        return word;
    }

    public int ask(int side, int other, int day) {
        return costOfAsk(side, other, day);
    }

    public int pass(int side, int other, int day) {
        int cost = costOfAsk(side, other, day);
        if (cost == ASK_BAD) {
            return BAD;
        }
        if (cost == ASK_NO || cost == ASK_NOT_RIGHT) {
            return NO;
        }
        int word = town.wordOf(other);
        renameAll(1 << side, word, day);
        town.latest = day;
        return word;
    }

    public int code(int side, int what) {
        if (!isSide(side) || !within(what, 0, 1)) {
            return BAD;
        }
        int word = town.wordOf(side);
        if (word < 0) {
            return NONE;
        }
        return what == 0 ? word : town.sidesWith(word);
    }

    public int lead(int word, int day) {
        if (!isWord(word) || !isDay(day)) {
            return BAD;
        }
        if (day < town.latest) {
            return NO;
        }
        int codes = town.ledTo(word, day);
        return codes == 0 ? NONE : codes;
    }

    private void renameAll(int shape, int word, int day) {
        int days = inForce.valueOn(2, day);
        for (int side = 0; side < SIDES; side++) {
            if (hasSide(shape, side)) {
                town.rename(side, word, day + days);
            }
        }
    }

    /** The part with the lowest side by which a code is best split, 0 if it can not be. */
    private int bestHalf(int code, int day) {
        int lowest = code & -code;
        int others = code ^ lowest;
        int best = 0;
        int bestKey = NO_HALVES;
        // Downwards, so that of equal ones the least bits come last and stay.
        for (int more = others; more >= 0; more--) {
            more = more & others;
            int half = more | lowest;
            if (half != code && shaper.isRight(half, day) && shaper.isRight(code ^ half, day)) {
                int key = keyOfHalves(half, code ^ half, day);
                if (key <= bestKey) {
                    bestKey = key;
                    best = half;
                }
            }
        }
        return best;
    }

    private int keyOfHalves(int one, int other, int day) {
        int difference = Math.abs(streets.doorsOf(one, day) - streets.doorsOf(other, day));
        return difference * ONE_DOOR + streets.leastWalk(one) + streets.leastWalk(other);
    }

    private int lowestFreeWord(int day) {
        for (int word = 0; word < ALL_WORDS; word++) {
            if (inForce.allowsWord(word) && town.ledTo(word, day) == 0) {
                return word;
            }
        }
        return -1;
    }

    private int costOfAsk(int side, int other, int day) {
        if (!isSide(side) || !isSide(other) || !isDay(day)) {
            return ASK_BAD;
        }
        if (!town.isGiven() || day < town.latest || town.wordOf(side) == town.wordOf(other)) {
            return ASK_NO;
        }
        int from = town.codeOf(side);
        int to = town.codeOf(other);
        int left = from ^ (1 << side);
        int joined = to | (1 << side);
        if (!shaper.isRight(joined, day) || left != 0 && !shaper.isRight(left, day)) {
            return ASK_NOT_RIGHT;
        }
        int leftWalk = left == 0 ? 0 : streets.leastWalk(left);
        return streets.leastWalk(joined) + leftWalk
                - streets.leastWalk(from) - streets.leastWalk(to);
    }

    // ---- rounds, books

    public int rounds(int day, int b, int what) {
        if (!isDay(day) || !within(b, 1, HEAVIEST_ROUND) || !within(what, 0, 1)) {
            return BAD;
        }
        if (!town.isGiven()) {
            return NO;
        }
        rounder.weigh(streets, town, day);
        int key = rounder.fewest(b);
        if (key >= NO_PARTS) {
            return NONE;
        }
        return what == 0 ? key / ONE_PART : key % ONE_PART;
    }

    public int fullYear(int side, int day) {
        if (!isSide(side) || !isDay(day)) {
            return BAD;
        }
        if (!town.isGiven()) {
            return NO;
        }
        int code = town.codeOf(side);
        int most = inForce.valueOn(0, day);
        for (int k = 0; k <= YEARS_AHEAD; k++) {
            if (streets.doorsOf(code, day + YEAR * k) > most) {
                return k;
            }
        }
        return NONE;
    }

    public int edition() {
        if (!town.isGiven()) {
            return NO;
        }
        if (town.editions >= EDITIONS) {
            return FULL;
        }
        return town.print();
    }

    public int book(int edition, int side) {
        if (!isEdition(edition) || !isSide(side)) {
            return BAD;
        }
        return town.printed(edition, side);
    }

    public int wrong(int edition, int day) {
        if (!isEdition(edition) || !isDay(day)) {
            return BAD;
        }
        if (day < town.latest) {
            return NO;
        }
        int bits = 0;
        for (int side = 0; side < streets.size; side++) {
            if (town.isMisprinted(edition, side, day)) {
                bits |= 1 << side;
            }
        }
        return bits;
    }

    public int keep() {
        if (keptCount >= TOWNS) {
            return FULL;
        }
        kept[keptCount].copy(town);
        keptCount++;
        return keptCount;
    }

    public int back() {
        if (keptCount <= 0) {
            return NO;
        }
        keptCount--;
        town.copy(kept[keptCount]);
        return keptCount;
    }

    public int count(int what) {
        switch (what) {
            case 0: return streets.size;
            case 1: return streets.countLinks();
            case 2: return text.length;
            case 3: return inForce.count;
            case 4: return town.countCodes();
            case 5: return town.countOldWords();
            case 6: return town.editions;
            case 7: return keptCount;
            case 8: return town.latest;
            default: return BAD;
        }
    }

    // ---- what several calls ask

    private static boolean within(int v, int low, int high) {
        return v >= low && v <= high;
    }

    private static boolean isDay(int day) {
        return within(day, 0, LAST_DAY);
    }

    private static boolean isLetter(int letter) {
        return within(letter, 0, LETTERS - 1);
    }

    private static boolean isWord(int word) {
        return within(word, 0, ALL_WORDS - 1);
    }

    private static boolean hasSide(int shape, int side) {
        return (shape >> side & 1) == 1;
    }

    private boolean isSide(int side) {
        return within(side, 0, streets.size - 1);
    }

    private boolean isShape(int shape) {
        return within(shape, 1, streets.allSides());
    }

    private boolean isEdition(int edition) {
        return within(edition, 0, town.editions - 1);
    }

    private boolean canBeWorded(int day) {
        shaper.shapeOn(day);
        return within(shaper.count, 1, CODES_GIVEN);
    }

    private void forgetShaped() {
        shaper.forget();
        wording.forget();
    }

    /** Sides, links, and the walks of all shapes. */
    private static final class Streets {
        private final int[] doorsFirst = new int[SIDES];
        private final int[] growths = new int[SIDES];
        private final int[] lengths = new int[SIDES];
        private final int[] mails = new int[SIDES];
        private final int[] links = new int[SIDES * SIDES];
        private final int[] least = new int[SHAPES];
        // Least walk of a shape's rows that begin with a side.
        private final int[] leastFrom = new int[SHAPES * SIDES];
        private int size;
        private boolean walked;

        private int add(int doors, int growth, int length, int mail) {
            if (size >= SIDES) {
                return FULL;
            }
            doorsFirst[size] = doors;
            growths[size] = growth;
            lengths[size] = length;
            mails[size] = mail;
            walked = false;
            size++;
            return size - 1;
        }

        private int setLink(int a, int b, int steps) {
            int was = links[a * SIDES + b];
            links[a * SIDES + b] = steps;
            links[b * SIDES + a] = steps;
            walked = false;
            return was;
        }

        private int countLinks() {
            int count = 0;
            for (int a = 0; a < SIDES; a++) {
                for (int b = a + 1; b < SIDES; b++) {
                    if (links[a * SIDES + b] > 0) {
                        count++;
                    }
                }
            }
            return count;
        }

        private int allSides() {
            return (1 << size) - 1;
        }

        private int doorsOf(int shape, int day) {
            int sum = 0;
            for (int side = 0; side < size; side++) {
                if (hasSide(shape, side)) {
                    sum += doorsFirst[side] + growths[side] * (day / YEAR);
                }
            }
            return sum;
        }

        private int weightOf(int shape, int day) {
            int sum = 0;
            for (int side = 0; side < size; side++) {
                if (hasSide(shape, side)) {
                    sum += mails[side] * doorsOf(1 << side, day);
                }
            }
            return sum;
        }

        private boolean areLinked(int one, int other) {
            for (int a = 0; a < size; a++) {
                for (int b = 0; b < size; b++) {
                    if (hasSide(one, a) && hasSide(other, b) && links[a * SIDES + b] > 0) {
                        return true;
                    }
                }
            }
            return false;
        }

        /** NO_WALK, if no row of the shape can be walked. */
        private int leastWalk(int shape) {
            if (!within(shape, 1, allSides())) {
                return NO_WALK;
            }
            walkAll();
            return least[shape];
        }

        private void walkAll() {
            if (walked) {
                return;
            }
            // A shape's rest is a lesser number, so it is walked before.
            for (int shape = 1; shape <= allSides(); shape++) {
                int shortest = NO_WALK;
                for (int first = 0; first < size; first++) {
                    int steps = hasSide(shape, first) ? stepsFrom(shape, first) : NO_WALK;
                    leastFrom[shape * SIDES + first] = steps;
                    shortest = Math.min(shortest, steps);
                }
                least[shape] = shortest;
            }
            walked = true;
        }

        /** The side is in the shape. */
        private int stepsFrom(int shape, int first) {
            int rest = shape ^ (1 << first);
            if (rest == 0) {
                return lengths[first];
            }
            int shortest = NO_WALK;
            for (int next = 0; next < size; next++) {
                int steps = links[first * SIDES + next];
                int behind = leastFrom[rest * SIDES + next];
                int together = lengths[first] + steps + behind;
                if (steps > 0 && behind < NO_WALK && together < shortest) {
                    shortest = together;
                }
            }
            return shortest;
        }

        private int sideInRow(int shape, int place) {
            int due = leastWalk(shape);
            if (due >= NO_WALK) {
                return NONE;
            }
            int left = shape;
            int before = -1;
            for (int at = 0; at < size && left != 0; at++) {
                int next = nextInRow(left, before, due);
                if (next < 0 || at == place) {
                    return next < 0 ? NONE : next;
                }
                due = leastFrom[left * SIDES + next] - lengths[next];
                left ^= 1 << next;
                before = next;
            }
            return NONE;
        }

        /** The lowest side that may come next, if all that is left takes the steps due. */
        private int nextInRow(int left, int before, int due) {
            for (int next = 0; next < size; next++) {
                int steps = before < 0 ? 0 : links[before * SIDES + next];
                boolean canFollow = hasSide(left, next) && (before < 0 || steps > 0);
                if (canFollow && steps + leastFrom[left * SIDES + next] == due) {
                    return next;
                }
            }
            return -1;
        }
    }

    /** The bytes that are written. */
    private static final class Text {
        private final byte[] bytes = new byte[BYTES];
        private int length;

        private void append(int n, long v) {
            for (int i = n - 1; i >= 0 && length < BYTES; i--) {
                bytes[length] = (byte) (v >> (8 * i));
                length++;
            }
        }

        /** -1 behind the end. */
        private int at(int place) {
            return place >= 0 && place < length ? bytes[place] & 255 : -1;
        }

        private int endOfFigures(int start) {
            int end = start;
            while (end < length && within(at(end), '0', '9')) {
                end++;
            }
            return end;
        }

        /** -1, if there are not one to five figures. */
        private int number(int start, int end) {
            if (!within(end - start, 1, 5)) {
                return -1;
            }
            int value = 0;
            for (int place = start; place < end; place++) {
                value = value * 10 + at(place) - '0';
            }
            return value;
        }
    }

    /** The items of a text without fault. */
    private static final class Items {
        private final int[] letters = new int[ITEMS];
        private final int[] firsts = new int[ITEMS];
        private final int[] seconds = new int[ITEMS];
        private int count;

        private void copy(Items other) {
            System.arraycopy(other.letters, 0, letters, 0, ITEMS);
            System.arraycopy(other.firsts, 0, firsts, 0, ITEMS);
            System.arraycopy(other.seconds, 0, seconds, 0, ITEMS);
            count = other.count;
        }

        /** The place of the first fault, -1 without. */
        private int readFrom(Text text) {
            count = 0;
            int start = 0;
            while (start < text.length) {
                int next = readItem(text, start);
                if (next <= start) {
                    return start;
                }
                start = next;
            }
            return -1;
        }

        /** Where the next item begins, -1 if this one is not so. */
        private int readItem(Text text, int start) {
            int comma = text.endOfFigures(start + 1);
            int end = text.endOfFigures(comma + 1);
            int letter = text.at(start);
            int first = text.number(start + 1, comma);
            int second = text.number(comma + 1, end);
            if (first < 0 || second < 0 || text.at(comma) != ',' || text.at(end) != ';') {
                return -1;
            }
            if (!isItem(letter, first, second) || count >= ITEMS) {
                return -1;
            }
            letters[count] = letter;
            firsts[count] = first;
            seconds[count] = second;
            count++;
            return end + 1;
        }

        private static boolean isItem(int letter, int first, int second) {
            switch (letter) {
                case 'm': return within(first, 1, 9999) && isDay(second);
                case 'y': return within(first, 0, YEARS_AHEAD) && isDay(second);
                case 'o': return within(first, 0, 9999) && isDay(second);
                case 'n': return isLetter(first) && isLetter(second);
                case 's':
                case 'u': return first < SIDES && second < SIDES && first != second;
                default: return false;
            }
        }

        private static int letterOf(int what) {
            return what == 0 ? 'm' : what == 1 ? 'y' : 'o';
        }

        /** The number of the item that holds, -1 without. */
        private int itemOn(int what, int day) {
            int letter = letterOf(what);
            for (int i = count - 1; i >= 0; i--) {
                if (letters[i] == letter && seconds[i] <= day) {
                    return i;
                }
            }
            return -1;
        }

        private int valueOn(int what, int day) {
            int item = itemOn(what, day);
            if (item < 0) {
                return what == 0 ? 100 : 0;
            }
            return firsts[item];
        }

        private boolean areAtOdds(int one, int other) {
            int a = letters[one];
            int b = letters[other];
            if (a == b) {
                boolean byDay = a == 'm' || a == 'y' || a == 'o';
                return byDay && seconds[one] == seconds[other] && firsts[one] != firsts[other];
            }
            boolean partAndJoin = a == 's' && b == 'u' || a == 'u' && b == 's';
            return partAndJoin && pairOf(one) == pairOf(other);
        }

        private int pairOf(int item) {
            return 1 << firsts[item] | 1 << seconds[item];
        }

        private boolean allowsWord(int word) {
            int pair = 1 << (word / LETTERS) | 1 << (word % LETTERS);
            for (int i = 0; i < count; i++) {
                if (letters[i] == 'n' && pairOf(i) == pair) {
                    return false;
                }
            }
            return true;
        }

        private boolean allowsShape(int shape) {
            for (int i = 0; i < count; i++) {
                boolean first = hasSide(shape, firsts[i]);
                boolean second = hasSide(shape, seconds[i]);
                if (letters[i] == 's' && first && second || letters[i] == 'u' && first != second) {
                    return false;
                }
            }
            return true;
        }
    }

    /** By how many hundredths a letter is read as another. */
    private static final class Misreads {
        private final int[] hundredths = new int[LETTERS * LETTERS];

        private boolean hasRoom(int from, int to, int v) {
            return leftOf(from) + hundredths[from * LETTERS + to] >= v;
        }

        private int set(int from, int to, int v) {
            int was = hundredths[from * LETTERS + to];
            hundredths[from * LETTERS + to] = v;
            return was;
        }

        private int leftOf(int from) {
            int left = 100;
            for (int to = 0; to < LETTERS; to++) {
                left -= hundredths[from * LETTERS + to];
            }
            return left;
        }

        private int letterAs(int from, int to) {
            return from == to ? leftOf(from) : hundredths[from * LETTERS + to];
        }

        private int readAs(int word, int as) {
            return letterAs(word / LETTERS, as / LETTERS) * letterAs(word % LETTERS, as % LETTERS);
        }
    }

    /** Which shapes are right, and how all sides are shaped. */
    private static final class Shaper {
        private final Streets streets;
        private final Items rules;
        private final boolean[] rights = new boolean[SHAPES];
        private final int[] keys = new int[SHAPES];
        private final int[] parts = new int[SHAPES];
        private final int[] shapes = new int[SIDES];
        private int count;
        private int walks;
        private int dayShaped;

        private Shaper(Streets streets, Items rules) {
            this.streets = streets;
            this.rules = rules;
            dayShaped = -1;
        }

        private void forget() {
            dayShaped = -1;
        }

        private boolean isRight(int shape, int day) {
            return fits(shape, dayLookedAt(day), rules.valueOn(0, day));
        }

        private int dayLookedAt(int day) {
            return day + YEAR * rules.valueOn(1, day);
        }

        private boolean fits(int shape, int later, int most) {
            return streets.leastWalk(shape) < NO_WALK
                    && streets.doorsOf(shape, later) <= most
                    && rules.allowsShape(shape);
        }

        /** Leaves count 0, if the sides can not be shaped. */
        private void shapeOn(int day) {
            if (dayShaped == day) {
                return;
            }
            int all = streets.allSides();
            int later = dayLookedAt(day);
            int most = rules.valueOn(0, day);
            for (int set = 1; set <= all; set++) {
                rights[set] = fits(set, later, most);
                findPart(set);
            }
            count = 0;
            walks = 0;
            dayShaped = day;
            if (all == 0 || keys[all] >= NO_PARTS) {
                return;
            }
            walks = keys[all] % ONE_PART;
            int left = all;
            for (int i = 0; i < SIDES && left != 0; i++) {
                shapes[i] = parts[left];
                left ^= shapes[i];
                count++;
            }
        }

        /** Of a set, with all lesser ones found: the best part that has its lowest side. */
        private void findPart(int set) {
            int lowest = set & -set;
            int others = set ^ lowest;
            int bestKey = NO_PARTS;
            int best = 0;
            // Downwards, so that of equal ones the least bits come last and stay.
            for (int more = others; more >= 0; more--) {
                more = more & others;
                int part = more | lowest;
                int rest = set ^ part;
                if (rights[part] && keys[rest] < NO_PARTS) {
                    int key = keys[rest] + ONE_PART + streets.leastWalk(part);
                    if (key <= bestKey) {
                        bestKey = key;
                        best = part;
                    }
                }
            }
            keys[set] = bestKey;
            parts[set] = best;
        }

        /** Of the day shaped last. */
        private int bar() {
            if (count > 0) {
                return NONE;
            }
            for (int side = 0; side < streets.size; side++) {
                if (!isInRight(side)) {
                    return side;
                }
            }
            return NONE;
        }

        private boolean isInRight(int side) {
            for (int shape = 1; shape <= streets.allSides(); shape++) {
                if (rights[shape] && hasSide(shape, side)) {
                    return true;
                }
            }
            return false;
        }
    }

    /** The words of least harm for the shapes of a day. */
    private static final class Wording {
        private final Streets streets;
        private final Items rules;
        private final Misreads misreads;
        private final Shaper shaper;
        private final int[] candidates = new int[CODES_GIVEN * CODES_GIVEN];
        private final int[] harms = new int[CODES_GIVEN * CODES_GIVEN * CODES_GIVEN * CODES_GIVEN];
        private final int[] times = new int[CODES_GIVEN * CODES_GIVEN];
        private final int[] chosen = new int[CODES_GIVEN];
        private final int[] best = new int[CODES_GIVEN];
        private int candidateCount;
        private int codeCount;
        private int leastHarm;
        private int dayFound;
        private int lettersFound;

        private Wording(Streets streets, Items rules, Misreads misreads, Shaper shaper) {
            this.streets = streets;
            this.rules = rules;
            this.misreads = misreads;
            this.shaper = shaper;
            dayFound = -1;
        }

        private void forget() {
            dayFound = -1;
        }

        /** The shaper has one to four shapes of that day. False, if words are too few. */
        private boolean findWords(int day, int letterCount) {
            if (day != dayFound || letterCount != lettersFound) {
                codeCount = Math.min(shaper.count, CODES_GIVEN);
                gatherCandidates(letterCount);
                compareAll();
                leastHarm = NO_WORDS;
                choose(0, 0);
                dayFound = day;
                lettersFound = letterCount;
            }
            return candidateCount >= codeCount;
        }

        private void gatherCandidates(int letterCount) {
            candidateCount = 0;
            for (int word = 0; word < ALL_WORDS; word++) {
                boolean low = word / LETTERS < letterCount && word % LETTERS < letterCount;
                if (low && rules.allowsWord(word) && candidateCount < candidates.length) {
                    candidates[candidateCount] = word;
                    candidateCount++;
                }
            }
        }

        private void compareAll() {
            for (int a = 0; a < candidateCount; a++) {
                for (int b = 0; b < candidateCount; b++) {
                    harms[a * candidates.length + b] =
                            misreads.readAs(candidates[a], candidates[b])
                            + misreads.readAs(candidates[b], candidates[a]);
                }
            }
            for (int a = 0; a < codeCount; a++) {
                for (int b = 0; b < codeCount; b++) {
                    boolean near = streets.areLinked(shaper.shapes[a], shaper.shapes[b]);
                    times[a * CODES_GIVEN + b] = near ? 3 : 1;
                }
            }
        }

        // Lower words come first, so that only less harm takes the place of what was found.
        private void choose(int at, int harm) {
            if (harm >= leastHarm || at > CODES_GIVEN) {
                return;
            }
            if (at == codeCount) {
                leastHarm = harm;
                for (int i = 0; i < codeCount; i++) {
                    best[i] = candidates[chosen[i]];
                }
                return;
            }
            for (int candidate = 0; candidate < candidateCount; candidate++) {
                if (!isChosen(candidate, at)) {
                    chosen[at] = candidate;
                    choose(at + 1, harm + harmOfLast(at));
                }
            }
        }

        private boolean isChosen(int candidate, int before) {
            for (int i = 0; i < before; i++) {
                if (chosen[i] == candidate) {
                    return true;
                }
            }
            return false;
        }

        private int harmOfLast(int last) {
            int sum = 0;
            for (int i = 0; i < last; i++) {
                sum += harms[chosen[i] * candidates.length + chosen[last]]
                        * times[i * CODES_GIVEN + last];
            }
            return sum;
        }
    }

    /** Rounds of whole codes. */
    private static final class Rounder {
        private final int[] weights = new int[SIDES];
        private final int[] loads = new int[SHAPES];
        private final int[] keys = new int[SHAPES];
        private int codes;

        private void weigh(Streets streets, Town town, int day) {
            codes = 0;
            for (int side = 0; side < SIDES; side++) {
                int code = town.codeOf(side);
                if ((code & -code) == 1 << side && codes < SIDES) {
                    weights[codes] = streets.weightOf(code, day);
                    codes++;
                }
            }
            for (int set = 1; set < 1 << codes; set++) {
                loads[set] = loadOf(set);
            }
        }

        private int loadOf(int set) {
            int sum = 0;
            for (int i = 0; i < codes; i++) {
                if (hasSide(set, i)) {
                    sum += weights[i];
                }
            }
            return sum;
        }

        /** How many rounds times ONE_PART and the heaviest's load; NO_PARTS, if none can be. */
        private int fewest(int bound) {
            int all = (1 << codes) - 1;
            for (int set = 1; set <= all; set++) {
                keys[set] = bestOf(set, bound);
            }
            return keys[all];
        }

        private int bestOf(int set, int bound) {
            int lowest = set & -set;
            int others = set ^ lowest;
            int best = NO_PARTS;
            for (int more = others; more >= 0; more--) {
                more = more & others;
                int load = loads[more | lowest];
                int rest = keys[others ^ more];
                if (load <= bound && rest < NO_PARTS) {
                    int heaviest = Math.max(load, rest % ONE_PART);
                    best = Math.min(best, rest - rest % ONE_PART + ONE_PART + heaviest);
                }
            }
            return best;
        }
    }

    /** What is kept: words of sides, what leads to them, the latest day, editions. */
    private static final class Town {
        private final int[] words = new int[SIDES];
        // The last day on which a word leads to a side that had it, -1 without.
        private final int[] lastLed = new int[SIDES * ALL_WORDS];
        private final int[] books = new int[EDITIONS * SIDES];
        private int editions;
        private int latest;

        private Town() {
            Arrays.fill(words, -1);
            Arrays.fill(lastLed, -1);
            latest = -1;
        }

        private void copy(Town other) {
            System.arraycopy(other.words, 0, words, 0, words.length);
            System.arraycopy(other.lastLed, 0, lastLed, 0, lastLed.length);
            System.arraycopy(other.books, 0, books, 0, books.length);
            editions = other.editions;
            latest = other.latest;
        }

        private boolean isGiven() {
            return latest >= 0;
        }

        private int wordOf(int side) {
            return words[side];
        }

        private int sidesWith(int word) {
            int bits = 0;
            for (int side = 0; side < SIDES; side++) {
                if (words[side] == word) {
                    bits |= 1 << side;
                }
            }
            return bits;
        }

        /** 0, if the side has no word. */
        private int codeOf(int side) {
            return words[side] < 0 ? 0 : sidesWith(words[side]);
        }

        private int ledTo(int word, int day) {
            int bits = 0;
            for (int side = 0; side < SIDES; side++) {
                if (words[side] == word || lastLed[side * ALL_WORDS + word] >= day) {
                    bits |= codeOf(side);
                }
            }
            return bits;
        }

        private void rename(int side, int word, int lastDay) {
            int old = words[side];
            if (old == word) {
                return;
            }
            if (old >= 0) {
                int led = side * ALL_WORDS + old;
                lastLed[led] = Math.max(lastLed[led], lastDay);
            }
            words[side] = word;
        }

        private int countCodes() {
            int codes = 0;
            for (int word = 0; word < ALL_WORDS; word++) {
                if (sidesWith(word) != 0) {
                    codes++;
                }
            }
            return codes;
        }

        private int countOldWords() {
            if (!isGiven()) {
                return 0;
            }
            int old = 0;
            for (int word = 0; word < ALL_WORDS; word++) {
                if (sidesWith(word) == 0 && ledTo(word, latest) != 0) {
                    old++;
                }
            }
            return old;
        }

        private int print() {
            System.arraycopy(words, 0, books, editions * SIDES, SIDES);
            editions++;
            return editions - 1;
        }

        private int printed(int edition, int side) {
            return books[edition * SIDES + side];
        }

        private boolean isMisprinted(int edition, int side, int day) {
            int word = printed(edition, side);
            if (word == words[side]) {
                return false;
            }
            return word < 0 || !hasSide(ledTo(word, day), side);
        }
    }
}
