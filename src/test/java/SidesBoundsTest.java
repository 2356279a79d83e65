/** The bounds that promises 1 to 8 name, each sentence by itself: a new object, sides, shapes. */
public final class SidesBoundsTest {
    private static final int BAD = Checks.BAD, NO = Checks.NO, FULL = Checks.FULL, NONE = Checks.NONE;
    private static final int LOWEST = Checks.LOWEST, HIGHEST = Checks.HIGHEST;
    private static final Checks c = new Checks();

    public static void main(String[] args) {
        newObject();
        objectsApart();
        lastCall();
        sideNumbers();
        sideFull();
        sideGiven();
        linkNumbers();
        linkEdges();
        linkGiven();
        doorsNumbers();
        doorsByYears();
        shapeNumbers();
        walks();
        rowPlaces();
        rowFirst();
        rowLinked();
        walksAsked();
        rightNumbers();
        rightByDoors();
        rightByYears();
        rightBySidesTold();
        shapedNumbers();
        shapedEmptyAndFull();
        shapedFewest();
        shapedTies();
        shapedBar();
        shapedAsked();
        c.end("sides");
    }

    // ---- promise 1

    private static void newObject() {
        DoorCodes x = new DoorCodes();
        for (int what = 0; what < 8; what++) {
            c.due("1: count " + what, x.count(what), 0);
        }
        c.due("1: no latest day", x.count(8), -1);
        c.due("1: no fault in the empty text", x.fault(), NONE);
        c.due("1: m without item", x.rule(0, 14600), 100);
        c.due("1: y without item", x.rule(1, 14600), 0);
        c.due("1: o without item", x.rule(2, 14600), 0);
        c.due("1: no quarrel", x.quarrel(), NONE);
        c.due("1: no side", x.doors(0, 0), BAD);
        c.due("1: no shape", x.walk(1), BAD);
        c.due("1: not shaped", x.shaped(0, -1), NONE);
        c.due("1: nobody", x.who(0, -1), 0);
        c.due("1: nothing leads", x.lead(0, 0), NONE);
        c.due("1: no rounds", x.rounds(0, 1, 0), NO);
        c.due("1: no edition", x.book(0, 0), BAD);
        c.due("1: nothing to edit", x.edition(), NO);
        c.due("1: nothing to go back to", x.back(), NO);
        c.due("1: wiped empty", x.wipe(), 0);
        c.due("1: forced empty", x.force(), 0);
        c.due("1: the first side", x.side(1, 0, 1, 1), 0);
        c.due("1: a side without word", x.code(0, 0), NONE);
        for (int from = 0; from < 6; from++) {
            for (int to = 0; to < 6; to++) {
                c.due("1: nothing is misread", x.read(7 * from, 7 * to), from == to ? 10000 : 0);
            }
        }
    }

    private static void objectsApart() {
        DoorCodes x = new DoorCodes();
        DoorCodes y = new DoorCodes();
        Checks.rich(x);
        c.due("1: another object", y.count(0), 0);
        c.due("1: another object", y.count(2), 0);
        c.due("1: another object", y.rule(0, 0), 100);
        c.due("1: another object", y.back(), NO);
    }

    /** An object is used for at most 512 calls, and all of them are as told. */
    private static void lastCall() {
        DoorCodes x = Checks.made(Checks.chain(9));
        int calls = 9 + 8;
        x.give(0, 2);
        calls++;
        while (calls < 508) {
            c.due("1: call " + calls, x.give(calls, 2), 3);
            calls++;
        }
        c.due("1: call 509", x.count(8), 507);
        c.due("1: call 510", x.edition(), 0);
        c.due("1: call 511", x.split(8, 507), 2);
        c.due("1: call 512", x.code(8, 1), 256 + 128);
    }

    // ---- promise 2

    private static void sideNumbers() {
        int[] least = {1, 0, 1, 1};
        int[] greatest = {200, 20, 500, 50};
        for (int n = 0; n < 4; n++) {
            int[] bad = {LOWEST, -1, least[n] - 1, greatest[n] + 1, HIGHEST};
            for (int v : bad) {
                int[] a = {7, 7, 7, 7};
                a[n] = v;
                c.refused("2: number " + n + " is " + v, Checks.chain(2), x -> x.side(a[0], a[1], a[2], a[3]), BAD);
            }
            for (int v : new int[] {least[n], greatest[n]}) {
                int[] a = {7, 7, 7, 7};
                a[n] = v;
                DoorCodes x = new DoorCodes();
                c.due("2: number " + n + " is " + v, x.side(a[0], a[1], a[2], a[3]), 0);
                c.due("2: doors", x.doors(0, 0), a[0]);
                c.due("2: growth", x.doors(0, 365), a[0] + a[1]);
                c.due("2: length", x.walk(1), a[2]);
                Checks.force(x, "m9999,0;");
                x.give(0, 2);
                c.due("2: mail", x.rounds(0, 1000000, 1), a[0] * a[3]);
            }
        }
        c.changes("2: what is seen", Checks.chain(2), x -> x.side(7, 7, 7, 7));
    }

    private static void sideFull() {
        DoorCodes x = new DoorCodes();
        for (int i = 0; i < 9; i++) {
            c.due("2: as they come", x.side(1, 0, 1, 1), i);
            c.due("2: so many", x.count(0), i + 1);
        }
        c.refused("2: a tenth", Checks.chain(9), y -> y.side(1, 0, 1, 1), FULL);
        c.refused("2: BAD ahead of FULL", Checks.chain(9), y -> y.side(201, 0, 1, 1), BAD);
        c.due("2: a ninth", Checks.chain(8), y -> y.side(1, 0, 1, 1), 8);
    }

    private static void sideGiven() {
        Checks.State given = Checks.with(Checks.chain(3), x -> x.give(0, 2));
        c.refused("2: codes are given", given, x -> x.side(1, 0, 1, 1), NO);
        c.refused("2: codes are given", Checks::rich, x -> x.side(1, 0, 1, 1), NO);
        c.refused("2: BAD ahead of NO", given, x -> x.side(1, 0, 1, 51), BAD);
        Checks.State nine = Checks.with(Checks.chain(9), x -> x.give(0, 2));
        c.refused("2: NO ahead of FULL", nine, x -> x.side(1, 0, 1, 1), NO);
        Checks.State refusedGive = Checks.with(Checks.apart(5), x -> x.give(0, 2));
        c.due("2: a refused give gives none", refusedGive, x -> x.side(1, 0, 1, 1), 5);
        Checks.State back = Checks.with(Checks.chain(3), x -> {
            x.keep();
            x.give(0, 2);
            x.back();
        });
        c.due("2: no codes are given any more", back, x -> x.side(1, 0, 1, 1), 3);
    }

    // ---- promise 3

    private static void linkNumbers() {
        int[] badSides = {LOWEST, -1, 3, 8, 9, HIGHEST};
        for (int s : badSides) {
            c.refused("3: a is " + s, Checks.chain(3), x -> x.link(s, 1, 5), BAD);
            c.refused("3: b is " + s, Checks.chain(3), x -> x.link(1, s, 5), BAD);
        }
        for (int w : new int[] {LOWEST, -1, 501, HIGHEST}) {
            c.refused("3: walk is " + w, Checks.chain(3), x -> x.link(0, 1, w), BAD);
        }
        for (int s = 0; s < 3; s++) {
            int side = s;
            c.refused("3: with itself", Checks.chain(3), x -> x.link(side, side, 5), BAD);
            c.refused("3: with itself, none", Checks.chain(3), x -> x.link(side, side, 0), BAD);
        }
        c.refused("3: without sides", Checks::empty, x -> x.link(0, 1, 5), BAD);
        c.refused("3: with one side", Checks.chain(1), x -> x.link(0, 1, 5), BAD);
        c.refused("3: side 8 of eight", Checks.chain(8), x -> x.link(8, 0, 5), BAD);
        c.due("3: side 8 of nine", Checks.chain(9), x -> x.link(8, 0, 5), 0);
        c.due("3: side 8 of nine", Checks.chain(9), x -> x.link(0, 8, 5), 0);
        c.due("3: both ways", Checks.chain(9), x -> x.link(7, 8, 5), 5);
        c.due("3: both ways", Checks.chain(9), x -> x.link(8, 7, 5), 5);
    }

    private static void linkEdges() {
        DoorCodes x = Checks.made(Checks.apart(2));
        c.due("3: none taken away", x.link(0, 1, 0), 0);
        c.due("3: still none", x.count(1), 0);
        c.due("3: the least", x.link(0, 1, 1), 0);
        c.due("3: walked", x.walk(3), 3);
        c.due("3: the greatest", x.link(1, 0, 500), 1);
        c.due("3: walked", x.walk(3), 502);
        c.due("3: one link", x.count(1), 1);
        c.due("3: none", x.link(0, 1, 0), 500);
        c.due("3: not walked", x.walk(3), NONE);
        c.due("3: not walked", x.row(3, 0), NONE);
        c.due("3: no link", x.count(1), 0);
        c.due("3: was none", x.link(1, 0, 7), 0);
        DoorCodes y = Checks.made(Checks.apart(9));
        int links = 0;
        for (int a = 0; a < 9; a++) {
            for (int b = 0; b < a; b++) {
                c.due("3: new", y.link(a, b, 1), 0);
                links++;
                c.due("3: so many", y.count(1), links);
            }
        }
        c.due("3: all", y.count(1), 36);
    }

    private static void linkGiven() {
        Checks.State given = Checks.with(Checks.chain(3), x -> x.give(0, 2));
        c.refused("3: codes are given", given, x -> x.link(0, 2, 5), NO);
        c.refused("3: codes are given, none", given, x -> x.link(0, 1, 0), NO);
        c.refused("3: codes are given, as it is", given, x -> x.link(0, 1, 5), NO);
        c.refused("3: BAD ahead of NO", given, x -> x.link(0, 3, 5), BAD);
        c.refused("3: BAD ahead of NO", given, x -> x.link(0, 1, 501), BAD);
        c.refused("3: BAD ahead of NO", given, x -> x.link(1, 1, 5), BAD);
        c.changes("3: what is seen", Checks.chain(3), x -> x.link(0, 2, 5));
    }

    // ---- promise 4

    private static void doorsNumbers() {
        for (int day : Checks.BAD_DAYS) {
            c.refused("4: day " + day, Checks.chain(2), x -> x.doors(0, day), BAD);
        }
        for (int side : new int[] {LOWEST, -1, 2, 8, 9, HIGHEST}) {
            c.refused("4: side " + side, Checks.chain(2), x -> x.doors(side, 0), BAD);
        }
        c.due("4: no side", Checks::empty, x -> x.doors(0, 0), BAD);
        c.due("4: side 8 of eight", Checks.chain(8), x -> x.doors(8, 0), BAD);
        c.due("4: side 8 of nine", Checks.chain(9), x -> x.doors(8, 14600), 30);
    }

    private static void doorsByYears() {
        DoorCodes x = new DoorCodes();
        x.side(1, 20, 1, 1);
        x.side(200, 20, 1, 1);
        x.side(200, 0, 1, 1);
        x.side(1, 1, 1, 1);
        int[] days = {0, 1, 364, 365, 366, 729, 730, 14234, 14235, 14599, 14600};
        int[] years = {0, 0, 0, 1, 1, 1, 2, 38, 39, 39, 40};
        for (int i = 0; i < days.length; i++) {
            c.due("4: full years on day " + days[i], x.doors(0, days[i]), 1 + 20 * years[i]);
            c.due("4: full years on day " + days[i], x.doors(1, days[i]), 200 + 20 * years[i]);
            c.due("4: no growth on day " + days[i], x.doors(2, days[i]), 200);
            c.due("4: one a year on day " + days[i], x.doors(3, days[i]), 1 + years[i]);
        }
    }

    // ---- promises 5 and 6

    private static void shapeNumbers() {
        int[] sides = {0, 1, 2, 8, 9};
        for (int n : sides) {
            int behind = 1 << n;
            for (int shape : new int[] {LOWEST, LOWEST + 1, -1, 0, behind, behind + 1, 512, 1024, HIGHEST}) {
                c.due("5: shape " + shape + " of " + n, Checks.chain(n), x -> x.walk(shape), BAD);
                c.due("6: shape " + shape + " of " + n, Checks.chain(n), x -> x.row(shape, 0), BAD);
                c.due("7: shape " + shape + " of " + n, Checks.chain(n), x -> x.right(shape, 0), BAD);
            }
            if (n > 0) {
                c.due("5: the least of " + n, Checks.chain(n), x -> x.walk(1), 10);
                c.due("5: the greatest of " + n, Checks.chain(n), x -> x.walk(behind - 1), 10 * n + 5 * (n - 1));
                c.due("6: the greatest of " + n, Checks.chain(n), x -> x.row(behind - 1, n - 1), n - 1);
                c.due("7: the greatest of " + n, Checks.chain(n), x -> x.right(behind - 1, 0), n < 4 ? 1 : 0);
            }
        }
    }

    private static void walks() {
        DoorCodes x = new DoorCodes();
        x.side(1, 0, 1, 1);
        x.side(1, 0, 500, 1);
        c.due("5: alone, the shortest", x.walk(1), 1);
        c.due("5: alone, the longest", x.walk(2), 500);
        c.due("5: no link", x.walk(3), NONE);
        DoorCodes star = Checks.made(Checks.apart(4));
        star.link(0, 1, 1);
        star.link(0, 2, 1);
        c.due("5: a middle and two", star.walk(7), 5);
        star.link(0, 3, 1);
        c.due("5: a middle and three", star.walk(15), NONE);
        star.link(2, 3, 500);
        c.due("5: by the only row", star.walk(15), 4 + 1 + 1 + 500);
        DoorCodes all = new DoorCodes();
        for (int i = 0; i < 9; i++) {
            all.side(1, 0, 500, 1);
            for (int j = 0; j < i; j++) {
                all.link(i, j, 500);
            }
        }
        c.due("5: the longest of all", all.walk(511), 9 * 500 + 8 * 500);
        all.link(0, 8, 1);
        c.due("5: the least of all rows", all.walk(511), 9 * 500 + 7 * 500 + 1);
    }

    private static void rowPlaces() {
        for (int i : new int[] {LOWEST, -2, -1}) {
            c.refused("6: place " + i, Checks.chain(3), x -> x.row(7, i), BAD);
        }
        for (int i : new int[] {3, 4, 8, 9, HIGHEST}) {
            c.due("6: place " + i, Checks.chain(3), x -> x.row(7, i), NONE);
        }
        for (int i = 0; i < 3; i++) {
            int at = i;
            c.due("6: place " + i, Checks.chain(3), x -> x.row(7, at), at);
        }
        c.due("6: one side", Checks.chain(3), x -> x.row(4, 0), 2);
        c.due("6: behind one side", Checks.chain(3), x -> x.row(4, 1), NONE);
        c.due("6: no row", Checks.chain(3), x -> x.row(5, 0), NONE);
        c.due("6: BAD ahead of NONE", Checks.chain(3), x -> x.row(5, -1), BAD);
        c.due("6: BAD ahead of NONE", Checks.chain(3), x -> x.row(8, 3), BAD);
        c.due("6: the last of nine", Checks.chain(9), x -> x.row(511, 8), 8);
        c.due("6: behind nine", Checks.chain(9), x -> x.row(511, 9), NONE);
    }

    private static void rowOf(DoorCodes x, int shape, int... row) {
        for (int i = 0; i < row.length; i++) {
            c.due("6: place " + i + " of " + shape, x.row(shape, i), row[i]);
        }
        c.due("6: behind " + shape, x.row(shape, row.length), NONE);
    }

    private static void rowFirst() {
        DoorCodes x = Checks.made(Checks.apart(4));
        for (int a = 0; a < 4; a++) {
            for (int b = 0; b < a; b++) {
                x.link(a, b, 5);
            }
        }
        rowOf(x, 15, 0, 1, 2, 3);
        rowOf(x, 10, 1, 3);
        x.link(0, 3, 4);
        // Of six rows with 0 and 3 side by side the one that begins with 0, 3.
        rowOf(x, 15, 0, 3, 1, 2);
        x.link(1, 2, 4);
        rowOf(x, 15, 0, 3, 1, 2);
        x.link(0, 1, 6);
        x.link(1, 3, 6);
        // Now 1 is better off behind 2.
        rowOf(x, 15, 0, 3, 2, 1);
        x.link(2, 3, 6);
        // The least is by 2 and 0, both ways; the way from 1 is the first.
        rowOf(x, 15, 1, 2, 0, 3);
    }

    private static void rowLinked() {
        DoorCodes near = Checks.made(Checks.apart(3));
        near.link(0, 2, 1);
        near.link(1, 2, 1);
        rowOf(near, 7, 0, 2, 1);
        // What is left would be as long from 1 on as it is by way of 3, and yet 0 and 1 have no link.
        DoorCodes x = Checks.made(Checks.apart(4));
        x.link(0, 3, 4);
        x.link(3, 1, 1);
        x.link(1, 2, 1);
        x.link(3, 2, 5);
        c.due("5: the least", x.walk(15), 10);
        rowOf(x, 15, 0, 3, 1, 2);
        // The same with 0 and 1 named the other way about.
        DoorCodes y = Checks.made(Checks.apart(4));
        y.link(1, 3, 4);
        y.link(3, 0, 1);
        y.link(0, 2, 1);
        y.link(3, 2, 5);
        c.due("5: the least", y.walk(15), 10);
        rowOf(y, 15, 1, 3, 0, 2);
    }

    /** What was asked once is not the answer for good. */
    private static void walksAsked() {
        DoorCodes x = Checks.made(Checks.apart(2));
        c.due("5: no link", x.walk(3), NONE);
        x.link(0, 1, 7);
        c.due("5: a link", x.walk(3), 9);
        c.due("2: a side more", x.side(1, 0, 40, 1), 2);
        c.due("5: of the new side", x.walk(4), 40);
        c.due("5: not linked yet", x.walk(7), NONE);
        x.link(1, 2, 3);
        c.due("5: linked", x.walk(7), 52);
        c.due("6: linked", x.row(7, 2), 2);
        x.link(0, 1, 0);
        c.due("5: linked no more", x.walk(7), NONE);
        c.due("6: linked no more", x.row(7, 2), NONE);
    }

    // ---- promise 7

    private static void rightNumbers() {
        for (int day : Checks.BAD_DAYS) {
            c.refused("7: day " + day, Checks.chain(2), x -> x.right(1, day), BAD);
        }
        c.due("7: the first day", Checks.chain(2), x -> x.right(3, 0), 1);
        c.due("7: the last day", Checks.chain(2), x -> x.right(3, 14600), 1);
        c.due("7: no walk", Checks.apart(2), x -> x.right(3, 0), 0);
        c.due("7: alone", Checks.apart(2), x -> x.right(2, 0), 1);
    }

    /** Six sides, each linked with each, of which the last has so many doors at first: 9000 and those and 800 in 80 years. */
    private static Checks.State great(int doors) {
        return Checks.ruled(x -> {
            for (int i = 0; i < 6; i++) {
                x.side(i < 5 ? 200 : doors, i < 5 ? 20 : 10, 1, 1);
                for (int j = 0; j < i; j++) {
                    x.link(i, j, 1);
                }
            }
        }, "m9999,0;y40,0;");
    }

    private static void rightByDoors() {
        c.due("7: 9999 doors", great(199), x -> x.right(63, 14600), 1);
        c.due("7: 10000 doors", great(200), x -> x.right(63, 14600), 0);
        c.due("7: 10000 doors, a year sooner", great(200), x -> x.right(63, 14599), 1);
        Checks.State hundred = x -> {
            x.side(100, 0, 1, 1);
            x.side(101, 0, 1, 1);
            x.side(1, 0, 1, 1);
            x.link(0, 2, 1);
        };
        c.due("7: 100 without m", hundred, x -> x.right(1, 0), 1);
        c.due("7: 101 without m", hundred, x -> x.right(2, 0), 0);
        c.due("7: 101 together", hundred, x -> x.right(5, 0), 0);
        c.due("7: 1 by m 1", Checks.ruled(hundred, "m1,0;"), x -> x.right(4, 0), 1);
        c.due("7: 100 by m 1", Checks.ruled(hundred, "m1,0;"), x -> x.right(1, 0), 0);
        c.due("7: just m", Checks.ruled(hundred, "m101,0;"), x -> x.right(5, 0), 1);
        c.due("7: m from a day on, ahead", Checks.ruled(hundred, "m99,10;"), x -> x.right(1, 9), 1);
        c.due("7: m from a day on", Checks.ruled(hundred, "m99,10;"), x -> x.right(1, 10), 0);
    }

    private static void rightByYears() {
        Checks.State growing = x -> x.side(100, 1, 1, 1);
        c.due("7: no year", growing, x -> x.right(1, 364), 1);
        c.due("7: one year", growing, x -> x.right(1, 365), 0);
        c.due("7: y 0", Checks.ruled(growing, "y0,0;"), x -> x.right(1, 364), 1);
        c.due("7: y 1", Checks.ruled(growing, "y1,0;"), x -> x.right(1, 0), 0);
        c.due("7: y from a day on, ahead", Checks.ruled(growing, "y1,10;"), x -> x.right(1, 9), 1);
        c.due("7: y from a day on", Checks.ruled(growing, "y1,10;"), x -> x.right(1, 10), 0);
        c.due("7: 40 years", Checks.ruled(growing, "y40,0;m140,0;"), x -> x.right(1, 364), 1);
        c.due("7: 40 years and one", Checks.ruled(growing, "y40,0;m140,0;"), x -> x.right(1, 365), 0);
        c.due("7: 80 years", Checks.ruled(growing, "y40,0;m180,0;"), x -> x.right(1, 14600), 1);
        c.due("7: 80 years", Checks.ruled(growing, "y40,0;m179,0;"), x -> x.right(1, 14600), 0);
        c.due("7: m of the day itself", Checks.ruled(growing, "y1,0;m101,0;m50,365;"), x -> x.right(1, 0), 1);
        c.due("7: y of the day itself", Checks.ruled(growing, "y1,0;m101,0;y9,365;"), x -> x.right(1, 0), 1);
    }

    private static void rightBySidesTold() {
        Checks.State s = Checks.ruled(Checks.chain(3), "s1,0;");
        int[] bys = {1, 1, 0, 1, 0, 1, 0};
        Checks.State u = Checks.ruled(Checks.chain(3), "u1,0;");
        int[] byu = {0, 0, 1, 1, 0, 0, 1};
        // Shape 5 has no walk.
        bys[4] = 0;
        for (int i = 1; i < 8; i++) {
            int shape = i;
            c.due("7: s and shape " + i, s, x -> x.right(shape, 0), bys[i - 1]);
            c.due("7: u and shape " + i, u, x -> x.right(shape, 0), byu[i - 1]);
        }
        Checks.State both = Checks.ruled(Checks.chain(3), "s0,1;u0,1;");
        c.due("7: s and u, one", both, x -> x.right(1, 0), 0);
        c.due("7: s and u, both", both, x -> x.right(3, 0), 0);
        c.due("7: s and u, neither", both, x -> x.right(4, 0), 1);
        Checks.State far = Checks.ruled(Checks.chain(9), "s0,8;u7,8;");
        c.due("7: side 8 and 7", far, x -> x.right(384, 0), 1);
        c.due("7: side 8 alone", far, x -> x.right(256, 0), 0);
        c.due("7: s with a side that has not come", Checks.ruled(Checks.chain(2), "s0,8;"), x -> x.right(3, 0), 1);
        c.due("7: u with a side that has not come", Checks.ruled(Checks.chain(2), "u0,8;"), x -> x.right(1, 0), 0);
        c.due("7: u of sides that have not come", Checks.ruled(Checks.chain(2), "u7,8;"), x -> x.right(3, 0), 1);
    }

    // ---- promise 8

    private static void shapedNumbers() {
        for (int day : Checks.BAD_DAYS) {
            for (int i = -3; i < 2; i++) {
                int n = i;
                c.due("8: day " + day, Checks.chain(2), x -> x.shaped(day, n), BAD);
            }
        }
        for (int i : new int[] {LOWEST, -5, -4}) {
            c.refused("8: i is " + i, Checks.chain(2), x -> x.shaped(0, i), BAD);
            c.due("8: i is " + i + ", BAD ahead of NONE", Checks::empty, x -> x.shaped(0, i), BAD);
        }
        for (int i : new int[] {1, 2, 8, 9, HIGHEST}) {
            c.due("8: i is " + i, Checks.chain(2), x -> x.shaped(0, i), NONE);
        }
        c.due("8: the first day", Checks.chain(2), x -> x.shaped(0, 0), 3);
        c.due("8: the last day", Checks.chain(2), x -> x.shaped(14600, 0), 3);
        c.due("8: the last one", Checks.apart(2), x -> x.shaped(0, 1), 2);
        c.due("8: behind the last one", Checks.apart(2), x -> x.shaped(0, 2), NONE);
    }

    private static void shapedEmptyAndFull() {
        for (int i = -3; i < 2; i++) {
            int n = i;
            c.due("8: without sides, " + i, Checks::empty, x -> x.shaped(0, n), NONE);
        }
        DoorCodes one = Checks.made(Checks.apart(1));
        c.due("8: one side", one.shaped(0, -1), 1);
        c.due("8: one side", one.shaped(0, -2), 1);
        c.due("8: one side", one.shaped(0, 0), 1);
        DoorCodes nine = Checks.made(Checks.apart(9));
        c.due("8: nine apart", nine.shaped(0, -1), 9);
        c.due("8: nine apart", nine.shaped(0, -2), 9);
        for (int i = 0; i < 9; i++) {
            c.due("8: nine apart", nine.shaped(0, i), 1 << i);
        }
        c.due("8: no tenth", nine.shaped(0, 9), NONE);
        DoorCodes whole = Checks.made(Checks.ruled(Checks.chain(9), "m270,0;"));
        c.due("8: nine in one", whole.shaped(0, -1), 1);
        c.due("8: nine in one", whole.shaped(0, 0), 511);
        c.due("8: nine in one", whole.shaped(0, -2), 130);
        c.due("8: no second", whole.shaped(0, 1), NONE);
        Checks.force(whole, "m269,0;");
        c.due("8: a door too many", whole.shaped(0, -1), 2);
    }

    private static void shapedFewest() {
        DoorCodes x = Checks.made(Checks.apart(2));
        x.link(0, 1, 500);
        c.due("8: fewest ahead of least walk", x.shaped(0, -1), 1);
        c.due("8: fewest ahead of least walk", x.shaped(0, -2), 502);
        Checks.State growing = y -> {
            y.side(50, 1, 1, 1);
            y.side(50, 0, 1, 1);
            y.link(0, 1, 1);
        };
        c.due("8: together still", growing, y -> y.shaped(364, -1), 1);
        c.due("8: together no more", growing, y -> y.shaped(365, -1), 2);
        c.due("8: not at all", Checks.ruled(growing, "m89,0;"), y -> y.shaped(14600, -1), NONE);
        c.due("8: just so", Checks.ruled(growing, "m90,0;"), y -> y.shaped(14600, -1), 2);
    }

    private static void shapedTies() {
        Checks.State four = Checks.ruled(x -> {
            for (int i = 0; i < 4; i++) {
                x.side(30, 0, 10, 1);
                for (int j = 0; j < i; j++) {
                    x.link(i, j, 5);
                }
            }
        }, "m60,0;");
        c.due("8: least bits with side 0", four, x -> x.shaped(0, 0), 3);
        c.due("8: the rest", four, x -> x.shaped(0, 1), 12);
        Checks.State nearer = Checks.with(four, x -> x.link(1, 2, 4));
        c.due("8: least walk ahead of least bits", nearer, x -> x.shaped(0, 0), 9);
        c.due("8: least walk ahead of least bits", nearer, x -> x.shaped(0, 1), 6);
        c.due("8: least walk", nearer, x -> x.shaped(0, -2), 49);
        Checks.State five = Checks.with(four, x -> {
            x.side(30, 0, 10, 1);
            for (int i = 0; i < 4; i++) {
                x.link(4, i, 5);
            }
        });
        c.due("8: one of three alone, of least bits", five, x -> x.shaped(0, 0), 1);
        c.due("8: then the lowest left", five, x -> x.shaped(0, 1), 6);
        c.due("8: then what is left", five, x -> x.shaped(0, 2), 24);
        Checks.State sixty = Checks.ruled(five, "m60,0;s0,1;u0,4;");
        c.due("8: least bits by side 1 then", sixty, x -> x.shaped(0, 0), 17);
        c.due("8: least bits by side 1 then", sixty, x -> x.shaped(0, 1), 2);
        c.due("8: least bits by side 1 then", sixty, x -> x.shaped(0, 2), 12);
    }

    private static void shapedBar() {
        c.due("8: no bar, as shaped", Checks.chain(2), x -> x.shaped(0, -3), NONE);
        Checks.State heavy = x -> {
            x.side(10, 0, 1, 1);
            x.side(100, 1, 1, 1);
            x.side(101, 0, 1, 1);
        };
        c.due("8: the bar is the last side", heavy, x -> x.shaped(0, -3), 2);
        c.due("8: the bar is the lowest", heavy, x -> x.shaped(365, -3), 1);
        c.due("8: the bar is side 0", Checks.ruled(heavy, "m9,0;"), x -> x.shaped(0, -3), 0);
        for (int i : new int[] {-1, -2, 0, 1, HIGHEST}) {
            c.due("8: not shaped, i is " + i, heavy, x -> x.shaped(0, i), NONE);
        }
        Checks.State eighth = Checks.with(Checks.apart(8), x -> x.side(101, 0, 1, 1));
        c.due("8: the bar is side 8", eighth, x -> x.shaped(0, -3), 8);
        // Both pairs can only be walked by way of side 4: each side is in a right shape, and yet all can not be parted.
        Checks.State middle = Checks.ruled(x -> {
            for (int i = 0; i < 5; i++) {
                x.side(30, 0, 10, 1);
            }
            for (int i = 0; i < 4; i++) {
                x.link(i, 4, 5);
            }
        }, "m90,0;u0,1;u2,3;");
        c.due("8: one pair", middle, x -> x.right(0b10011, 0), 1);
        c.due("8: the other pair", middle, x -> x.right(0b11100, 0), 1);
        c.due("8: not shaped", middle, x -> x.shaped(0, -1), NONE);
        c.due("8: each is in a right shape", middle, x -> x.shaped(0, -3), NONE);
    }

    /** What was asked once is not the answer for good, nor that of another day. */
    private static void shapedAsked() {
        DoorCodes x = new DoorCodes();
        c.due("8: without sides", x.shaped(0, -1), NONE);
        x.side(60, 1, 1, 1);
        c.due("8: a side", x.shaped(0, -1), 1);
        x.side(40, 0, 1, 1);
        c.due("8: another side", x.shaped(0, -1), 2);
        x.link(0, 1, 9);
        c.due("8: a link", x.shaped(0, -1), 1);
        c.due("8: a link", x.shaped(0, -2), 11);
        c.due("8: another day", x.shaped(365, -1), 2);
        c.due("8: the first day again", x.shaped(0, -1), 1);
        x.link(0, 1, 8);
        c.due("8: another walk", x.shaped(0, -2), 10);
        Checks.force(x, "m99,0;");
        c.due("8: another rule", x.shaped(0, -1), 2);
        Checks.force(x, "m59,0;");
        c.due("8: another rule", x.shaped(0, -3), 0);
        Checks.force(x, "m59,1;");
        c.due("8: another rule", x.shaped(0, -1), 1);
        x.wipe();
        c.due("8: wiped, and in force yet", x.shaped(1, -1), NONE);
    }
}
