/** The bounds that promises 20 to 25 name, each sentence by itself: codes. */
public final class CodesBoundsTest {
    private static final int BAD = Checks.BAD, NO = Checks.NO, FULL = Checks.FULL, NONE = Checks.NONE;
    private static final int LOWEST = Checks.LOWEST, HIGHEST = Checks.HIGHEST;
    private static final int[] BAD_SIDES = {LOWEST, -1, 6, 8, 9, HIGHEST};
    private static final Checks c = new Checks();

    public static void main(String[] args) {
        giveNumbers();
        giveDays();
        giveNotShaped();
        giveTooFewWords();
        giveAgain();
        giveFewerThanAsked();
        splitNumbers();
        splitRefused();
        splitNotRight();
        splitHalves();
        splitWithGaps();
        splitWords();
        splitWordsThatLead();
        askNumbers();
        askRefused();
        askNotRight();
        askCosts();
        passes();
        codes();
        leadNumbers();
        leadDays();
        leadByThatDay();
        leadLonger();
        leadWholeCodes();
        leadBehindTheEnd();
        actsInOrder();
        c.end("codes");
    }

    /** Two linked sides of codes 0 and 1, given on day 0; then another text is in force. */
    private static Checks.State two(String then) {
        return Checks.ruled(Checks.with(Checks.ruled(Checks.chain(2), "s0,1;"), x -> x.give(0, 2)), then);
    }

    /** A chain in one code 0, given on day 0; then another text is in force. */
    private static Checks.State one(int sides, String then) {
        return Checks.ruled(Checks.with(Checks.ruled(Checks.chain(sides), "m270,0;"), x -> x.give(0, 2)), then);
    }

    // ---- promise 20

    private static void giveNumbers() {
        for (int day : Checks.BAD_DAYS) {
            c.refused("20: day " + day, Checks.chain(2), x -> x.give(day, 2), BAD);
            c.refused("20: day " + day, Checks::rich, x -> x.give(day, 2), BAD);
        }
        for (int l : new int[] {LOWEST, -1, 0, 1, 5, 6, HIGHEST}) {
            c.refused("20: l is " + l, Checks.chain(2), x -> x.give(0, l), BAD);
            c.refused("20: BAD ahead of NO, l is " + l, Checks::rich, x -> x.give(0, l), BAD);
            c.due("20: BAD ahead of NO", Checks::empty, x -> x.give(0, l), BAD);
        }
        for (int l = 2; l < 5; l++) {
            int letters = l;
            c.due("20: the first day", Checks.chain(2), x -> x.give(0, letters), 1);
            c.due("20: the last day", Checks.chain(2), x -> x.give(14600, letters), 1);
        }
        c.changes("20: what is seen", Checks.chain(2), x -> x.give(0, 2));
    }

    private static void giveDays() {
        Checks.State given = Checks.with(Checks.chain(2), x -> x.give(10, 2));
        c.refused("20: a day ahead", given, x -> x.give(9, 2), NO);
        c.refused("20: far ahead", given, x -> x.give(0, 2), NO);
        c.due("20: the same day", given, x -> x.give(10, 2), 1);
        c.due("20: the next day", given, x -> x.give(11, 2), 1);
        c.due("20: the latest day", Checks.with(given, x -> x.give(11, 2)), x -> x.count(8), 11);
        c.due("20: the latest day of all", Checks.with(given, x -> x.give(14600, 2)), x -> x.give(14599, 2), NO);
        c.due("20: the latest day of all", Checks.with(given, x -> x.give(14600, 2)), x -> x.give(14600, 2), 1);
        c.due("20: day 0 is a latest day", Checks.with(Checks.chain(2), x -> x.give(0, 2)), x -> x.count(8), 0);
    }

    private static void giveNotShaped() {
        c.refused("20: without sides", Checks::empty, x -> x.give(0, 2), NO);
        c.refused("20: not shaped", Checks.ruled(Checks.chain(2), "m29,0;"), x -> x.give(0, 2), NO);
        c.refused("20: not shaped any more", one(2, "m29,0;"), x -> x.give(5, 2), NO);
        c.refused("20: five", Checks.apart(5), x -> x.give(0, 4), NO);
        c.refused("20: nine", Checks.apart(9), x -> x.give(0, 4), NO);
        c.refused("20: five now", one(5, "m30,0;"), x -> x.give(5, 4), NO);
        c.due("20: four", Checks.apart(4), x -> x.give(0, 2), 4);
        c.due("20: four now", one(4, "m30,0;"), x -> x.give(5, 2), 4);
        Checks.State growing = x -> x.side(100, 1, 1, 1);
        c.due("20: shaped that day", growing, x -> x.give(364, 2), 1);
        c.refused("20: not shaped that day", growing, x -> x.give(365, 2), NO);
    }

    private static void giveTooFewWords() {
        c.refused("20: three words for four", Checks.ruled(Checks.apart(4), "n0,0;"), x -> x.give(0, 2), FULL);
        c.due("20: a letter more", Checks.ruled(Checks.apart(4), "n0,0;"), x -> x.give(0, 3), 4);
        c.due("20: three words for three", Checks.ruled(Checks.apart(3), "n0,0;"), x -> x.give(0, 2), 3);
        String none = "n0,0;n0,1;n1,1;";
        c.refused("20: no word for one", Checks.ruled(Checks.apart(1), none), x -> x.give(0, 2), FULL);
        c.refused("20: codes stay as they were", one(4, none + "m30,0;"), x -> x.give(5, 2), FULL);
        c.refused("20: NO ahead of FULL, five", Checks.ruled(Checks.apart(5), none), x -> x.give(0, 2), NO);
        c.refused("20: NO ahead of FULL, not shaped", Checks.ruled(Checks.chain(2), none + "m29,0;"), x -> x.give(0, 2), NO);
        Checks.State later = Checks.ruled(Checks.with(Checks.chain(2), x -> x.give(10, 2)), none);
        c.refused("20: NO ahead of FULL, a day ahead", later, x -> x.give(9, 2), NO);
        c.refused("20: FULL that day", later, x -> x.give(10, 2), FULL);
        c.refused("20: BAD ahead of FULL", later, x -> x.give(10, 5), BAD);
    }

    private static void giveAgain() {
        DoorCodes x = Checks.made(Checks.with(two("s0,1;o5,0;"), y -> y.give(3, 2)));
        c.due("20: as they were", x.code(0, 0), 0);
        c.due("20: as they were", x.code(1, 0), 1);
        c.due("20: the day is another", x.count(8), 3);
        c.due("20: no word has become old", x.count(5), 0);
        Checks.force(x, "s0,1;o5,0;n0,0;");
        c.due("20: other words", x.give(3, 2), 2);
        c.due("20: other words", x.code(0, 0), 1);
        c.due("20: other words", x.code(1, 0), 6);
        c.due("20: old ones lead on", x.lead(0, 8), 1);
        c.due("20: no longer", x.lead(0, 9), NONE);
        c.due("20: one that is had and leads on", x.lead(1, 8), 3);
        c.due("20: one that is had", x.lead(1, 9), 1);
    }

    /** Words for four codes were asked for before; what is given is what is shaped on the day. */
    private static void giveFewerThanAsked() {
        DoorCodes x = Checks.made(Checks.ruled(Checks.chain(4), "m30,0;m60,5;m200,6;"));
        c.due("18: four", x.words(0, 2, 3), 7);
        c.due("20: two", x.give(5, 2), 2);
        c.due("20: two", x.code(0, 1), 3);
        c.due("20: two", x.code(3, 1), 12);
        c.due("20: two", x.count(4), 2);
        c.due("18: four", x.words(0, 2, 2), 6);
        c.due("20: one", x.give(6, 2), 1);
        c.due("20: one", x.code(3, 1), 15);
        c.due("20: one", x.code(3, 0), 0);
        c.due("20: one", x.count(4), 1);
    }

    // ---- promise 21

    private static void splitNumbers() {
        for (int day : Checks.BAD_DAYS) {
            c.refused("21: day " + day, Checks::rich, x -> x.split(0, day), BAD);
            c.due("21: BAD ahead of NO", Checks.chain(2), x -> x.split(0, day), BAD);
        }
        for (int side : BAD_SIDES) {
            c.refused("21: side " + side, Checks::rich, x -> x.split(side, 30), BAD);
            c.due("21: BAD ahead of NO", Checks.chain(2), x -> x.split(side, 0), side == 0 || side == 1 ? NO : BAD);
        }
        c.due("21: no side", Checks::empty, x -> x.split(0, 0), BAD);
        c.due("21: the last side of nine", one(9, "m270,0;"), x -> x.split(8, 0), 1);
        c.due("21: the first day", one(2, ""), x -> x.split(0, 0), 1);
        c.due("21: the last day", one(2, ""), x -> x.split(1, 14600), 1);
        c.changes("21: what is seen", one(2, ""), x -> x.split(0, 0));
    }

    private static void splitRefused() {
        c.refused("21: no codes", Checks.chain(2), x -> x.split(0, 0), NO);
        Checks.State given = Checks.with(Checks.chain(2), x -> x.give(10, 2));
        c.refused("21: a day ahead", given, x -> x.split(0, 9), NO);
        c.due("21: that day", given, x -> x.split(0, 10), 1);
        c.refused("21: one side", two(""), x -> x.split(0, 5), NO);
        c.refused("21: one side", two(""), x -> x.split(1, 5), NO);
    }

    private static void splitNotRight() {
        c.refused("21: never apart", one(2, "u0,1;"), x -> x.split(0, 5), NO);
        c.refused("21: each too full", one(2, "m29,0;"), x -> x.split(0, 5), NO);
        c.due("21: each just so", one(2, "m30,0;"), x -> x.split(0, 5), 1);
        c.refused("21: one half too full", one(3, "m59,0;"), x -> x.split(0, 5), NO);
        c.due("21: one half just so", one(3, "m60,0;"), x -> x.split(0, 5), 1);
        c.refused("21: not even by s", one(3, "s0,1;s1,2;u0,2;"), x -> x.split(0, 5), NO);
        c.refused("21: two and no walk", one(3, "u0,2;"), x -> x.split(0, 5), NO);
        c.refused("21: u with a side that has not come", one(2, "u0,8;"), x -> x.split(0, 5), NO);
        Checks.State growing = Checks.ruled(Checks.with(x -> {
            x.side(50, 1, 1, 1);
            x.side(50, 0, 1, 1);
            x.link(0, 1, 1);
        }, x -> x.give(0, 2)), "m50,0;");
        c.due("21: right that day", growing, x -> x.split(0, 364), 1);
        c.refused("21: not right that day", growing, x -> x.split(0, 365), NO);
    }

    private static void halves(Checks.State state, int day, int kept, int other) {
        DoorCodes x = Checks.made(state);
        int word = x.split(0, day);
        c.due("21: the new word", word, 1);
        c.due("21: the part with the lowest side keeps its word", x.code(0, 0), 0);
        c.due("21: it is", x.code(0, 1), kept);
        c.due("21: the other one", x.lead(1, day), other);
        c.due("21: both by the old word", x.lead(0, day), kept | other);
        c.due("21: its word", x.code(Integer.numberOfTrailingZeros(other), 0), 1);
        c.due("21: its sides", x.code(Integer.numberOfTrailingZeros(other), 1), other);
        c.due("21: two codes", x.count(4), 2);
        c.due("21: the latest day", x.count(8), day);
    }

    private static void splitHalves() {
        Checks.State growing = Checks.with(Checks.ruled(x -> {
            x.side(50, 0, 1, 1);
            x.side(20, 10, 1, 1);
            x.side(30, 0, 1, 1);
            x.link(0, 1, 1);
            x.link(0, 2, 1);
            x.link(1, 2, 500);
        }, "m999,0;o9999,0;y9,0;"), x -> x.give(0, 2));
        c.due("21: one word leads to both", Checks.with(growing, x -> x.split(0, 0)), x -> x.lead(0, 9999), 7);
        splitKeeps(growing, 0, 1);
        splitKeeps(growing, 364, 1);
        // 60 and 50 against 80 and 30, and 50 and 60.
        splitKeeps(growing, 365, 1);
        // 70 and 80 doors, and another way 50 and 100.
        splitKeeps(growing, 5 * 365, 5);
        Checks.State ring = Checks.with(Checks.with(Checks.apart(4), x -> {
            x.link(0, 1, 3);
            x.link(2, 3, 3);
            x.link(1, 3, 2);
            x.link(0, 2, 3);
        }), x -> x.give(0, 2));
        splitKeeps(ring, 0, 5);
        Checks.State even = Checks.with(Checks.with(Checks.apart(4), x -> {
            for (int a = 0; a < 4; a++) {
                for (int b = 0; b < a; b++) {
                    x.link(a, b, 3);
                }
            }
        }), x -> x.give(0, 2));
        splitKeeps(even, 0, 3);
        Checks.State far = Checks.with(x -> {
            x.side(10, 0, 1, 1);
            x.side(10, 0, 1, 1);
            x.side(11, 0, 1, 1);
            x.link(0, 1, 500);
            x.link(1, 2, 1);
            x.link(0, 2, 1);
        }, x -> x.give(0, 2));
        // 9 doors of difference by the long walk, 11 by the short one.
        splitKeeps(far, 0, 3);
        Checks.State plain = one(2, "o0,0;");
        halvesOfTwo(plain);
    }

    private static void splitKeeps(Checks.State state, int day, int kept) {
        c.due("21: the first half on day " + day, Checks.with(state, x -> x.split(0, day)), x -> x.code(0, 1), kept);
    }

    private static void halvesOfTwo(Checks.State plain) {
        DoorCodes x = Checks.made(plain);
        c.due("21: by the upper side", x.split(1, 4), 1);
        c.due("21: the lower keeps its word", x.code(0, 0), 0);
        c.due("21: the upper gets one", x.code(1, 0), 1);
        halves(one(4, "o0,0;m270,0;"), 6, 3, 12);
    }

    /** Side 1 stands between the sides of the code in number and in walk, and yet it is not in it. */
    private static void splitWithGaps() {
        DoorCodes x = Checks.made(Checks.ruled(y -> {
            for (int i = 0; i < 4; i++) {
                y.side(30, 0, 10, 1);
                for (int j = 0; j < i; j++) {
                    y.link(i, j, i == 1 || j == 1 ? 1 : 500);
                }
            }
        }, "s0,1;s1,2;s1,3;m270,0;"));
        x.give(0, 2);
        c.due("21: a code with a gap", x.code(0, 1), 13);
        Checks.force(x, "m270,0;");
        c.due("21: a third word", x.split(3, 0), 2);
        c.due("21: least bits", x.code(0, 1), 1);
        c.due("21: the rest", x.code(2, 1), 12);
        c.due("21: the side between is as it was", x.code(1, 1), 2);
        c.due("21: the side between is as it was", x.code(1, 0), 1);
    }

    /** Every word but those of two equal letters among the last ones is taken away. */
    private static String allBut(int least) {
        StringBuilder text = new StringBuilder();
        for (int a = 0; a < 6; a++) {
            for (int b = a; b < 6; b++) {
                if (a != b || a < least) {
                    text.append('n').append(a).append(',').append(b).append(';');
                }
            }
        }
        return text.toString();
    }

    private static void splitWords() {
        c.due("21: the last word of all", one(2, allBut(5)), x -> x.split(0, 5), 35);
        c.refused("21: no word", one(2, allBut(6)), x -> x.split(0, 5), FULL);
        c.refused("21: the only word is had", Checks.with(one(3, allBut(5)), x -> x.split(0, 5)), x -> {
            int three = x.code(1, 1);
            return x.split(three == 6 ? 1 : 0, 5);
        }, FULL);
        c.due("21: one of two words is had", Checks.with(one(4, allBut(4)), x -> x.split(0, 5)), x -> x.split(0, 5), 35);
        c.refused("21: NO ahead of FULL", one(2, allBut(6) + "u0,1;"), x -> x.split(0, 5), NO);
        c.refused("21: NO ahead of FULL", one(1, allBut(6)), x -> x.split(0, 5), NO);
        c.refused("21: BAD ahead of FULL", one(2, allBut(6)), x -> x.split(2, 5), BAD);
        c.due("21: the lowest word", one(2, ""), x -> x.split(0, 5), 1);
        c.due("21: by n, either way", one(2, "n1,0;n2,0;n3,0;n4,0;"), x -> x.split(0, 5), 5);
        c.due("21: letters to 5", one(2, "n1,0;n2,0;n3,0;n4,0;n0,5;"), x -> x.split(0, 5), 7);
    }

    private static void splitWordsThatLead() {
        // Codes 0 and 28; then 28 is left, and leads on for two days.
        Checks.State left = Checks.with(one(2, allBut(4) + "o2,0;m270,0;"), x -> {
            x.split(0, 5);
            x.pass(1, 0, 10);
        });
        c.due("21: on the last day that it leads", left, x -> x.split(0, 12), 35);
        c.due("21: a day later", left, x -> x.split(0, 13), 28);
        Checks.State only = Checks.with(one(2, allBut(5) + "o2,0;m270,0;"), x -> {
            x.split(0, 5);
            x.pass(1, 0, 10);
        });
        c.refused("21: the only word leads", only, x -> x.split(0, 10), FULL);
        c.refused("21: the only word leads", only, x -> x.split(0, 12), FULL);
        c.due("21: it leads no more", only, x -> x.split(0, 13), 35);
    }

    // ---- promise 22

    private static void askNumbers() {
        for (int day : Checks.BAD_DAYS) {
            c.refused("22: day " + day, Checks::rich, x -> x.ask(0, 1, day), Checks.ASK_BAD);
            c.refused("23: day " + day, Checks::rich, x -> x.pass(0, 1, day), BAD);
        }
        for (int side : BAD_SIDES) {
            c.refused("22: side " + side, Checks::rich, x -> x.ask(side, 1, 30), Checks.ASK_BAD);
            c.refused("22: other " + side, Checks::rich, x -> x.ask(1, side, 30), Checks.ASK_BAD);
            c.refused("23: side " + side, Checks::rich, x -> x.pass(side, 1, 30), BAD);
            c.refused("23: other " + side, Checks::rich, x -> x.pass(1, side, 30), BAD);
            c.due("22: BAD ahead of NO", Checks.chain(6), x -> x.ask(side, 1, 0), Checks.ASK_BAD);
            c.due("23: BAD ahead of NO", Checks.chain(6), x -> x.pass(0, side, 0), BAD);
        }
        c.due("22: no sides", Checks::empty, x -> x.ask(0, 1, 0), Checks.ASK_BAD);
        c.due("22: the first day", two(""), x -> x.ask(0, 1, 0), 5);
        c.due("22: the last day", two(""), x -> x.ask(1, 0, 14600), 5);
        c.due("23: the first day", two(""), x -> x.pass(0, 1, 0), 1);
        c.due("23: the last day", two(""), x -> x.pass(1, 0, 14600), 0);
    }

    private static void noAsk(String what, Checks.State state, int side, int other, int day) {
        c.refused("22: " + what, state, x -> x.ask(side, other, day), Checks.ASK_NO);
        c.refused("23: " + what, state, x -> x.pass(side, other, day), NO);
    }

    private static void askRefused() {
        noAsk("no codes", Checks.chain(2), 0, 1, 0);
        noAsk("no codes, itself", Checks.chain(2), 0, 0, 0);
        noAsk("the same code", one(2, ""), 0, 1, 5);
        noAsk("itself", two(""), 1, 1, 5);
        Checks.State later = Checks.with(two("s0,1;"), x -> {
            x.give(10, 2);
            Checks.force(x, "");
        });
        noAsk("a day ahead", later, 0, 1, 9);
        c.due("22: that day", later, x -> x.ask(0, 1, 10), 5);
        c.due("23: that day", later, x -> x.pass(0, 1, 10), 1);
        noAsk("a day ahead, and not right", Checks.ruled(later, "s0,1;"), 0, 1, 9);
        c.due("22: asking is no act", Checks.with(later, x -> x.ask(0, 1, 20)), x -> x.count(8), 10);
        c.same("22: asking changes nothing", later, x -> x.ask(0, 1, 20));
        noAsk("the same code, and not right", one(2, "m1,0;"), 0, 1, 5);
    }

    private static void notRight(String what, Checks.State state, int side, int other, int day) {
        c.refused("22: " + what, state, x -> x.ask(side, other, day), Checks.ASK_NONE);
        c.refused("23: " + what, state, x -> x.pass(side, other, day), NO);
    }

    private static void askNotRight() {
        notRight("by s", two("s0,1;"), 0, 1, 5);
        notRight("too full", two("m59,0;"), 0, 1, 5);
        c.due("22: just so full", two("m60,0;"), x -> x.ask(0, 1, 5), 5);
        notRight("with u of a side that has not come", two("u1,8;"), 0, 1, 5);
        notRight("too full from that day on", two("m59,6;"), 0, 1, 6);
        c.due("22: not too full the day before", two("m59,6;"), x -> x.ask(0, 1, 5), 5);
        // Codes of 0 and 1, and of 2, 3 and 4.
        Checks.State five = Checks.with(Checks.chain(5), x -> x.give(0, 2));
        notRight("no walk of that code with it", five, 4, 0, 5);
        notRight("what is left has no walk", Checks.ruled(Checks.with(Checks.with(Checks.chain(5),
                x -> x.link(3, 0, 5)), x -> x.give(0, 2)), "m270,0;"), 3, 0, 5);
        notRight("what is left is half of u", Checks.ruled(five, "u2,3;"), 2, 1, 5);
        notRight("what is left is too full", Checks.ruled(five, "m59,0;"), 2, 1, 5);
        c.due("22: what is left is just so", Checks.ruled(five, "m90,0;"), x -> x.ask(2, 1, 5), 0);
    }

    private static void askCosts() {
        Checks.State three = Checks.with(Checks.ruled(x -> {
            x.side(30, 0, 10, 1);
            x.side(30, 0, 10, 1);
            x.side(30, 0, 10, 1);
            x.link(0, 1, 90);
            x.link(1, 2, 89);
        }, "s1,2;"), x -> {
            x.give(0, 2);
            Checks.force(x, "");
        });
        c.due("22: below 0", three, x -> x.ask(1, 2, 0), -1);
        c.due("22: above 0, what is its own is left empty", three, x -> x.ask(2, 1, 0), 89);
        c.due("22: 0", Checks.with(Checks.chain(5), x -> x.give(0, 2)), x -> x.ask(2, 1, 0), 0);
        Checks.State far = Checks.with(Checks.ruled(x -> {
            x.side(1, 0, 500, 1);
            x.side(1, 0, 500, 1);
            x.side(1, 0, 500, 1);
            x.link(0, 1, 1);
            x.link(0, 2, 1);
            x.link(1, 2, 500);
        }, "s2,0;s2,1;"), x -> {
            x.give(0, 2);
            Checks.force(x, "");
        });
        // The code {0, 1} walks 1001 and {2} 500; {0, 1, 2} walks 1502.
        c.due("22: a middle", far, x -> x.ask(2, 1, 0), 1);
        // {1, 2} walks 1500 and {0} 500.
        c.due("22: the greatest way", far, x -> x.ask(1, 2, 0), 1500 + 500 - 1001 - 500);
    }

    // ---- promise 23

    private static void passes() {
        DoorCodes x = Checks.made(two("o4,0;"));
        c.due("23: its word", x.pass(0, 1, 6), 1);
        c.due("23: its word", x.code(0, 0), 1);
        c.due("23: in that code", x.code(0, 1), 3);
        c.due("23: its own is no more", x.count(4), 1);
        c.due("23: the latest day", x.count(8), 6);
        c.due("23: its old word leads on", x.lead(0, 10), 3);
        c.due("23: no longer", x.lead(0, 11), NONE);
        c.due("23: the other was never led to by it", x.lead(1, 6), 3);
        c.due("23: the same code now", x.pass(0, 1, 6), NO);
        c.changes("23: what is seen", two("o4,0;"), y -> y.pass(0, 1, 6));
    }

    // ---- promise 24

    private static void codes() {
        for (int side : BAD_SIDES) {
            c.refused("24: side " + side, Checks::rich, x -> x.code(side, 0), BAD);
            c.due("24: BAD ahead of NONE", Checks.chain(6), x -> x.code(side, 1), BAD);
        }
        for (int what : new int[] {LOWEST, -1, 2, 3, HIGHEST}) {
            c.refused("24: what is " + what, Checks::rich, x -> x.code(0, what), BAD);
            c.due("24: BAD ahead of NONE", Checks.chain(6), x -> x.code(0, what), BAD);
        }
        c.due("24: none at first", Checks.chain(9), x -> x.code(8, 0), NONE);
        c.due("24: none at first", Checks.chain(9), x -> x.code(8, 1), NONE);
        c.due("24: word 0", one(9, ""), x -> x.code(8, 0), 0);
        c.due("24: all sides", one(9, ""), x -> x.code(8, 1), 511);
        c.due("24: the first side", two(""), x -> x.code(0, 1), 1);
        c.due("24: the other side", two(""), x -> x.code(1, 1), 2);
        c.due("24: no side", Checks::empty, x -> x.code(0, 0), BAD);
        c.due("24: not given yet", Checks.with(Checks.apart(5), x -> x.give(0, 2)), x -> x.code(0, 0), NONE);
    }

    // ---- promise 25

    private static void leadNumbers() {
        for (int day : Checks.BAD_DAYS) {
            c.refused("25: day " + day, Checks::rich, x -> x.lead(0, day), BAD);
            c.due("25: BAD ahead of NONE", Checks::empty, x -> x.lead(0, day), BAD);
        }
        for (int word : Checks.BAD_WORDS) {
            c.refused("25: word " + word, Checks::rich, x -> x.lead(word, 30), BAD);
            c.due("25: BAD ahead of NO", Checks::rich, x -> x.lead(word, 0), BAD);
        }
        for (int word : new int[] {0, 35}) {
            c.due("25: no codes", Checks.chain(2), x -> x.lead(word, 0), NONE);
            c.due("25: no codes", Checks.chain(2), x -> x.lead(word, 14600), NONE);
        }
        Checks.State given = Checks.with(Checks.chain(2), x -> x.give(10, 2));
        c.refused("25: a day ahead", given, x -> x.lead(0, 9), NO);
        c.due("25: NO ahead of NONE", given, x -> x.lead(35, 9), NO);
        c.due("25: that day", given, x -> x.lead(0, 10), 3);
        c.due("25: the last day", given, x -> x.lead(0, 14600), 3);
        c.due("25: none that day", given, x -> x.lead(35, 10), NONE);
    }

    private static void leadDays() {
        c.due("25: o 0, on that day", Checks.with(two("o0,0;"), x -> x.pass(0, 1, 10)), x -> x.lead(0, 10), 3);
        c.due("25: o 0, a day later", Checks.with(two("o0,0;"), x -> x.pass(0, 1, 10)), x -> x.lead(0, 11), NONE);
        c.due("25: without o, on that day", Checks.with(two(""), x -> x.pass(0, 1, 10)), x -> x.lead(0, 10), 3);
        c.due("25: without o, a day later", Checks.with(two(""), x -> x.pass(0, 1, 10)), x -> x.lead(0, 11), NONE);
        c.due("25: o 1, a day later", Checks.with(two("o1,0;"), x -> x.pass(0, 1, 10)), x -> x.lead(0, 11), 3);
        c.due("25: o 1, two days later", Checks.with(two("o1,0;"), x -> x.pass(0, 1, 10)), x -> x.lead(0, 12), NONE);
        Checks.State most = Checks.with(two("o9999,0;"), x -> x.pass(0, 1, 10));
        c.due("25: o 9999, the last of its days", most, x -> x.lead(0, 10009), 3);
        c.due("25: o 9999, a day later", most, x -> x.lead(0, 10010), NONE);
        // A half of a code that was split is led to likewise.
        Checks.State split = Checks.with(one(2, "o2,0;"), x -> x.split(0, 10));
        c.due("25: split, the last of its days", split, x -> x.lead(0, 12), 3);
        c.due("25: split, a day later", split, x -> x.lead(0, 13), 1);
    }

    private static void leadByThatDay() {
        String rising = "o5,0;o9,10;";
        c.due("25: o of that day", Checks.with(two(rising), x -> x.pass(0, 1, 9)), x -> x.lead(0, 14), 3);
        c.due("25: o of that day", Checks.with(two(rising), x -> x.pass(0, 1, 9)), x -> x.lead(0, 15), NONE);
        c.due("25: o of the next day", Checks.with(two(rising), x -> x.pass(0, 1, 10)), x -> x.lead(0, 19), 3);
        c.due("25: o of the next day", Checks.with(two(rising), x -> x.pass(0, 1, 10)), x -> x.lead(0, 20), NONE);
        Checks.State later = Checks.with(two("o5,0;"), x -> {
            x.pass(0, 1, 10);
            Checks.force(x, "o50,0;");
        });
        c.due("25: another o later is nothing to it", later, x -> x.lead(0, 15), 3);
        c.due("25: another o later is nothing to it", later, x -> x.lead(0, 16), NONE);
    }

    /** Side 0 has word 0, 1, 0 and 1 by turns; o tells the days of the first time and of the second. */
    private static Checks.State turns(int first, int second) {
        return Checks.with(two(""), x -> {
            Checks.force(x, "s0,1;n0,0;o" + first + ",0;");
            x.give(10, 2);
            Checks.force(x, "s0,1;o5,0;");
            x.give(20, 2);
            Checks.force(x, "s0,1;n0,0;o" + second + ",0;");
            x.give(30, 2);
        });
    }

    private static void leadLonger() {
        c.due("25: longer yet from before", turns(50, 5), x -> x.lead(0, 60), 1);
        c.due("25: no longer than that", turns(50, 5), x -> x.lead(0, 61), NONE);
        c.due("25: longer by now", turns(15, 5), x -> x.lead(0, 35), 1);
        c.due("25: no longer than now", turns(15, 5), x -> x.lead(0, 36), NONE);
        c.due("25: equally long", turns(25, 5), x -> x.lead(0, 35), 1);
        c.due("25: equally long", turns(25, 5), x -> x.lead(0, 36), NONE);
        c.due("25: had by side 0, and leads to side 1 from before", turns(50, 5), x -> x.lead(1, 60), 3);
        c.due("25: had by side 0 alone", turns(50, 5), x -> x.lead(1, 61), 1);
    }

    private static void leadWholeCodes() {
        // Side 1 alone was in code 1; now it is in one with 0, and the old word leads to both.
        c.due("25: a whole code", Checks.with(two("o9,0;"), x -> x.pass(1, 0, 5)), x -> x.lead(1, 14), 3);
        Checks.State four = Checks.with(one(4, "m270,0;o9,0;"), x -> {
            x.split(0, 5);
            x.pass(2, 1, 6);
        });
        // Sides 0, 1 and 2 have word 0 and 3 has word 1; 2 is led to by 1, and 3 by 0.
        c.due("25: all that have it and all that are led", four, x -> x.lead(0, 6), 15);
        c.due("25: the whole code of one that is led", four, x -> x.lead(1, 15), 15);
        c.due("25: 0 has led to 3 for the last time", four, x -> x.lead(0, 14), 15);
        c.due("25: 0 has led to 3 for the last time", four, x -> x.lead(0, 15), 7);
        c.due("25: 1 has led to 2 for the last time", four, x -> x.lead(1, 16), 8);
        c.due("25: a word that nobody had", four, x -> x.lead(2, 6), NONE);
    }

    private static void leadBehindTheEnd() {
        Checks.State late = Checks.with(two("o9999,0;"), x -> x.pass(0, 1, 14600));
        c.due("25: on the last day", late, x -> x.lead(0, 14600), 3);
        c.due("25: behind the last day", late, x -> x.lead(0, 14601), BAD);
        Checks.State near = Checks.with(two("o9999,0;"), x -> x.pass(0, 1, 4601));
        c.due("25: to the last day", near, x -> x.lead(0, 14600), 3);
        Checks.State short4600 = Checks.with(two("o9999,0;"), x -> x.pass(0, 1, 4600));
        c.due("25: to the day before", short4600, x -> x.lead(0, 14599), 3);
        c.due("25: to the day before", short4600, x -> x.lead(0, 14600), NONE);
    }

    /** Whichever act is the latest, none is on a day ahead of it, and each may be on that day. */
    private static void actsInOrder() {
        Checks.State[] latest = {
            Checks.with(one(3, "m270,0;"), x -> x.give(10, 2)),
            Checks.with(one(3, "m270,0;"), x -> x.split(0, 10)),
            Checks.with(one(3, "m270,0;"), x -> {
                x.split(0, 9);
                x.pass(1, 0, 10);
            }),
        };
        int[] ledByZero = {7, 7, 3};
        for (int i = 0; i < latest.length; i++) {
            Checks.State then = latest[i];
            c.due("25: the latest act " + i, then, x -> x.count(8), 10);
            c.refused("20: ahead of act " + i, then, x -> x.give(9, 2), NO);
            c.refused("21: ahead of act " + i, then, x -> x.split(2, 9), NO);
            c.refused("21: ahead of act " + i, then, x -> x.split(0, 9), NO);
            c.refused("22: ahead of act " + i, then, x -> x.ask(1, 2, 9), Checks.ASK_NO);
            c.refused("23: ahead of act " + i, then, x -> x.pass(1, 2, 9), NO);
            c.refused("25: ahead of act " + i, then, x -> x.lead(0, 9), NO);
            c.due("20: on the day of act " + i, then, x -> x.give(10, 2), 1);
            c.due("25: on the day of act " + i, then, x -> x.lead(0, 10), ledByZero[i]);
        }
        c.due("21: on the day of act 0", latest[0], x -> x.split(0, 10), 1);
        c.due("23: on the day of act 1", latest[1], x -> x.pass(1, 0, 10), 0);
        c.due("21: on the day of act 2", latest[2], x -> x.split(0, 10), 2);
    }
}
