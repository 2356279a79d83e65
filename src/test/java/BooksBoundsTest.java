/** The bounds that promises 26 to 33 name, each sentence by itself: rounds, books. */
public final class BooksBoundsTest {
    private static final int BAD = Checks.BAD, NO = Checks.NO, FULL = Checks.FULL, NONE = Checks.NONE;
    private static final int LOWEST = Checks.LOWEST, HIGHEST = Checks.HIGHEST;
    private static final int[] BAD_SIDES = {LOWEST, -1, 6, 8, 9, HIGHEST};
    private static final Checks c = new Checks();

    public static void main(String[] args) {
        roundsNumbers();
        roundsNoCodes();
        roundsOfOne();
        roundsOfWholeCodes();
        roundsOfNine();
        roundsLightest();
        roundsByDay();
        fullYearNumbers();
        fullYearEdges();
        fullYearOfThatDay();
        editionsFull();
        editionsNoCodes();
        bookNumbers();
        bookThen();
        wrongNumbers();
        wrongDays();
        wrongByItsCode();
        wrongByWordNow();
        keepFull();
        backEmpty();
        backAsKept();
        backNotKept();
        backWithoutCodes();
        countNumbers();
        countLeastAndGreatest();
        countOldWords();
        c.end("books");
    }

    /** Two linked sides of codes 0 and 1, given on day 0; then another text is in force. */
    private static Checks.State two(String then) {
        return Checks.ruled(Checks.with(Checks.ruled(Checks.chain(2), "s0,1;"), x -> x.give(0, 2)), then);
    }

    /** A chain in one code 0, given on day 0. */
    private static Checks.State one(int sides) {
        return Checks.with(Checks.ruled(Checks.chain(sides), "m9999,0;"), x -> x.give(0, 2));
    }

    private static void splitAll(DoorCodes x, int day) {
        for (int round = 0; round < 4; round++) {
            for (int side = 0; side < 9; side++) {
                x.split(side, day);
            }
        }
    }

    // ---- promise 26

    private static void roundsNumbers() {
        for (int day : Checks.BAD_DAYS) {
            c.refused("26: day " + day, Checks::rich, x -> x.rounds(day, 1000, 0), BAD);
            c.due("26: BAD ahead of NO", Checks.chain(2), x -> x.rounds(day, 1000, 0), BAD);
        }
        for (int b : new int[] {LOWEST, -1, 0, 1000001, HIGHEST}) {
            c.refused("26: b is " + b, Checks::rich, x -> x.rounds(30, b, 0), BAD);
            c.due("26: BAD ahead of NO", Checks.chain(2), x -> x.rounds(0, b, 1), BAD);
        }
        for (int what : new int[] {LOWEST, -1, 2, 3, HIGHEST}) {
            c.refused("26: what is " + what, Checks::rich, x -> x.rounds(30, 1000, what), BAD);
            c.due("26: BAD ahead of NO", Checks.chain(2), x -> x.rounds(0, 1000, what), BAD);
            c.due("26: BAD ahead of NONE", one(2), x -> x.rounds(0, 1, what), BAD);
        }
        c.due("26: the first day", one(2), x -> x.rounds(0, 1000, 1), 60);
        c.due("26: the last day", one(2), x -> x.rounds(14600, 1000, 1), 60);
        c.due("26: the greatest b", one(2), x -> x.rounds(0, 1000000, 1), 60);
        c.same("26: asking changes nothing", Checks::rich, x -> x.rounds(30, 1000, 0));
    }

    private static void roundsNoCodes() {
        for (int what = 0; what < 2; what++) {
            int w = what;
            c.due("26: no codes", Checks.chain(2), x -> x.rounds(0, 1000, w), NO);
            c.due("26: no sides", Checks::empty, x -> x.rounds(0, 1000, w), NO);
            c.due("26: NO ahead of NONE", Checks.chain(2), x -> x.rounds(0, 1, w), NO);
        }
    }

    private static void roundsOfOne() {
        Checks.State least = Checks.with(Checks.apart(1), x -> x.give(0, 2));
        c.due("26: the least weight and the least b", least, x -> x.rounds(0, 1, 0), 1);
        c.due("26: the least weight and the least b", least, x -> x.rounds(0, 1, 1), 1);
        Checks.State heavy = Checks.with(Checks.ruled(x -> x.side(200, 20, 1, 50), "m1000,0;"), x -> x.give(0, 2));
        c.due("26: just b", heavy, x -> x.rounds(14600, 50000, 0), 1);
        c.due("26: just b", heavy, x -> x.rounds(14600, 50000, 1), 50000);
        c.due("26: too heavy by one", heavy, x -> x.rounds(14600, 49999, 0), NONE);
        c.due("26: too heavy by one", heavy, x -> x.rounds(14600, 49999, 1), NONE);
        c.due("26: the least b", heavy, x -> x.rounds(0, 1, 0), NONE);
    }

    private static void roundsOfWholeCodes() {
        c.due("26: a code is not parted", one(2), x -> x.rounds(0, 60, 0), 1);
        c.due("26: a code is not parted", one(2), x -> x.rounds(0, 59, 0), NONE);
        c.due("26: two codes in one round", two(""), x -> x.rounds(0, 60, 0), 1);
        c.due("26: two codes in two rounds", two(""), x -> x.rounds(0, 59, 0), 2);
        c.due("26: two codes in two rounds", two(""), x -> x.rounds(0, 30, 1), 30);
        c.due("26: each too heavy", two(""), x -> x.rounds(0, 29, 0), NONE);
        Checks.State uneven = Checks.with(x -> {
            x.side(30, 0, 1, 1);
            x.side(31, 0, 1, 1);
        }, x -> x.give(0, 2));
        c.due("26: one of two too heavy", uneven, x -> x.rounds(0, 30, 0), NONE);
        c.due("26: neither too heavy", uneven, x -> x.rounds(0, 31, 0), 2);
        c.due("26: the heaviest", uneven, x -> x.rounds(0, 31, 1), 31);
    }

    private static void roundsOfNine() {
        DoorCodes x = new DoorCodes();
        for (int i = 0; i < 9; i++) {
            x.side(200, 20, 1, 50);
            if (i > 0) {
                x.link(i - 1, i, 1);
            }
        }
        Checks.force(x, "m9999,0;");
        x.give(0, 2);
        c.due("26: the heaviest code", x.rounds(14600, 1000000, 1), 450000);
        splitAll(x, 0);
        c.due("26: nine codes", x.count(4), 9);
        int[][] cases = {{1000000, 1, 450000}, {450000, 1, 450000}, {449999, 2, 250000}, {250000, 2, 250000},
            {249999, 3, 150000}, {150000, 3, 150000}, {149999, 5, 100000}, {100000, 5, 100000}, {99999, 9, 50000},
            {50000, 9, 50000}, {49999, NONE, NONE}};
        for (int[] one : cases) {
            c.due("26: nine codes by " + one[0], x.rounds(14600, one[0], 0), one[1]);
            c.due("26: nine codes by " + one[0], x.rounds(14600, one[0], 1), one[2]);
        }
    }

    private static void roundsLightest() {
        DoorCodes x = new DoorCodes();
        int[] mails = {3, 3, 2, 2, 2};
        for (int i = 0; i < 5; i++) {
            x.side(1, 0, 1, mails[i]);
            if (i > 0) {
                x.link(i - 1, i, 1);
            }
        }
        x.give(0, 2);
        splitAll(x, 0);
        c.due("26: the heaviest is lightest, not as it comes", x.rounds(0, 7, 1), 6);
        c.due("26: fewest first", x.rounds(0, 11, 0), 2);
        c.due("26: then the lightest heaviest", x.rounds(0, 11, 1), 6);
        c.due("26: all in one though that is heavy", x.rounds(0, 12, 1), 12);
        c.due("26: three", x.rounds(0, 5, 0), 3);
        c.due("26: three", x.rounds(0, 5, 1), 5);
        c.due("26: four", x.rounds(0, 4, 0), 4);
        c.due("26: five", x.rounds(0, 3, 0), 5);
        c.due("26: none", x.rounds(0, 2, 0), NONE);
    }

    private static void roundsByDay() {
        Checks.State growing = Checks.with(x -> x.side(1, 1, 1, 50), x -> x.give(0, 2));
        c.due("26: the year before", growing, x -> x.rounds(364, 1000, 1), 50);
        c.due("26: a year", growing, x -> x.rounds(365, 1000, 1), 100);
        c.due("26: by b then", growing, x -> x.rounds(364, 50, 0), 1);
        c.due("26: by b then", growing, x -> x.rounds(365, 50, 0), NONE);
        Checks.State later = Checks.with(growing, x -> x.give(400, 2));
        c.due("26: any day may be asked for", later, x -> x.rounds(0, 1000, 1), 50);
    }

    // ---- promise 27

    private static void fullYearNumbers() {
        for (int day : Checks.BAD_DAYS) {
            c.refused("27: day " + day, Checks::rich, x -> x.fullYear(0, day), BAD);
            c.due("27: BAD ahead of NO", Checks.chain(2), x -> x.fullYear(0, day), BAD);
        }
        for (int side : BAD_SIDES) {
            c.refused("27: side " + side, Checks::rich, x -> x.fullYear(side, 0), BAD);
            c.due("27: BAD ahead of NO", Checks.chain(6), x -> x.fullYear(side, 0), BAD);
        }
        c.due("27: no sides", Checks::empty, x -> x.fullYear(0, 0), BAD);
        c.due("27: no codes", Checks.chain(2), x -> x.fullYear(0, 0), NO);
        c.due("27: NO ahead of NONE", Checks.chain(2), x -> x.fullYear(1, 14600), NO);
        c.due("27: any day may be asked for", Checks.with(one(2), x -> x.give(400, 2)), x -> x.fullYear(0, 0), NONE);
    }

    private static void fullYearEdges() {
        Checks.State sixty = Checks.with(x -> x.side(60, 1, 1, 1), x -> x.give(0, 2));
        c.due("27: just m in 40 years", sixty, x -> x.fullYear(0, 0), NONE);
        c.due("27: just m in 40 years", sixty, x -> x.fullYear(0, 364), NONE);
        c.due("27: above m in 40 years", sixty, x -> x.fullYear(0, 365), 40);
        c.due("27: above m in 39 years", sixty, x -> x.fullYear(0, 730), 39);
        c.due("27: just m, so a year later", sixty, x -> x.fullYear(0, 14600), 1);
        c.due("27: at once", Checks.ruled(sixty, "m59,0;"), x -> x.fullYear(0, 0), 0);
        c.due("27: just m now", Checks.ruled(sixty, "m60,0;"), x -> x.fullYear(0, 0), 1);
        c.due("27: 80 years in all", Checks.ruled(sixty, "m139,0;"), x -> x.fullYear(0, 14600), 40);
        c.due("27: 80 years in all", Checks.ruled(sixty, "m140,0;"), x -> x.fullYear(0, 14600), NONE);
        Checks.State still = Checks.with(x -> x.side(100, 0, 1, 1), x -> x.give(0, 2));
        c.due("27: no growth", still, x -> x.fullYear(0, 14600), NONE);
        c.due("27: no growth, too full", Checks.ruled(still, "m99,0;"), x -> x.fullYear(0, 14600), 0);
        c.due("27: of the whole code", Checks.ruled(one(9), "m269,0;"), x -> x.fullYear(8, 0), 0);
        c.due("27: of the whole code", Checks.ruled(one(9), "m270,0;"), x -> x.fullYear(8, 0), NONE);
        c.due("27: of its code alone", Checks.ruled(two(""), "m30,0;"), x -> x.fullYear(1, 0), NONE);
    }

    private static void fullYearOfThatDay() {
        Checks.State sixty = Checks.with(x -> x.side(60, 1, 1, 1), x -> x.give(0, 2));
        c.due("27: m of the day asked from", Checks.ruled(sixty, "m80,0;m10,365;"), x -> x.fullYear(0, 364), 21);
        c.due("27: m of the day asked from", Checks.ruled(sixty, "m80,0;m10,365;"), x -> x.fullYear(0, 365), 0);
        c.due("27: y is nothing to it", Checks.ruled(sixty, "m80,0;y40,0;"), x -> x.fullYear(0, 0), 21);
    }

    // ---- promise 28

    private static void editionsFull() {
        DoorCodes x = Checks.made(one(3));
        for (int i = 0; i < 10; i++) {
            c.due("28: its number", x.edition(), i);
            c.due("28: so many", x.count(6), i + 1);
        }
        c.due("28: an eleventh", x.edition(), FULL);
        Checks.State ten = Checks.with(one(3), y -> {
            for (int i = 0; i < 10; i++) {
                y.edition();
                y.split(i % 3, i);
            }
        });
        c.refused("28: an eleventh", ten, y -> y.edition(), FULL);
        c.changes("28: what is seen", one(3), y -> y.edition());
    }

    private static void editionsNoCodes() {
        c.refused("28: no codes", Checks.chain(3), x -> x.edition(), NO);
        c.refused("28: no sides", Checks::empty, x -> x.edition(), NO);
        Checks.State back = Checks.with(Checks.chain(2), x -> {
            x.keep();
            x.give(0, 2);
            x.edition();
            x.back();
        });
        c.refused("28: no codes any more", back, x -> x.edition(), NO);
    }

    // ---- promise 29

    private static void bookNumbers() {
        for (int edition : new int[] {LOWEST, -1, 2, 9, 10, HIGHEST}) {
            c.refused("29: edition " + edition, Checks::rich, x -> x.book(edition, 0), BAD);
        }
        for (int side : BAD_SIDES) {
            c.refused("29: side " + side, Checks::rich, x -> x.book(0, side), BAD);
        }
        c.due("29: no edition", one(2), x -> x.book(0, 0), BAD);
        c.due("29: no sides", Checks::empty, x -> x.book(0, 0), BAD);
        Checks.State ten = Checks.with(one(9), x -> {
            for (int i = 0; i < 10; i++) {
                x.edition();
            }
        });
        c.due("29: the last of all", ten, x -> x.book(9, 8), 0);
        c.due("29: behind the last", ten, x -> x.book(10, 8), BAD);
        c.due("29: behind the last side", ten, x -> x.book(9, 9), BAD);
    }

    private static void bookThen() {
        DoorCodes x = Checks.made(two(""));
        x.edition();
        x.pass(0, 1, 5);
        x.edition();
        x.split(0, 6);
        c.due("29: then", x.book(0, 0), 0);
        c.due("29: then", x.book(0, 1), 1);
        c.due("29: later", x.book(1, 0), 1);
        c.due("29: later", x.book(1, 1), 1);
        c.due("29: now it is another", x.code(1, 0), 0);
    }

    // ---- promise 30

    private static void wrongNumbers() {
        for (int day : Checks.BAD_DAYS) {
            c.refused("30: day " + day, Checks::rich, x -> x.wrong(0, day), BAD);
        }
        for (int edition : new int[] {LOWEST, -1, 2, 9, 10, HIGHEST}) {
            c.refused("30: edition " + edition, Checks::rich, x -> x.wrong(edition, 30), BAD);
            c.due("30: BAD ahead of NO", Checks::rich, x -> x.wrong(edition, 0), BAD);
        }
        c.due("30: no edition", one(2), x -> x.wrong(0, 0), BAD);
        c.due("30: no codes", Checks.chain(2), x -> x.wrong(0, 0), BAD);
        Checks.State later = Checks.with(one(2), x -> {
            x.edition();
            x.give(10, 2);
        });
        c.refused("30: a day ahead", later, x -> x.wrong(0, 9), NO);
        c.due("30: that day", later, x -> x.wrong(0, 10), 0);
        c.due("30: the last day", later, x -> x.wrong(0, 14600), 0);
    }

    private static void wrongDays() {
        Checks.State passed = Checks.with(two("o2,0;"), x -> {
            x.edition();
            x.pass(0, 1, 10);
            x.edition();
        });
        c.due("30: it leads that day", passed, x -> x.wrong(0, 10), 0);
        c.due("30: on its last day", passed, x -> x.wrong(0, 12), 0);
        c.due("30: a day later", passed, x -> x.wrong(0, 13), 1);
        c.due("30: for good", passed, x -> x.wrong(0, 14600), 1);
        c.due("30: the later edition never", passed, x -> x.wrong(1, 14600), 0);
        Checks.State atOnce = Checks.with(two(""), x -> {
            x.edition();
            x.pass(1, 0, 10);
        });
        c.due("30: without o, that day", atOnce, x -> x.wrong(0, 10), 0);
        c.due("30: without o, a day later", atOnce, x -> x.wrong(0, 11), 2);
        Checks.State nine = Checks.with(one(9), x -> {
            x.edition();
            Checks.force(x, "m9999,0;n0,0;");
            x.give(10, 2);
        });
        c.due("30: all nine that day", nine, x -> x.wrong(0, 10), 0);
        c.due("30: all nine", nine, x -> x.wrong(0, 11), 511);
    }

    private static void wrongByItsCode() {
        Checks.State some = Checks.with(Checks.ruled(Checks.with(Checks.ruled(Checks.chain(4), "m200,0;"),
                x -> x.give(0, 2)), "m200,0;o10,0;o50,5;"), x -> {
                    x.edition();
                    x.split(0, 0);
                });
        c.due("30: led themselves", some, x -> x.wrong(0, 10), 0);
        c.due("30: led no more", some, x -> x.wrong(0, 11), 12);
        Checks.State passed = Checks.with(some, x -> x.pass(1, 2, 5));
        c.due("30: one of their code is led to", passed, x -> x.wrong(0, 11), 0);
        c.due("30: for the last time", passed, x -> x.wrong(0, 55), 0);
        c.due("30: no more", passed, x -> x.wrong(0, 56), 14);
        // Word 0 leads on to codes, and yet not to that of the side.
        Checks.State other = Checks.with(Checks.ruled(Checks.apart(2), "o0,0;"), x -> {
            x.give(0, 2);
            x.edition();
            Checks.force(x, "n0,0;");
            x.give(5, 2);
        });
        c.due("30: 1 is had, by another code", other, x -> x.lead(1, 6), 1);
        c.due("30: so both are wrong", other, x -> x.wrong(0, 6), 3);
    }

    private static void wrongByWordNow() {
        Checks.State again = Checks.with(Checks.ruled(Checks.apart(2), ""), x -> {
            x.give(0, 2);
            x.edition();
            Checks.force(x, "n0,0;");
            x.give(5, 2);
            Checks.force(x, "");
        });
        c.due("30: another word now", again, x -> x.wrong(0, 6), 3);
        c.due("30: the word of the edition again", Checks.with(again, x -> x.give(6, 2)), x -> x.wrong(0, 14600), 0);
    }

    // ---- promises 31 and 32

    private static void keepFull() {
        c.due("31: without sides", Checks::empty, x -> x.keep(), 1);
        c.due("31: the first", one(2), x -> x.keep(), 1);
        c.due("31: the second", Checks.with(one(2), x -> x.keep()), x -> x.keep(), 2);
        c.refused("31: a third", Checks::rich, x -> x.keep(), FULL);
        Checks.State full = Checks.with(one(2), x -> {
            x.keep();
            x.split(0, 5);
            x.keep();
            x.pass(0, 1, 10);
        });
        c.refused("31: a third", full, x -> x.keep(), FULL);
        c.due("31: room again", Checks.with(full, x -> x.back()), x -> x.keep(), 2);
        c.changes("31: what is seen", one(2), x -> x.keep());
    }

    private static void backEmpty() {
        c.refused("32: nothing is kept", Checks::empty, x -> x.back(), NO);
        c.refused("32: nothing is kept", one(2), x -> x.back(), NO);
        Checks.State once = Checks.with(one(2), x -> {
            x.keep();
            x.back();
        });
        c.refused("32: nothing is kept any more", once, x -> x.back(), NO);
        c.due("32: none left", Checks.with(one(2), x -> x.keep()), x -> x.back(), 0);
        c.due("32: one left", Checks::rich, x -> x.back(), 1);
        c.same("32: at once back", one(2), x -> {
            x.keep();
            return x.back();
        });
    }

    private static void backAsKept() {
        DoorCodes x = Checks.made(one(4));
        Checks.force(x, "m9999,0;o20,0;");
        x.edition();
        x.keep();
        x.split(0, 5);
        x.edition();
        x.keep();
        x.pass(1, 2, 6);
        x.split(1, 7);
        x.edition();
        c.due("32: the last one kept", x.back(), 1);
        c.due("32: words", x.code(0, 1), 3);
        c.due("32: words", x.code(3, 1), 12);
        c.due("32: what leads to them", x.lead(0, 25), 15);
        c.due("32: what leads to them", x.lead(0, 26), 3);
        c.due("32: the latest day", x.count(8), 5);
        c.due("32: so that day may be acted on", x.lead(0, 5), 15);
        c.due("32: editions", x.count(6), 2);
        c.due("32: editions", x.book(1, 3), 1);
        c.due("32: no third edition", x.book(2, 0), BAD);
        c.due("32: the first one kept", x.back(), 0);
        c.due("32: words", x.code(0, 1), 15);
        c.due("32: nothing leads to them but what they have", x.lead(1, 25), NONE);
        c.due("32: the latest day", x.count(8), 0);
        c.due("32: editions", x.count(6), 1);
        c.due("32: a number again", x.edition(), 1);
        c.due("32: as it is now", x.book(1, 3), 0);
    }

    private static void backNotKept() {
        Checks.State before = Checks.with(Checks.chain(2), x -> x.keep());
        DoorCodes x = Checks.made(before);
        x.side(7, 0, 1, 1);
        x.link(0, 2, 9);
        Checks.force(x, "m77,0;o5,0;");
        x.write(1, 'x');
        x.misread(0, 1, 9);
        x.give(5, 2);
        c.due("32: back", x.back(), 0);
        c.due("32: sides stay", x.count(0), 3);
        c.due("32: links stay", x.count(1), 2);
        c.due("32: THE TEXT stays", x.count(2), 12);
        c.due("32: what is in force stays", x.rule(0, 0), 77);
        c.due("32: misreads stay", x.misread(0, 1, 9), 9);
        c.due("32: words do not", x.code(0, 0), NONE);
    }

    private static void backWithoutCodes() {
        DoorCodes x = Checks.made(Checks.chain(2));
        x.keep();
        x.give(5, 2);
        x.edition();
        c.due("32: given", x.link(0, 1, 9), NO);
        x.back();
        c.due("32: no codes", x.count(4), 0);
        c.due("32: no latest day", x.count(8), -1);
        c.due("32: no editions", x.count(6), 0);
        c.due("32: nobody", x.who(0, -1), 0);
        c.due("32: no rounds", x.rounds(0, 1000, 0), NO);
        c.due("32: no split", x.split(0, 0), NO);
        c.due("32: no lead", x.lead(0, 0), NONE);
        c.due("32: links may come", x.link(0, 1, 9), 5);
        c.due("32: a day ahead of what was", x.give(4, 2), 1);
        c.due("32: no word was before", x.count(5), 0);
    }

    // ---- promise 33

    private static void countNumbers() {
        for (int what : new int[] {LOWEST, -2, -1, 9, 10, HIGHEST}) {
            c.refused("33: what is " + what, Checks::rich, x -> x.count(what), BAD);
            c.due("33: what is " + what, Checks::empty, x -> x.count(what), BAD);
        }
        int[] some = {6, 6, 14, 5, 4, 1, 2, 2, 25};
        for (int what = 0; what < 9; what++) {
            int w = what;
            c.due("33: some of everything, " + what, Checks::rich, x -> x.count(w), some[w]);
        }
    }

    private static void countLeastAndGreatest() {
        DoorCodes x = Checks.made(Checks.apart(9));
        c.due("33: sides", x.count(0), 9);
        c.due("33: no links", x.count(1), 0);
        for (int a = 0; a < 9; a++) {
            for (int b = 0; b < a; b++) {
                x.link(a, b, 1);
            }
        }
        c.due("33: links", x.count(1), 36);
        Checks.write(x, Checks.times(40, "n5,5;"));
        c.due("33: bytes", x.count(2), 200);
        c.due("33: no items in force", x.count(3), 0);
        x.force();
        c.due("33: items in force", x.count(3), 40);
        x.wipe();
        c.due("33: no bytes", x.count(2), 0);
        c.due("33: items are in force yet", x.count(3), 40);
        c.due("33: no codes", x.count(4), 0);
        c.due("33: no latest day", x.count(8), -1);
        x.give(0, 2);
        c.due("33: day 0", x.count(8), 0);
        c.due("33: one code", x.count(4), 1);
        splitAll(x, 0);
        c.due("33: nine codes", x.count(4), 9);
        for (int i = 0; i < 11; i++) {
            x.edition();
            x.keep();
        }
        c.due("33: editions", x.count(6), 10);
        c.due("33: kept", x.count(7), 2);
        x.give(14600, 2);
        c.due("33: the last day", x.count(8), 14600);
    }

    private static void countOldWords() {
        c.due("33: no codes", Checks.chain(2), x -> x.count(5), 0);
        c.due("33: no sides", Checks::empty, x -> x.count(5), 0);
        c.due("33: no old word", two("o2,0;"), x -> x.count(5), 0);
        Checks.State passed = Checks.with(two("o2,0;n0,0;"), x -> x.pass(0, 1, 10));
        c.due("33: one leads on", passed, x -> x.count(5), 1);
        // The one code has word 1, and so it stays by n.
        c.due("33: on its last day", Checks.with(passed, x -> x.give(12, 2)), x -> x.count(5), 1);
        c.due("33: a day later", Checks.with(passed, x -> x.give(13, 2)), x -> x.count(5), 0);
        Checks.State split = Checks.with(one(2), x -> x.split(0, 10));
        c.due("33: it leads on, and yet a side has it", split, x -> x.count(5), 0);
        Checks.State without = Checks.with(two("n0,0;"), x -> x.pass(0, 1, 10));
        c.due("33: without o, that day", without, x -> x.count(5), 1);
        c.due("33: without o, a day later", Checks.with(without, x -> x.give(11, 2)), x -> x.count(5), 0);
        Checks.State four = Checks.with(Checks.ruled(Checks.apart(4), "o9,0;"), x -> {
            x.give(0, 2);
            Checks.force(x, "o9,0;n0,0;n0,1;n1,1;");
            x.give(9, 3);
        });
        c.due("33: four old ones", four, x -> x.count(5), 4);
        Checks.State back = Checks.with(Checks.chain(2), x -> {
            x.keep();
            Checks.force(x, "s0,1;o9,0;");
            x.give(0, 2);
            Checks.force(x, "o9,0;");
            x.pass(0, 1, 0);
            x.back();
        });
        c.due("33: no codes any more", back, x -> x.count(5), 0);
    }
}
