/** The bounds that promises 16 to 19 name, each sentence by itself: words. */
public final class WordsBoundsTest {
    private static final int BAD = Checks.BAD, NO = Checks.NO, NONE = Checks.NONE;
    private static final int LOWEST = Checks.LOWEST, HIGHEST = Checks.HIGHEST;
    private static final Checks c = new Checks();

    public static void main(String[] args) {
        misreadNumbers();
        misreadAtFirst();
        misreadTogether();
        readNumbers();
        readProducts();
        wordsNumbers();
        wordsNotShaped();
        wordsTooFew();
        wordsOfLetters();
        wordsByN();
        harmOnceOrThrice();
        harmFirstThenLower();
        harmOfTheLastWord();
        wordsAsked();
        whoNumbers();
        whoEmpty();
        whoByRead();
        whoOfNine();
        c.end("words");
    }

    // ---- promise 16

    private static void misreadNumbers() {
        for (int letter : new int[] {LOWEST, -1, 6, 7, HIGHEST}) {
            c.refused("16: from " + letter, Checks::rich, x -> x.misread(letter, 0, 1), BAD);
            c.refused("16: to " + letter, Checks::rich, x -> x.misread(0, letter, 1), BAD);
        }
        for (int v : new int[] {LOWEST, -1, 100, 101, HIGHEST}) {
            c.refused("16: v is " + v, Checks::rich, x -> x.misread(4, 5, v), BAD);
        }
        for (int i = 0; i < 6; i++) {
            int letter = i;
            c.refused("16: to itself", Checks::rich, x -> x.misread(letter, letter, 0), BAD);
            c.refused("16: to itself", Checks::rich, x -> x.misread(letter, letter, 1), BAD);
        }
        c.changes("16: what is seen", Checks::rich, x -> x.misread(5, 4, 1));
    }

    private static void misreadAtFirst() {
        DoorCodes x = new DoorCodes();
        for (int from = 0; from < 6; from++) {
            for (int to = 0; to < 6; to++) {
                if (from != to) {
                    c.due("16: 0 at first", x.misread(from, to, 20), 0);
                    c.due("16: what it was", x.misread(from, to, 20), 20);
                }
            }
        }
        c.due("16: the least", x.misread(0, 1, 0), 20);
        c.due("16: the least", x.misread(0, 1, 0), 0);
        c.due("16: one way only", x.misread(1, 0, 20), 20);
        DoorCodes y = new DoorCodes();
        c.due("16: the greatest", y.misread(5, 0, 99), 0);
        c.due("16: the greatest", y.misread(5, 0, 99), 99);
    }

    private static void misreadTogether() {
        Checks.State most = x -> x.misread(0, 1, 99);
        c.due("16: 100 together", most, x -> x.misread(0, 2, 1), 0);
        c.refused("16: 101 together", most, x -> x.misread(0, 2, 2), NO);
        c.refused("16: far above", most, x -> x.misread(0, 5, 99), NO);
        c.due("16: of another letter", most, x -> x.misread(1, 0, 99), 0);
        c.due("16: of another letter", most, x -> x.misread(2, 1, 99), 0);
        Checks.State full = Checks.with(most, x -> x.misread(0, 2, 1));
        c.refused("16: nothing is left", full, x -> x.misread(0, 3, 1), NO);
        c.due("16: nothing more", full, x -> x.misread(0, 3, 0), 0);
        c.refused("16: as it is", full, x -> x.misread(0, 2, 1), 1);
        c.refused("16: one more of one", full, x -> x.misread(0, 2, 2), NO);
        c.due("16: one less of one", full, x -> x.misread(0, 1, 98), 99);
        c.due("16: so there is room", Checks.with(full, x -> x.misread(0, 1, 98)), x -> x.misread(0, 2, 2), 1);
        c.refused("16: BAD ahead of NO", full, x -> x.misread(0, 2, 100), BAD);
        c.refused("16: BAD ahead of NO", full, x -> x.misread(0, 0, 50), BAD);
        Checks.State five = x -> {
            for (int to = 1; to < 6; to++) {
                x.misread(0, to, 20);
            }
        };
        c.refused("16: all five count", five, x -> x.misread(0, 5, 21), NO);
        c.due("16: nothing is left of 100", five, x -> x.read(0, 0), 0);
    }

    // ---- promise 17

    private static void readNumbers() {
        for (int word : Checks.BAD_WORDS) {
            c.refused("17: word " + word, Checks::rich, x -> x.read(word, 0), BAD);
            c.refused("17: as " + word, Checks::rich, x -> x.read(0, word), BAD);
        }
        for (int word : new int[] {0, 5, 6, 30, 35}) {
            c.due("17: as itself, at first", Checks::empty, x -> x.read(word, word), 10000);
            c.due("17: as another, at first", Checks::empty, x -> x.read(word, 35 - word), 0);
        }
    }

    private static void readProducts() {
        DoorCodes x = new DoorCodes();
        x.misread(0, 1, 99);
        x.misread(2, 3, 7);
        x.misread(5, 4, 60);
        x.misread(5, 3, 40);
        c.due("17: the greatest of two misread", x.read(0, 7), 99 * 99);
        c.due("17: the least of itself", x.read(0, 0), 1);
        c.due("17: first and second letter", x.read(2, 9), 99 * 7);
        c.due("17: second and first letter", x.read(12, 19), 7 * 99);
        c.due("17: only the first is misread", x.read(2, 8), 99 * 93);
        c.due("17: only the second is misread", x.read(2, 3), 1 * 7);
        c.due("17: one letter never", x.read(2, 10), 0);
        c.due("17: not the other way about", x.read(7, 0), 0);
        c.due("17: nothing left of 100", x.read(35, 35), 0);
        c.due("17: half by nothing", x.read(35, 34), 0);
        c.due("17: both", x.read(35, 28), 3600);
        c.due("17: both, unlike", x.read(35, 27), 60 * 40);
        x.misread(0, 1, 0);
        c.due("17: all of 100 again", x.read(0, 0), 10000);
    }

    // ---- promise 18

    private static void wordsNumbers() {
        for (int day : Checks.BAD_DAYS) {
            c.due("18: day " + day, Checks.chain(2), x -> x.words(day, 2, -1), BAD);
            c.due("18: BAD ahead of NO", Checks::empty, x -> x.words(day, 2, -1), BAD);
        }
        for (int l : new int[] {LOWEST, -1, 0, 1, 5, 6, HIGHEST}) {
            c.refused("18: l is " + l, Checks.chain(2), x -> x.words(0, l, -1), BAD);
            c.due("18: BAD ahead of NO", Checks::empty, x -> x.words(0, l, 0), BAD);
        }
        for (int i : new int[] {LOWEST, -3, -2}) {
            c.refused("18: i is " + i, Checks.chain(2), x -> x.words(0, 2, i), BAD);
            c.due("18: BAD ahead of NO", Checks::empty, x -> x.words(0, 2, i), BAD);
        }
        for (int i : new int[] {1, 2, 4, 9, HIGHEST}) {
            c.due("18: not so many, i is " + i, Checks.chain(2), x -> x.words(0, 2, i), NONE);
        }
        for (int l = 2; l < 5; l++) {
            int letters = l;
            c.due("18: one code on the first day", Checks.chain(2), x -> x.words(0, letters, 0), 0);
            c.due("18: one code on the last day", Checks.chain(2), x -> x.words(14600, letters, 0), 0);
            c.due("18: no pair, no harm", Checks.chain(2), x -> x.words(0, letters, -1), 0);
        }
        c.same("18: asking changes nothing", Checks::rich, x -> x.words(25, 4, 0));
    }

    private static void wordsNotShaped() {
        c.due("18: without sides", Checks::empty, x -> x.words(0, 2, -1), NO);
        Checks.State heavy = Checks.ruled(Checks.chain(2), "m29,0;");
        for (int i : new int[] {-1, 0, 4, HIGHEST}) {
            c.due("18: not shaped, i is " + i, heavy, x -> x.words(0, 2, i), NO);
            c.due("18: five, i is " + i, Checks.apart(5), x -> x.words(0, 4, i), NO);
            c.due("18: nine, i is " + i, Checks.apart(9), x -> x.words(0, 4, i), NO);
        }
        c.due("18: four", Checks.apart(4), x -> x.words(0, 2, -1), 0);
        c.due("18: the fourth", Checks.apart(4), x -> x.words(0, 2, 3), 7);
        c.due("18: no fifth", Checks.apart(4), x -> x.words(0, 2, 4), NONE);
        c.due("18: NO ahead of NONE", Checks.ruled(Checks.apart(5), "n0,0;n0,1;n1,1;"), x -> x.words(0, 2, 0), NO);
        Checks.State growing = x -> x.side(100, 1, 1, 1);
        c.due("18: shaped yet", growing, x -> x.words(364, 2, 0), 0);
        c.due("18: not shaped any more", growing, x -> x.words(365, 2, 0), NO);
    }

    private static void wordsTooFew() {
        Checks.State three = Checks.ruled(Checks.apart(4), "n0,0;");
        for (int i : new int[] {-1, 0, 3, 4}) {
            c.due("18: three words for four, i is " + i, three, x -> x.words(0, 2, i), NONE);
        }
        c.due("18: a letter more", three, x -> x.words(0, 3, -1), 0);
        c.due("18: three words for three", Checks.ruled(Checks.apart(3), "n0,0;"), x -> x.words(0, 2, 2), 7);
        c.due("18: two words for two", Checks.ruled(Checks.apart(2), "n0,1;"), x -> x.words(0, 2, 1), 7);
        c.due("18: two words for three", Checks.ruled(Checks.apart(3), "n0,1;"), x -> x.words(0, 2, -1), NONE);
        Checks.State none = Checks.ruled(Checks.apart(1), "n0,0;n1,1;n0,1;");
        c.due("18: no word for one", none, x -> x.words(0, 2, -1), NONE);
        c.due("18: no word for one", none, x -> x.words(0, 2, 0), NONE);
        c.due("18: a letter more for one", none, x -> x.words(0, 3, 0), 2);
        c.due("18: one word for one", Checks.ruled(Checks.apart(1), "n0,0;n0,1;"), x -> x.words(0, 2, 0), 7);
    }

    /** All words but those of the last letter below l are taken away, so it is seen which the last letter is. */
    private static void wordsOfLetters() {
        c.due("18: below 2", Checks.ruled(Checks.apart(1), "n0,0;n0,1;"), x -> x.words(0, 2, 0), 7);
        String two = "n0,0;n0,1;n1,1;n0,2;n1,2;";
        c.due("18: no letter 2 below 2", Checks.ruled(Checks.apart(1), two), x -> x.words(0, 2, 0), NONE);
        c.due("18: letter 2 below 3", Checks.ruled(Checks.apart(1), two), x -> x.words(0, 3, 0), 14);
        String three = two + "n2,2;n0,3;n1,3;n2,3;";
        c.due("18: no letter 3 below 3", Checks.ruled(Checks.apart(1), three), x -> x.words(0, 3, 0), NONE);
        c.due("18: letter 3 below 4", Checks.ruled(Checks.apart(1), three), x -> x.words(0, 4, 0), 21);
        c.due("18: no letter 4 below 4", Checks.ruled(Checks.apart(1), three + "n3,3;"), x -> x.words(0, 4, 0), NONE);
    }

    private static void wordsByN() {
        c.due("18: either way", Checks.ruled(Checks.apart(2), "n0,0;n1,0;"), x -> x.words(0, 3, 0), 2);
        c.due("18: either way", Checks.ruled(Checks.apart(2), "n0,0;n0,1;"), x -> x.words(0, 3, 1), 7);
        c.due("18: either way", Checks.ruled(Checks.apart(2), "n0,0;n0,1;n1,1;"), x -> x.words(0, 3, 1), 8);
        c.due("18: A is B", Checks.ruled(Checks.apart(1), "n0,0;"), x -> x.words(0, 2, 0), 1);
        c.due("18: letters 5 are not looked at", Checks.ruled(Checks.apart(1), "n5,5;n0,5;"), x -> x.words(0, 2, 0), 0);
    }

    private static void harmOnceOrThrice() {
        String two = "n0,1;";
        Checks.State apart = Checks.with(Checks.ruled(Checks.apart(2), two), x -> x.misread(0, 1, 10));
        c.due("18: once", apart, x -> x.words(0, 2, -1), 100);
        Checks.State linked = Checks.with(Checks.ruled(Checks.apart(2), two + "s0,1;"), x -> {
            x.link(0, 1, 500);
            x.misread(0, 1, 10);
        });
        c.due("18: three times", linked, x -> x.words(0, 2, -1), 300);
        c.due("18: the other way about too", Checks.with(linked, x -> x.misread(1, 0, 20)), x -> x.words(0, 2, -1), 1500);
        c.due("18: a link no more", Checks.with(linked, x -> x.link(0, 1, 0)), x -> x.words(0, 2, -1), 100);
        Checks.State most = Checks.with(linked, x -> {
            x.misread(0, 1, 99);
            x.misread(1, 0, 99);
        });
        c.due("18: the most of two", most, x -> x.words(0, 2, -1), 3 * 2 * 99 * 99);
        // A link of any side of the one with any side of the other.
        Checks.State ends = Checks.with(Checks.ruled(Checks.chain(6), two), x -> x.misread(0, 1, 10));
        c.due("18: any two sides", ends, x -> x.words(0, 2, -1), 300);
        c.due("18: any two sides", Checks.with(ends, x -> x.link(2, 3, 0)), x -> x.words(0, 2, -1), 100);
        Checks.State four = Checks.with(Checks.apart(4), x -> {
            for (int a = 0; a < 4; a++) {
                for (int b = 0; b < a; b++) {
                    x.link(a, b, 1);
                }
            }
            Checks.force(x, "m1,0;");
            x.misread(0, 1, 50);
            x.misread(1, 0, 50);
        });
        c.due("18: the most of four", four, x -> x.words(0, 2, -1), 6 * 3 * 2 * 2500);
    }

    private static void harmFirstThenLower() {
        Checks.State two = Checks.with(Checks.apart(2), x -> x.misread(0, 1, 1));
        c.due("18: no harm", two, x -> x.words(0, 2, -1), 0);
        c.due("18: the lower word for shape 0 by which there is none", two, x -> x.words(0, 2, 0), 1);
        c.due("18: then for shape 1", two, x -> x.words(0, 2, 1), 6);
        c.due("18: by another letter", two, x -> x.words(0, 3, 0), 0);
        c.due("18: by another letter", two, x -> x.words(0, 3, 1), 2);
        Checks.State none = Checks.apart(3);
        for (int i = 0; i < 3; i++) {
            int[] lowest = {0, 1, 6};
            int n = i;
            c.due("18: the lowest words", none, x -> x.words(0, 2, n), lowest[n]);
        }
    }

    private static void harmOfTheLastWord() {
        // Letters 0, 1 and 2 are read as each other and 3 is not, so by n its one word is 33.
        Checks.State two = Checks.with(Checks.ruled(Checks.apart(2), "n0,3;n1,3;n2,3;"), x -> {
            for (int a = 0; a < 3; a++) {
                for (int b = 0; b < 3; b++) {
                    if (a != b) {
                        x.misread(a, b, 10);
                    }
                }
            }
        });
        c.due("18: some harm below 3", two, x -> x.words(0, 3, -1), 200);
        c.due("18: none below 4", two, x -> x.words(0, 4, -1), 0);
        c.due("18: the lower one for shape 0", two, x -> x.words(0, 4, 0), 0);
        c.due("18: the last word of all for shape 1", two, x -> x.words(0, 4, 1), 21);
    }

    /** What was asked once is not the answer for good, nor that of another day or other letters. */
    private static void wordsAsked() {
        DoorCodes x = Checks.made(Checks.apart(2));
        c.due("18: nothing misread", x.words(0, 2, 1), 1);
        x.misread(0, 1, 9);
        c.due("18: misread", x.words(0, 2, 1), 6);
        c.due("18: other letters", x.words(0, 3, 1), 2);
        c.due("18: these letters again", x.words(0, 2, 1), 6);
        Checks.force(x, "n0,0;n1,0;");
        c.due("18: other rules", x.words(0, 2, 1), NONE);
        c.due("18: other rules, other letters", x.words(0, 3, 1), 7);
        Checks.force(x, "n0,0;n1,0;u0,8;");
        c.due("18: not shaped", x.words(0, 3, 1), NO);
        Checks.force(x, "");
        x.link(0, 1, 5);
        c.due("18: one code", x.words(0, 2, 1), NONE);
        Checks.force(x, "m1,0;m9,5;n1,0;");
        c.due("18: two linked codes", x.words(0, 2, -1), 3 * 81);
        c.due("18: one code on another day", x.words(5, 2, -1), 0);
        c.due("18: two linked codes again", x.words(0, 2, -1), 3 * 81);
        x.side(1, 0, 1, 1);
        c.due("18: too few words now", x.words(0, 2, -1), NONE);
    }

    // ---- promise 19

    private static void whoNumbers() {
        Checks.State given = Checks.with(Checks.apart(3), x -> x.give(0, 2));
        for (int word : Checks.BAD_WORDS) {
            c.due("19: word " + word, given, x -> x.who(word, -1), BAD);
            c.due("19: word " + word, given, x -> x.who(word, 0), BAD);
            c.due("19: BAD ahead of NONE", Checks::empty, x -> x.who(word, 0), BAD);
        }
        for (int i : new int[] {LOWEST, -3, -2}) {
            c.refused("19: i is " + i, given, x -> x.who(0, i), BAD);
            c.due("19: BAD ahead of NONE", Checks::empty, x -> x.who(0, i), BAD);
        }
        for (int i : new int[] {1, 2, 9, 36, HIGHEST}) {
            c.due("19: i is " + i, given, x -> x.who(0, i), NONE);
        }
        c.due("19: the first", given, x -> x.who(0, 0), 0);
        c.due("19: so many", given, x -> x.who(0, -1), 1);
        c.same("19: asking changes nothing", Checks::rich, x -> x.who(1, 0));
    }

    private static void whoEmpty() {
        for (int word : new int[] {0, 35}) {
            c.due("19: no codes", Checks.apart(3), x -> x.who(word, -1), 0);
            c.due("19: no codes", Checks.apart(3), x -> x.who(word, 0), NONE);
        }
        Checks.State given = Checks.with(Checks.apart(3), x -> x.give(0, 2));
        c.due("19: no code alive is read so", given, x -> x.who(35, -1), 0);
        c.due("19: no code alive is read so", given, x -> x.who(35, 0), NONE);
        // Word 0 leads on, and yet it is of no code alive.
        Checks.State old = Checks.with(Checks.ruled(Checks.apart(2), "o9,0;"), x -> {
            x.give(0, 2);
            Checks.force(x, "o9,0;n0,0;");
            x.give(0, 2);
        });
        c.due("19: it leads on", old, x -> x.lead(0, 9), 1);
        c.due("19: an old word is nobody's", old, x -> x.who(0, -1), 0);
    }

    private static void whoByRead() {
        // Codes 0, 1 and 6.
        Checks.State given = Checks.with(Checks.apart(3), x -> x.give(0, 2));
        Checks.State least = Checks.with(given, x -> x.misread(0, 1, 1));
        c.due("19: by 1 of 10000", least, x -> x.who(7, -1), 3);
        c.due("19: the greatest, of alike ones the lower", least, x -> x.who(7, 0), 1);
        c.due("19: the other of two alike", least, x -> x.who(7, 1), 6);
        c.due("19: the least is the last", least, x -> x.who(7, 2), 0);
        c.due("19: behind the last", least, x -> x.who(7, 3), NONE);
        c.due("19: those by 0 are none", least, x -> x.who(0, -1), 1);
        c.due("19: itself and another", least, x -> x.who(1, -1), 2);
        c.due("19: itself first", least, x -> x.who(1, 0), 1);
        Checks.State gone = Checks.with(given, x -> {
            x.misread(0, 1, 60);
            x.misread(0, 2, 40);
        });
        c.due("19: not even itself", gone, x -> x.who(0, -1), 0);
        c.due("19: not even itself", gone, x -> x.who(0, 0), NONE);
        c.due("19: 0 as 14", gone, x -> x.who(14, 0), 0);
        Checks.State even = Checks.with(given, x -> {
            x.misread(0, 1, 50);
            x.misread(1, 0, 50);
        });
        for (int i = 0; i < 3; i++) {
            int[] alike = {0, 1, 6};
            int n = i;
            c.due("19: all alike, the lower first", even, x -> x.who(7, n), alike[n]);
        }
        c.due("19: all alike", even, x -> x.who(7, 3), NONE);
    }

    private static void whoOfNine() {
        DoorCodes x = Checks.made(Checks.ruled(Checks.chain(9), "m9999,0;"));
        x.give(0, 2);
        for (int round = 0; round < 4; round++) {
            for (int side = 0; side < 9; side++) {
                x.split(side, 0);
            }
        }
        c.due("19: nine codes", x.count(4), 9);
        for (int from = 0; from < 6; from++) {
            if (from != 5) {
                x.misread(from, 5, 50);
            }
        }
        c.due("19: all nine", x.who(35, -1), 9);
        // Words 5 and 8, which is 1 and 2: where 5 stays as it is, more is left.
        c.due("19: the greatest", x.who(35, 0), 5);
        c.due("19: the last of nine", x.who(35, 8), 8);
        c.due("19: no tenth", x.who(35, 9), NONE);
    }
}
