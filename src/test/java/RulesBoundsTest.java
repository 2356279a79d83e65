/** The bounds that promises 9 to 15 name, each sentence by itself: rules. */
public final class RulesBoundsTest {
    private static final int BAD = Checks.BAD, NO = Checks.NO, FULL = Checks.FULL, NONE = Checks.NONE;
    private static final int LOWEST = Checks.LOWEST, HIGHEST = Checks.HIGHEST;
    private static final Checks c = new Checks();

    public static void main(String[] args) {
        writeNumbers();
        writePieces();
        writeHighestFirst();
        writeFull();
        wipes();
        faultOfNumbers();
        faultOfFigures();
        faultOfSigns();
        faultPlaces();
        faultBehindTheEnd();
        forceEmptyAndFull();
        forceRefused();
        ruleNumbers();
        ruleWithout();
        ruleFromDayOn();
        ruleLast();
        whyNumbers();
        quarrelOfOneLetter();
        quarrelOfSides();
        quarrelFirst();
        quarrelInForce();
        c.end("rules");
    }

    private static Checks.State text(String text) {
        return x -> Checks.write(x, text);
    }

    private static void fine(String text) {
        c.due("11: " + text, text(text), x -> x.fault(), NONE);
    }

    private static void faulty(String text, int place) {
        c.due("11: " + text, text(text), x -> x.fault(), place);
        c.due("12: " + text, text(text), x -> x.force(), NO);
    }

    // ---- promises 9 and 10

    private static void writeNumbers() {
        for (int n : new int[] {LOWEST, -8, -1, 0, 9, 16, HIGHEST}) {
            c.refused("9: n is " + n, text("m7,0;"), x -> x.write(n, 0x6d372c303bL), BAD);
        }
        for (int n = 1; n <= 8; n++) {
            int bytes = n;
            c.due("9: n is " + n, Checks::empty, x -> x.write(bytes, 0), n);
            c.due("9: n is " + n + " behind others", text("m7,0;"), x -> x.write(bytes, -1), n + 5);
            c.due("9: any v", Checks::empty, x -> x.write(bytes, Long.MIN_VALUE), n);
            c.due("9: any v", Checks::empty, x -> x.write(bytes, Long.MAX_VALUE), n);
        }
        c.changes("9: what is seen", text("m7,0;"), x -> x.write(1, 'm'));
    }

    /** The same text comes of pieces of any one length. */
    private static void writePieces() {
        String whole = "y40,0;m1234,14600;o9999,1;n3,5;s0,8;u7,1";
        for (int n = 1; n <= 8; n++) {
            DoorCodes x = new DoorCodes();
            for (int from = 0; from < whole.length(); from += n) {
                int end = Math.min(whole.length(), from + n);
                long v = 0x1122334455667788L;
                for (int i = from; i < end; i++) {
                    v = v << 8 | whole.charAt(i);
                }
                c.due("9: behind the text", x.write(end - from, v), end);
            }
            x.write(1, ';');
            c.due("9: pieces of " + n, x.force(), 6);
            c.due("9: pieces of " + n, x.rule(0, 14600), 1234);
            c.due("9: pieces of " + n, x.rule(1, 0), 40);
            c.due("9: pieces of " + n, x.rule(2, 1), 9999);
        }
    }

    private static void writeHighestFirst() {
        DoorCodes x = new DoorCodes();
        x.write(8, 0x6d31323334352c30L);
        c.due("9: a fault by five figures of m", x.write(1, ';'), 9);
        c.due("9: a fault by five figures of m", x.fault(), 0);
        x.wipe();
        x.write(8, 0x6d313233342c303bL);
        c.due("9: m1234,0;", x.force(), 1);
        c.due("9: m1234,0;", x.rule(0, 0), 1234);
        x.wipe();
        x.write(1, 0xff6dL);
        x.write(4, 0x7f382c313bL);
        c.due("9: the lowest bytes of v", x.force(), 1);
        c.due("9: the lowest bytes of v", x.rule(0, 1), 8);
        c.due("9: a highest bit", text("" + (char) 0xed + "8,1;"), y -> y.fault(), 0);
    }

    private static void writeFull() {
        for (int n = 1; n <= 8; n++) {
            int bytes = n;
            c.due("9: just 200 by " + n, text(Checks.times(200 - n, "x")), x -> x.write(bytes, 0), 200);
            c.refused("9: 201 by " + n, text(Checks.times(201 - n, "x")), x -> x.write(bytes, 0), FULL);
            c.refused("9: full, " + n, text(Checks.times(200, "x")), x -> x.write(bytes, 0), FULL);
        }
        c.refused("9: BAD ahead of FULL", text(Checks.times(200, "x")), x -> x.write(0, 0), BAD);
        c.refused("9: BAD ahead of FULL", text(Checks.times(200, "x")), x -> x.write(9, 0), BAD);
        c.due("9: less finds room yet", Checks.with(text(Checks.times(193, "x")), x -> x.write(8, 0)),
                x -> x.write(7, 0), 200);
        c.due("9: wiped, so there is room", Checks.with(text(Checks.times(200, "x")), x -> x.wipe()),
                x -> x.write(8, 0), 8);
    }

    private static void wipes() {
        c.refused("10: empty", Checks::empty, x -> x.wipe(), 0);
        c.due("10: one", text("m"), x -> x.wipe(), 1);
        c.due("10: full", text(Checks.times(200, "x")), x -> x.wipe(), 200);
        DoorCodes x = Checks.made(text("m8,0;"));
        x.force();
        c.due("10: was", x.wipe(), 5);
        c.due("10: is empty", x.count(2), 0);
        c.due("10: is empty", x.wipe(), 0);
        c.due("10: no fault", x.fault(), NONE);
        c.due("10: what is in force stays", x.rule(0, 0), 8);
        c.due("10: what is in force stays", x.count(3), 1);
        c.due("10: faults are wiped too", Checks.with(text("?"), y -> y.wipe()), y -> y.force(), 0);
    }

    // ---- promise 11

    private static void faultOfNumbers() {
        String[] least = {"m1,0;", "y0,0;", "o0,0;", "n0,0;", "s0,1;", "s1,0;", "u0,1;", "u1,0;"};
        String[] greatest = {"m9999,14600;", "y40,14600;", "o9999,14600;", "n5,5;", "s8,7;", "s7,8;", "u8,7;", "u7,8;"};
        for (int i = 0; i < least.length; i++) {
            fine(least[i]);
            fine(greatest[i]);
        }
        String[] outside = {"m0,0;", "m10000,0;", "m99999,0;", "m1,14601;", "m1,99999;",
            "y41,0;", "y99999,0;", "y0,14601;", "o10000,0;", "o0,14601;", "o99999,0;", "n6,0;", "n0,6;", "n99999,0;",
            "s9,0;", "s0,9;", "u9,0;", "u0,9;", "s99999,0;", "u0,99999;", "s32,0;", "u0,33;"};
        for (String item : outside) {
            faulty(item, 0);
        }
        for (int side = 0; side < 9; side++) {
            faulty("s" + side + "," + side + ";", 0);
            faulty("u" + side + "," + side + ";", 0);
        }
        for (int letter = 0; letter < 6; letter++) {
            fine("n" + letter + "," + letter + ";");
        }
    }

    private static void faultOfFigures() {
        String[] fine = {"m1,0;", "m01,0;", "m001,00;", "m0001,000;", "m00001,00000;", "m09999,14600;", "y00040,0;",
            "o00000,0;", "n00005,00005;", "s00000,00008;", "u00008,0;"};
        for (String item : fine) {
            fine(item);
        }
        String[] faulty = {"m,0;", "m1,;", "m,;", "m000001,0;", "m1,000000;", "y000000,0;", "o1,014600;",
            "n000000,0;", "s0,000001;", "m00000,0;", "m4294967297,0;", "m1,4294967296;", "m1,18446744073709551616;"};
        for (String item : faulty) {
            faulty(item, 0);
        }
    }

    private static void faultOfSigns() {
        String[] faulty = {"m", "m1", "m1,", "m1,0", ";", ",", "1", "m1;", "m1;0;", "m1,x5;", "m1,:5;", "mx1,0;", "m:1,0;", "m1x,0;", "m1,0x;", "m1,0,", "m1,0,0;", "m1,,0;", "m;",
            "mm1,0;", "m-1,0;", "m+1,0;", "m1,-0;", "M1,0;", "Y1,0;", "a1,0;", "l1,0;", "x1,0;", "z1,0;", "11,0;",
            " m1,0;", "m 1,0;", "m1 ,0;", "m1, 0;", "m1,0 ;", "m1.0;", "m1:0;", "m1/0;", "m1,0:", "m:,0;", "m/,0;",
            "\0", "m1,0\n", "m1,0" + (char) 187, (char) 237 + "1,0;", "m" + (char) 177 + ",0;"};
        for (String item : faulty) {
            faulty(item, 0);
        }
        faulty("m1,0; y1,0;", 5);
        faulty("m1,0;;", 5);
        faulty("m1,0;\0", 5);
    }

    private static void faultPlaces() {
        c.due("11: empty", Checks::empty, x -> x.fault(), NONE);
        faulty("m1,0;y41,0;", 5);
        faulty("m1,0;y40,0;o10000,0;", 11);
        faulty("m0,0;y41,0;", 0);
        faulty("m1,0;y41,0;m0,0;", 5);
        faulty("m1,0;y40,0", 5);
        fine(Checks.times(40, "n0,1;"));
        faulty(Checks.times(39, "n0,1;") + "n0,6;", 195);
        faulty(Checks.times(39, "n0,1;") + "n0,1", 195);
        faulty(Checks.times(38, "n0,1;") + "m1,14600;" + "m", 199);
        fine(Checks.times(38, "n0,1;") + "m01,14600;");
        c.same("11: asking changes nothing", Checks::rich, x -> x.fault());
    }

    /** What stood behind the end before is no part of THE TEXT, and nothing stands behind 200 bytes. */
    private static void faultBehindTheEnd() {
        Checks.State again = Checks.with(text("m1,0;y1,0;"), x -> x.wipe());
        c.due("11: no ;", Checks.with(again, text("m1,0")), x -> x.fault(), 0);
        c.due("11: no numbers", Checks.with(again, text("m")), x -> x.fault(), 0);
        c.due("11: no comma", Checks.with(again, text("m1")), x -> x.fault(), 0);
        c.due("11: no second item", Checks.with(again, text("m1,0;")), x -> x.force(), 1);
        c.due("11: empty again", again, x -> x.fault(), NONE);
        String most = Checks.times(39, "n0,1;");
        faulty(most + "m1,00", 195);
        faulty(most + "m1234", 195);
        faulty(most + "m123,", 195);
        faulty(most + "mmmmm", 195);
        faulty(Checks.times(200, "1"), 0);
    }

    // ---- promise 12

    private static void forceEmptyAndFull() {
        c.due("12: empty", Checks::empty, x -> x.force(), 0);
        c.due("12: one", text("n0,1;"), x -> x.force(), 1);
        c.due("12: forty", text(Checks.times(40, "n0,1;")), x -> x.force(), 40);
        DoorCodes x = Checks.made(text(Checks.times(39, "n0,1;") + "m5,0;"));
        x.force();
        c.due("12: the fortieth holds", x.rule(0, 0), 5);
        c.due("12: forty", x.count(3), 40);
        c.due("12: THE TEXT stays", x.count(2), 200);
        c.due("12: again", x.force(), 40);
        x.wipe();
        c.due("12: the empty one in force", x.force(), 0);
        c.due("12: without items", x.count(3), 0);
        c.due("12: without items", x.rule(0, 0), 100);
        c.due("12: without items", x.why(0, 0), NONE);
    }

    private static void forceRefused() {
        Checks.State then = Checks.with(Checks.ruled(Checks.chain(3), "m60,0;y2,5;o3,0;m61,0;s0,1;"), x -> x.wipe());
        c.refused("12: a fault at once", Checks.with(then, text("m0,0;")), x -> x.force(), NO);
        c.refused("12: a fault behind", Checks.with(then, text("m9,0;u1,2;y9,9;n0")), x -> x.force(), NO);
        c.refused("12: a fault of 200 bytes", Checks.with(then, text(Checks.times(200, "m"))), x -> x.force(), NO);
        c.refused("12: some of everything", Checks::rich, x -> x.force(), NO);
        c.changes("12: what is seen", Checks.with(then, text("m9,0;")), x -> x.force());
        DoorCodes x = Checks.made(Checks.with(then, text("m9,0;y9,9")));
        c.due("12: not yet", x.force(), NO);
        x.write(1, ';');
        c.due("12: now", x.force(), 2);
        c.due("12: now", x.rule(0, 0), 9);
    }

    // ---- promises 13 and 14

    private static void ruleNumbers() {
        Checks.State some = Checks.ruled(Checks::empty, "m5,0;y6,0;o7,0;");
        for (int what : new int[] {LOWEST, -1, 3, 4, HIGHEST}) {
            c.refused("13: what is " + what, some, x -> x.rule(what, 0), BAD);
            c.refused("14: what is " + what, some, x -> x.why(what, 0), BAD);
        }
        for (int day : Checks.BAD_DAYS) {
            for (int what = 0; what < 3; what++) {
                int w = what;
                c.due("13: day " + day, some, x -> x.rule(w, day), BAD);
                c.due("14: day " + day, some, x -> x.why(w, day), BAD);
                c.due("14: BAD ahead of NONE", Checks::empty, x -> x.why(w, day), BAD);
            }
        }
        for (int what = 0; what < 3; what++) {
            int w = what;
            for (int day : new int[] {0, 1, 14599, 14600}) {
                c.due("13: day " + day, some, x -> x.rule(w, day), 5 + w);
                c.due("14: day " + day, some, x -> x.why(w, day), w);
            }
        }
    }

    private static void ruleWithout() {
        int[] without = {100, 0, 0};
        for (int what = 0; what < 3; what++) {
            int w = what;
            for (int day : new int[] {0, 14600}) {
                c.due("13: without", Checks::empty, x -> x.rule(w, day), without[w]);
                c.due("14: without", Checks::empty, x -> x.why(w, day), NONE);
                Checks.State others = Checks.ruled(Checks::empty, "n1,1;s1,2;u3,4;");
                c.due("13: of other letters", others, x -> x.rule(w, day), without[w]);
                c.due("14: of other letters", others, x -> x.why(w, day), NONE);
            }
        }
    }

    private static void ruleFromDayOn() {
        String[] letters = {"m", "y", "o"};
        int[] least = {1, 0, 0};
        int[] greatest = {9999, 40, 9999};
        int[] without = {100, 0, 0};
        for (int what = 0; what < 3; what++) {
            int w = what;
            Checks.State last = Checks.ruled(Checks::empty, letters[w] + greatest[w] + ",14600;");
            c.due("13: from the last day on, ahead", last, x -> x.rule(w, 14599), without[w]);
            c.due("14: from the last day on, ahead", last, x -> x.why(w, 14599), NONE);
            c.due("13: from the last day on", last, x -> x.rule(w, 14600), greatest[w]);
            c.due("14: from the last day on", last, x -> x.why(w, 14600), 0);
            Checks.State first = Checks.ruled(Checks::empty, letters[w] + least[w] + ",0;");
            c.due("13: from the first day on", first, x -> x.rule(w, 0), least[w]);
            c.due("14: from the first day on", first, x -> x.why(w, 0), 0);
            c.due("13: from the first day on", first, x -> x.rule(w, 14600), least[w]);
            Checks.State two = Checks.ruled(Checks::empty, letters[w] + "8,50;" + letters[w] + "9,51;");
            c.due("13: the first of two", two, x -> x.rule(w, 50), 8);
            c.due("14: the first of two", two, x -> x.why(w, 50), 0);
            c.due("13: the other of two", two, x -> x.rule(w, 51), 9);
            c.due("14: the other of two", two, x -> x.why(w, 51), 1);
            c.due("14: neither of two", two, x -> x.why(w, 49), NONE);
        }
    }

    private static void ruleLast() {
        Checks.State down = Checks.ruled(Checks::empty, "m5,100;m6,50;");
        c.due("13: the last item, not the latest day", down, x -> x.rule(0, 100), 6);
        c.due("14: the last item, not the latest day", down, x -> x.why(0, 100), 1);
        c.due("13: neither", down, x -> x.rule(0, 49), 100);
        Checks.State same = Checks.ruled(Checks::empty, "o5,7;o6,7;");
        c.due("13: the last of one day", same, x -> x.rule(2, 7), 6);
        c.due("14: the last of one day", same, x -> x.why(2, 7), 1);
        c.due("14: equal items", Checks.ruled(Checks::empty, "y5,7;y5,7;y5,7;"), x -> x.why(1, 7), 2);
    }

    private static void whyNumbers() {
        String many = Checks.times(39, "n0,1;") + "y3,0;";
        c.due("14: the greatest number", Checks.ruled(Checks::empty, many), x -> x.why(1, 0), 39);
        String between = "n0,1;o1,0;s0,1;o2,1;u0,1;m3,0;";
        c.due("14: all letters count", Checks.ruled(Checks::empty, between), x -> x.why(2, 0), 1);
        c.due("14: all letters count", Checks.ruled(Checks::empty, between), x -> x.why(2, 1), 3);
        c.due("14: all letters count", Checks.ruled(Checks::empty, between), x -> x.why(0, 1), 5);
        Checks.State other = Checks.with(Checks.ruled(Checks::empty, between), text("y1,0;"));
        c.due("14: in force, not THE TEXT", other, x -> x.why(1, 0), NONE);
        c.due("13: in force, not THE TEXT", other, x -> x.rule(1, 0), 0);
    }

    // ---- promise 15

    private static void quarrel(String text, int want) {
        c.due("15: " + text, Checks.ruled(Checks::empty, text), x -> x.quarrel(), want);
    }

    private static void quarrelOfOneLetter() {
        quarrel("", NONE);
        for (String letter : new String[] {"m", "y", "o"}) {
            quarrel(letter + "5,7;", NONE);
            quarrel(letter + "5,7;" + letter + "6,7;", 1);
            quarrel(letter + "6,7;" + letter + "5,7;", 1);
            quarrel(letter + "5,7;" + letter + "5,7;", NONE);
            quarrel(letter + "5,7;" + letter + "05,07;", NONE);
            quarrel(letter + "5,7;" + letter + "6,8;", NONE);
            quarrel(letter + "5,8;" + letter + "6,7;", NONE);
            quarrel(letter + "5,0;" + letter + "6,0;", 1);
            quarrel(letter + "5,14600;" + letter + "6,14600;", 1);
        }
        quarrel("m5,7;y6,7;o4,7;", NONE);
        quarrel("m5,7;o6,7;", NONE);
        quarrel("n0,1;n2,1;", NONE);
        quarrel("s0,1;s2,1;", NONE);
        quarrel("u0,1;u2,1;", NONE);
        quarrel("s0,1;s1,0;", NONE);
        quarrel("u0,1;u1,0;", NONE);
    }

    private static void quarrelOfSides() {
        quarrel("s0,1;u0,1;", 1);
        quarrel("s0,1;u1,0;", 1);
        quarrel("u0,1;s0,1;", 1);
        quarrel("u1,0;s0,1;", 1);
        quarrel("s7,8;u8,7;", 1);
        quarrel("s0,1;u0,2;", NONE);
        quarrel("s0,1;u2,1;", NONE);
        quarrel("s0,1;u2,3;", NONE);
        quarrel("n0,1;s0,1;", NONE);
        quarrel("u0,1;n0,1;", NONE);
        quarrel("s0,1;n0,1;", NONE);
        quarrel("n0,1;u0,1;", NONE);
        quarrel("m1,0;s1,0;", NONE);
        quarrel("s1,0;m1,0;", NONE);
        quarrel("m1,0;u1,0;", NONE);
        quarrel("u1,0;m1,0;", NONE);
    }

    private static void quarrelFirst() {
        quarrel("m5,0;y1,0;y2,0;m6,0;", 3);
        quarrel("n0,0;m5,0;m6,0;m7,0;", 102);
        quarrel("m5,0;m5,0;m6,0;", 2);
        quarrel("s0,1;m5,0;m6,0;u0,1;", 3);
        quarrel("s0,1;u2,3;s3,2;u1,0;", 3);
        quarrel("o1,1;u2,3;s3,2;o1,2;", 102);
        quarrel(Checks.times(38, "n0,1;") + "m5,0;m6,0;", 3839);
        quarrel("m5,0;" + Checks.times(38, "n0,1;") + "m6,0;", 39);
        quarrel(Checks.times(9, "n0,1;") + "m5,0;m6,0;", 910);
        quarrel(Checks.times(10, "n0,1;") + "m5,0;m6,0;", 1011);
    }

    private static void quarrelInForce() {
        Checks.State forced = Checks.ruled(Checks::empty, "m5,0;m6,0;");
        c.due("15: THE TEXT is wiped", Checks.with(forced, x -> x.wipe()), x -> x.quarrel(), 1);
        c.due("15: THE TEXT has a fault", Checks.with(forced, text("?")), x -> x.quarrel(), 1);
        c.due("15: not in force yet", text("m5,0;m6,0;"), x -> x.quarrel(), NONE);
        c.due("15: both hold on, the last is first", forced, x -> x.rule(0, 0), 6);
        c.same("15: asking changes nothing", Checks::rich, x -> x.quarrel());
    }
}
