/** At least one case for each promise: ordinary numbers, the edges, wrong numbers. */
public final class PromisesTest {
    private static final int BAD = -1, NO = -2, FULL = -3, NONE = -4;
    private static final int ASK_BAD = -1000000, ASK_NO = -1000002, ASK_NONE = -100000;
    private static int wrong = 0;

    private static void due(String call, int got, int want) {
        if (got != want) {
            wrong++;
            System.out.println(call + " answered " + got + ", due is " + want);
        }
    }

    private static void write(DoorCodes x, String text) {
        for (int i = 0; i < text.length(); i++) {
            x.write(1, text.charAt(i));
        }
    }

    private static int fault(String text) {
        DoorCodes x = new DoorCodes();
        write(x, text);
        return x.fault();
    }

    private static void force(DoorCodes x, String text) {
        x.wipe();
        write(x, text);
        if (x.force() < 0) {
            wrong++;
            System.out.println("a fault in " + text);
        }
    }

    /** So many sides in a chain, each of 30 doors, 10 long, 1 letter a door, 5 steps apart. */
    private static DoorCodes chain(int sides) {
        DoorCodes x = new DoorCodes();
        for (int i = 0; i < sides; i++) {
            x.side(30, 0, 10, 1);
            if (i > 0) {
                x.link(i - 1, i, 5);
            }
        }
        return x;
    }

    public static void main(String[] args) {
        promise1();
        promise2();
        promise3();
        promise4();
        promises5and6();
        promise7();
        promise8();
        promise9and10();
        promises11and12();
        promises13and14();
        promise15();
        promises16and17();
        promise18();
        promise19();
        promise20();
        promise21();
        promises22and23();
        promise24();
        promise25();
        promise26();
        promise27();
        promises28and29();
        promise30();
        promises31and32();
        promise33();
        noCallThrows();
        System.out.println(wrong == 0 ? "all promises hold" : wrong + " answers are not as due");
        if (wrong != 0) {
            System.exit(1);
        }
    }

    private static void promise1() {
        DoorCodes x = new DoorCodes();
        for (int what = 0; what <= 7; what++) {
            due("1: count(" + what + ")", x.count(what), 0);
        }
        due("1: count(8)", x.count(8), -1);
        due("1: fault of the empty text", x.fault(), NONE);
        due("1: m", x.rule(0, 0), 100);
        due("1: y", x.rule(1, 0), 0);
        due("1: o", x.rule(2, 14600), 0);
        due("1: why", x.why(0, 0), NONE);
        due("1: force of the empty text", x.force(), 0);
        due("1: read as itself", x.read(35, 35), 10000);
        due("1: BAD", DoorCodes.BAD, BAD);
        due("1: NO", DoorCodes.NO, NO);
        due("1: FULL", DoorCodes.FULL, FULL);
        due("1: NONE", DoorCodes.NONE, NONE);
    }

    private static void promise2() {
        DoorCodes x = new DoorCodes();
        int[][] bad = {{0, 0, 1, 1}, {201, 0, 1, 1}, {1, -1, 1, 1}, {1, 21, 1, 1},
            {1, 0, 0, 1}, {1, 0, 501, 1}, {1, 0, 1, 0}, {1, 0, 1, 51},
            {Integer.MIN_VALUE, 0, 1, 1}, {1, 0, Integer.MAX_VALUE, 1}};
        for (int[] b : bad) {
            due("2: a bad number", x.side(b[0], b[1], b[2], b[3]), BAD);
        }
        due("2: nothing came of it", x.count(0), 0);
        due("2: the least", x.side(1, 0, 1, 1), 0);
        due("2: the greatest", x.side(200, 20, 500, 50), 1);
        for (int i = 2; i < 9; i++) {
            due("2: side " + i, x.side(1, 0, 1, 1), i);
        }
        due("2: a tenth", x.side(1, 0, 1, 1), FULL);
        due("2: BAD ahead of FULL", x.side(0, 0, 1, 1), BAD);
        DoorCodes y = chain(9);
        y.give(0, 2);
        due("2: NO ahead of FULL", y.side(1, 0, 1, 1), NO);
        due("2: BAD ahead of NO", y.side(1, 0, 1, 51), BAD);
    }

    private static void promise3() {
        DoorCodes x = new DoorCodes();
        due("3: no sides", x.link(0, 1, 5), BAD);
        x.side(10, 0, 1, 1);
        x.side(10, 0, 1, 1);
        due("3: itself", x.link(1, 1, 5), BAD);
        due("3: below", x.link(-1, 1, 5), BAD);
        due("3: not there", x.link(0, 2, 5), BAD);
        due("3: walk below 0", x.link(0, 1, -1), BAD);
        due("3: walk above", x.link(0, 1, 501), BAD);
        due("3: new", x.link(0, 1, 500), 0);
        due("3: the other way about", x.link(1, 0, 1), 500);
        due("3: one link", x.count(1), 1);
        due("3: used at once", x.walk(3), 3);
        due("3: taken away", x.link(0, 1, 0), 1);
        due("3: no link", x.count(1), 0);
        due("3: not walked", x.walk(3), NONE);
        x.give(0, 2);
        due("3: codes are given", x.link(0, 1, 5), NO);
        due("3: BAD ahead of NO", x.link(0, 0, 5), BAD);
    }

    private static void promise4() {
        DoorCodes x = new DoorCodes();
        x.side(200, 20, 1, 1);
        due("4: day 0", x.doors(0, 0), 200);
        due("4: day 364", x.doors(0, 364), 200);
        due("4: day 365", x.doors(0, 365), 220);
        due("4: the last day", x.doors(0, 14600), 1000);
        due("4: day 14599", x.doors(0, 14599), 980);
        due("4: behind it", x.doors(0, 14601), BAD);
        due("4: day below", x.doors(0, -1), BAD);
        due("4: side below", x.doors(-1, 0), BAD);
        due("4: side not there", x.doors(1, 0), BAD);
    }

    private static void promises5and6() {
        DoorCodes x = new DoorCodes();
        due("5: no sides", x.walk(1), BAD);
        for (int i = 0; i < 4; i++) {
            x.side(1, 0, 10 * (i + 1), 1);
        }
        x.link(0, 1, 50);
        x.link(0, 2, 1);
        x.link(1, 2, 1);
        x.link(2, 3, 1);
        due("5: alone", x.walk(8), 40);
        due("5: by the middle", x.walk(7), 62);
        due("5: not by a link only once used", x.walk(15), 10 + 20 + 30 + 40 + 50 + 1 + 1);
        due("5: none", x.walk(9), NONE);
        due("5: empty", x.walk(0), BAD);
        due("5: below", x.walk(-1), BAD);
        due("5: not there", x.walk(16), BAD);
        int[] first = {0, 2, 1};
        for (int i = 0; i < 3; i++) {
            due("6: row(7, " + i + ")", x.row(7, i), first[i]);
        }
        int[] all = {0, 1, 2, 3};
        for (int i = 0; i < 4; i++) {
            due("6: row(15, " + i + ")", x.row(15, i), all[i]);
        }
        due("6: behind the end", x.row(7, 3), NONE);
        due("6: far behind", x.row(7, Integer.MAX_VALUE), NONE);
        due("6: no walk", x.row(9, 0), NONE);
        due("6: below", x.row(7, -1), BAD);
        due("6: empty", x.row(0, 0), BAD);
        due("6: not there", x.row(16, 0), BAD);
        DoorCodes y = new DoorCodes();
        for (int i = 0; i < 9; i++) {
            y.side(1, 0, 500, 1);
        }
        for (int a = 0; a < 9; a++) {
            for (int b = a + 1; b < 9; b++) {
                y.link(a, b, 500);
            }
        }
        due("5: the longest", y.walk(511), 8500);
        due("6: of equal ones the lower", y.row(511, 4), 4);
        due("6: of equal ones the lower", y.row(0b101010101, 3), 6);
    }

    private static void promise7() {
        DoorCodes x = chain(4);
        due("7: 90 doors", x.right(7, 0), 1);
        due("7: 120 doors", x.right(15, 0), 0);
        due("7: not walked", x.right(5, 0), 0);
        due("7: empty", x.right(0, 0), BAD);
        due("7: not there", x.right(16, 0), BAD);
        due("7: day", x.right(1, 14601), BAD);
        due("7: day below", x.right(1, -1), BAD);
        force(x, "m90,0;m89,10;s0,1;u2,3;");
        due("7: just m", x.right(14, 0), 1);
        due("7: one above", x.right(14, 10), 0);
        due("7: s", x.right(3, 0), 0);
        due("7: one of s", x.right(1, 0), 1);
        due("7: half of u", x.right(4, 0), 0);
        due("7: both of u", x.right(12, 0), 1);
        DoorCodes y = new DoorCodes();
        y.side(60, 1, 1, 1);
        force(y, "y40,0;");
        due("7: 40 years on", y.right(1, 0), 1);
        due("7: a year later", y.right(1, 365), 0);
        force(y, "y40,14600;m139,0;m1,10;m140,14600;");
        due("7: m of the day asked from", y.right(1, 14600), 1);
        force(y, "y40,14600;m139,14600;");
        due("7: doors behind the last day", y.right(1, 14600), 0);
    }

    private static void promise8() {
        DoorCodes x = chain(4);
        due("8: how many", x.shaped(0, -1), 2);
        due("8: walks", x.shaped(0, -2), 50);
        due("8: least bits", x.shaped(0, 0), 1);
        due("8: the rest", x.shaped(0, 1), 14);
        due("8: no more", x.shaped(0, 2), NONE);
        due("8: far", x.shaped(0, Integer.MAX_VALUE), NONE);
        due("8: no bar", x.shaped(0, -3), NONE);
        due("8: i", x.shaped(0, -4), BAD);
        due("8: day", x.shaped(-1, 0), BAD);
        due("8: day", x.shaped(14601, -3), BAD);
        x.link(2, 3, 7);
        due("8: a link is seen", x.shaped(0, 0), 7);
        due("8: its walk", x.shaped(0, -2), 40 + 10);
        force(x, "s0,1;");
        due("8: rules are seen", x.shaped(0, 0), 1);
        force(x, "u0,3;");
        due("8: not shaped", x.shaped(0, -1), NONE);
        due("8: not shaped", x.shaped(0, -2), NONE);
        due("8: not shaped", x.shaped(0, 0), NONE);
        due("8: the bar", x.shaped(0, -3), 0);
        DoorCodes y = new DoorCodes();
        due("8: without sides", y.shaped(0, -1), NONE);
        due("8: without sides", y.shaped(0, -3), NONE);
        y.side(100, 0, 1, 1);
        y.side(100, 1, 1, 1);
        due("8: the bar is the second", y.shaped(365, -3), 1);
        due("8: the day before", y.shaped(364, -1), 2);
        DoorCodes z = chain(3);
        force(z, "m60,0;u0,1;u1,2;m200,5;");
        due("8: each in one, later", z.shaped(5, 0), 7);
        due("8: bar", z.shaped(0, -3), 0);
        DoorCodes w = chain(3);
        w.link(0, 2, 5);
        // Each pair is right, and none alone.
        force(w, "m60,0;s0,1;u0,2;");
        due("8: side 1 alone", w.shaped(0, 1), 2);
    }

    private static void promise9and10() {
        DoorCodes x = new DoorCodes();
        due("9: no bytes", x.write(0, 1), BAD);
        due("9: nine bytes", x.write(9, 1), BAD);
        due("9: below", x.write(-1, 1), BAD);
        due("9: highest first", x.write(6, 0x6d31322c333bL), 6);
        x.force();
        due("9: m12,3;", x.rule(0, 3), 12);
        due("10: was", x.wipe(), 6);
        due("10: empty", x.wipe(), 0);
        due("9: only the lowest bytes", x.write(5, 0x7f006d382c303bL), 5);
        due("9: m8,0;", x.force(), 1);
        due("9: m8,0;", x.rule(0, 0), 8);
        due("10: in force stays", x.wipe(), 5);
        due("10: in force stays", x.rule(0, 0), 8);
        for (int i = 1; i <= 25; i++) {
            due("9: so long", x.write(8, -1L), 8 * i);
        }
        due("9: one too many", x.write(1, 0), FULL);
        due("9: BAD ahead of FULL", x.write(0, 0), BAD);
        due("9: still", x.count(2), 200);
        x.wipe();
        for (int i = 0; i < 24; i++) {
            x.write(8, 0);
        }
        x.write(1, 0);
        due("9: 193 and 8", x.write(8, 0), FULL);
        due("9: 193 and 7", x.write(7, 0), 200);
    }

    private static void promises11and12() {
        String[] fine = {"", "m1,0;", "m9999,14600;", "y0,0;", "y40,0;", "o0,0;", "o9999,0;", "n0,0;",
            "n5,5;", "n0,5;", "s0,8;", "u8,0;", "m00001,00000;", "o09999,0;y5,1;"};
        for (String text : fine) {
            due("11: " + text, fault(text), NONE);
        }
        String[] faulty = {"m0,0;", "m10000,0;", "m1,14601;", "m1,0", "m1,0,", "m1;", "m;", "m", ";",
            "m1,;", "m,1;", "y41,0;", "y0,14601;", "o10000,0;", "o0,14601;", "n6,0;", "n0,6;", "s9,0;",
            "s0,9;", "s1,1;", "u9,0;", "u0,9;", "u2,2;", "x1,1;", "M1,1;", " m1,1;", "m 1,1;", "m1 ,1;",
            "m1,1 ;", "m000001,0;", "m1,000000;", "m-1,0;", "m1,0,0;", "1,0;", "mm1,0;", "m1,0;;",
            "m1,,0;", "m1;0;", "s0,10;", "n10,0;"};
        for (String text : faulty) {
            due("11: " + text, fault(text), text.equals("m1,0;;") ? 5 : 0);
        }
        due("11: behind a good one", fault("m1,0;y41,0;z"), 5);
        due("11: behind two", fault("m1,0;y40,0;z"), 11);
        due("11: a byte above 127", fault("m1,0;" + (char) 237 + "1,0;"), 5);
        DoorCodes x = new DoorCodes();
        write(x, "m7,0;y3,0;");
        due("12: two items", x.force(), 2);
        write(x, "?");
        due("12: a fault", x.force(), NO);
        due("12: as it was", x.count(3), 2);
        due("12: as it was", x.rule(0, 0), 7);
        due("11: asking changes nothing", x.fault(), 10);
        due("11: asking changes nothing", x.count(3), 2);
        x.wipe();
        write(x, "m0,0;");
        due("12: a fault at once", x.force(), NO);
        due("12: as it was", x.rule(1, 0), 3);
        StringBuilder many = new StringBuilder();
        for (int i = 0; i < 40; i++) {
            many.append("n0,1;");
        }
        DoorCodes y = new DoorCodes();
        write(y, many.toString());
        due("12: forty items", y.force(), 40);
        y.wipe();
        due("12: empty again", y.force(), 0);
    }

    private static void promises13and14() {
        DoorCodes x = new DoorCodes();
        force(x, "m5,100;m6,50;y7,10;o8,0;o9,14600;");
        due("13: before", x.rule(0, 49), 100);
        due("14: before", x.why(0, 49), NONE);
        due("13: on the day", x.rule(0, 50), 6);
        due("13: the last item, not the latest day", x.rule(0, 200), 6);
        due("14: its number", x.why(0, 200), 1);
        due("13: y", x.rule(1, 9), 0);
        due("13: y", x.rule(1, 10), 7);
        due("14: y", x.why(1, 10), 2);
        due("13: o", x.rule(2, 14599), 8);
        due("14: o", x.why(2, 14600), 4);
        due("14: the first item", x.why(0, 100), 1);
        force(x, "y3,7;");
        due("14: the first item", x.why(1, 7), 0);
        due("14: the day before", x.why(1, 6), NONE);
        int[][] bad = {{-1, 0}, {3, 0}, {0, -1}, {0, 14601}};
        for (int[] b : bad) {
            due("13: bad", x.rule(b[0], b[1]), BAD);
            due("14: bad", x.why(b[0], b[1]), BAD);
        }
    }

    private static int quarrelOf(String text) {
        DoorCodes x = new DoorCodes();
        force(x, text);
        return x.quarrel();
    }

    private static void promise15() {
        due("15: none", quarrelOf(""), NONE);
        due("15: same N", quarrelOf("m5,0;m5,0;"), NONE);
        due("15: another day", quarrelOf("m5,0;m6,1;"), NONE);
        due("15: another letter", quarrelOf("o5,0;y6,0;"), NONE);
        due("15: m", quarrelOf("m5,0;m6,0;"), 1);
        due("15: y", quarrelOf("n0,0;y5,0;m1,1;y6,0;"), 103);
        due("15: o", quarrelOf("o5,0;o5,0;o6,0;"), 2);
        due("15: the lesser first", quarrelOf("m5,0;s0,1;u1,0;m6,0;"), 3);
        due("15: s and u", quarrelOf("s0,1;u0,2;u1,0;"), 2);
        due("15: u and s", quarrelOf("n0,1;u3,4;s3,4;"), 102);
        due("15: n and n", quarrelOf("n0,1;n1,0;s0,1;s1,0;u2,3;u2,3;"), NONE);
        due("15: n and s", quarrelOf("n0,1;s0,1;"), NONE);
        due("15: s and n", quarrelOf("s0,1;n0,1;"), NONE);
        due("15: n and u", quarrelOf("n0,1;u0,1;"), NONE);
        due("15: u and n", quarrelOf("u0,1;n0,1;"), NONE);
        due("15: the last pair", quarrelOf("n0,1;n0,1;n0,1;o1,1;o2,1;"), 304);
        DoorCodes x = new DoorCodes();
        force(x, "m5,0;m6,0;");
        x.wipe();
        due("15: in force", x.quarrel(), 1);
        write(x, "u0,1;");
        due("15: in force, not THE TEXT", x.quarrel(), 1);
    }

    private static void promises16and17() {
        DoorCodes x = new DoorCodes();
        int[][] bad = {{0, 0, 1}, {-1, 0, 1}, {6, 0, 1}, {0, -1, 1}, {0, 6, 1}, {0, 1, -1}, {0, 1, 100}};
        for (int[] b : bad) {
            due("16: bad", x.misread(b[0], b[1], b[2]), BAD);
        }
        due("16: first", x.misread(0, 1, 99), 0);
        due("16: just 100", x.misread(0, 2, 1), 0);
        due("16: above", x.misread(0, 3, 1), NO);
        due("16: above by itself", x.misread(0, 2, 2), NO);
        due("16: as it was", x.misread(0, 2, 1), 1);
        due("16: less", x.misread(0, 1, 40), 99);
        due("16: to nothing", x.misread(5, 0, 7), 0);
        due("16: to nothing", x.misread(5, 0, 0), 7);
        due("16: is nothing", x.misread(5, 0, 0), 0);
        due("17: itself", x.read(0, 0), 59 * 59);
        due("17: half", x.read(0, 6), 40 * 59);
        due("17: first and second", x.read(1, 13), 100);
        due("17: not the other way", x.read(7, 0), 0);
        due("17: the last", x.read(35, 35), 10000);
        int[][] badWords = {{-1, 0}, {36, 0}, {0, -1}, {0, 36}};
        for (int[] b : badWords) {
            due("17: bad", x.read(b[0], b[1]), BAD);
        }
    }

    private static void promise18() {
        DoorCodes x = chain(4);
        due("18: no harm", x.words(0, 2, -1), 0);
        due("18: lower first", x.words(0, 2, 0), 0);
        due("18: lower first", x.words(0, 2, 1), 1);
        due("18: not so many", x.words(0, 2, 2), NONE);
        due("18: i", x.words(0, 2, -2), BAD);
        due("18: l", x.words(0, 1, -1), BAD);
        due("18: l", x.words(0, 5, -1), BAD);
        due("18: day", x.words(-1, 2, -1), BAD);
        due("18: day", x.words(14601, 2, -1), BAD);
        x.misread(0, 1, 10);
        due("18: harm moves it", x.words(0, 2, 1), 6);
        due("18: least harm", x.words(0, 2, -1), 0);
        due("18: least harm", x.words(0, 2, 0), 1);
        force(x, "n1,0;n0,0;");
        due("18: one word left", x.words(0, 2, -1), NONE);
        due("18: a letter more", x.words(0, 3, -1), 0);
        due("18: 02", x.words(0, 3, 0), 2);
        force(x, "n1,0;");
        due("18: linked, so three times", x.words(0, 2, -1), 3 * 100);
        x.link(0, 1, 0);
        x.link(1, 2, 0);
        force(x, "n1,0;m60,0;s2,3;");
        due("18: four codes and two words", x.words(0, 2, 0), NONE);
        force(x, "m1,0;");
        due("18: not shaped", x.words(0, 2, -1), NO);
        due("18: BAD ahead of NO", x.words(0, 2, -2), BAD);
        due("18: NO ahead of NONE", x.words(0, 2, 9), NO);
        DoorCodes y = new DoorCodes();
        due("18: no sides", y.words(0, 2, -1), NO);
        for (int i = 0; i < 4; i++) {
            y.side(10, 0, 1, 1);
        }
        due("18: four", y.words(0, 2, 3), 7);
        y.misread(0, 1, 10);
        due("18: once, not linked", y.words(0, 2, -1), 2 * 900 + 2 * 1000 + 100);
        y.link(3, 0, 1);
        force(y, "s0,3;");
        // 01 and 10 are never read as each other, so they go to the linked ones.
        due("18: as much harm", y.words(0, 2, -1), 3900);
        int[] linked = {1, 0, 7, 6};
        for (int i = 0; i < 4; i++) {
            due("18: the word of shape " + i, y.words(0, 2, i), linked[i]);
        }
        y.side(10, 0, 1, 1);
        due("18: five", y.words(0, 4, 0), NO);
    }

    private static void promise19() {
        DoorCodes x = new DoorCodes();
        x.side(10, 0, 1, 1);
        x.side(10, 0, 1, 1);
        x.side(10, 0, 1, 1);
        due("19: no codes", x.who(0, -1), 0);
        due("19: no codes", x.who(0, 0), NONE);
        force(x, "n0,0;");
        x.give(0, 2);
        // The codes are 01, 10 and 11.
        x.misread(0, 1, 50);
        due("19: all", x.who(7, -1), 3);
        due("19: the greatest", x.who(7, 0), 7);
        due("19: the lower", x.who(7, 1), 1);
        due("19: the other", x.who(7, 2), 6);
        due("19: no more", x.who(7, 3), NONE);
        due("19: only one", x.who(6, -1), 1);
        due("19: itself", x.who(6, 0), 6);
        due("19: none by 0", x.who(0, -1), 0);
        force(x, "");
        x.give(0, 2);
        // Now they are words 0, 1 and 6.
        due("19: word 0 too", x.who(7, -1), 3);
        due("19: word 0 last", x.who(7, 2), 0);
        x.misread(1, 0, 50);
        due("19: of three alike the lowest", x.who(7, 0), 0);
        due("19: of three alike the lowest", x.who(7, 2), 6);
        x.misread(0, 1, 1);
        x.misread(1, 0, 99);
        due("19: by 1 of 10000", x.who(7, -1), 3);
        due("19: by 1 of 10000", x.who(7, 1), 1);
        due("19: i", x.who(0, -2), BAD);
        due("19: word", x.who(-1, 0), BAD);
        due("19: word", x.who(36, -1), BAD);
    }

    private static void promise20() {
        DoorCodes x = chain(4);
        due("20: day", x.give(-1, 2), BAD);
        due("20: day", x.give(14601, 2), BAD);
        due("20: l", x.give(0, 1), BAD);
        due("20: l", x.give(0, 5), BAD);
        force(x, "n0,0;n0,1;");
        due("20: too few words", x.give(5, 2), FULL);
        due("20: nothing was given", x.count(8), -1);
        due("20: so sides may come", x.link(0, 1, 5), 5);
        force(x, "o10,0;o20,6;");
        due("20: given", x.give(5, 2), 2);
        due("20: side 0", x.code(0, 0), 0);
        due("20: the others", x.code(1, 1), 14);
        due("20: ahead", x.give(4, 2), NO);
        due("20: BAD first", x.give(4, 5), BAD);
        force(x, "o10,0;o20,6;n0,0;");
        due("20: again", x.give(5, 2), 2);
        due("20: another word", x.code(0, 0), 1);
        due("20: another word", x.code(1, 0), 6);
        due("20: led by the old", x.lead(0, 15), 1);
        due("20: not longer", x.lead(0, 16), NONE);
        due("20: both", x.lead(1, 15), 15);
        due("20: only who has it", x.lead(1, 16), 1);
        force(x, "m1,0;");
        due("20: not shaped", x.give(6, 2), NO);
        due("20: the day stays", x.count(8), 5);
        DoorCodes y = new DoorCodes();
        due("20: no sides", y.give(0, 2), NO);
        for (int i = 0; i < 5; i++) {
            y.side(10, 0, 1, 1);
        }
        due("20: five", y.give(0, 4), NO);
    }

    private static void promise21() {
        DoorCodes x = chain(4);
        due("21: no codes", x.split(0, 0), NO);
        due("21: side", x.split(4, 0), BAD);
        due("21: side", x.split(-1, 0), BAD);
        due("21: day", x.split(0, -1), BAD);
        due("21: day", x.split(0, 14601), BAD);
        force(x, "m200,0;o3,0;");
        x.give(7, 2);
        due("21: ahead", x.split(0, 6), NO);
        due("21: halves", x.split(3, 7), 1);
        due("21: the lower keeps", x.code(0, 1), 3);
        due("21: the upper", x.code(2, 1), 12);
        due("21: the old leads to it", x.lead(0, 10), 15);
        due("21: no more", x.lead(0, 11), 3);
        due("21: the next word", x.split(0, 8), 2);
        due("21: alone", x.split(0, 8), NO);
        force(x, "u2,3;");
        due("21: never apart", x.split(2, 9), NO);
        force(x, "n0,3;");
        due("21: by n", x.split(2, 9), 4);
        due("21: the latest day", x.count(8), 9);
        DoorCodes y = new DoorCodes();
        y.side(50, 0, 100, 1);
        y.side(20, 10, 10, 1);
        y.side(30, 0, 10, 1);
        y.link(0, 1, 1);
        y.link(0, 2, 1);
        y.link(1, 2, 5);
        force(y, "m999,0;");
        y.give(0, 2);
        due("21: by doors", y.split(2, 0), 1);
        due("21: by doors", y.code(0, 1), 1);
        DoorCodes t = new DoorCodes();
        for (int i = 0; i < 4; i++) {
            t.side(10, 0, 1, 1);
        }
        t.link(0, 1, 3);
        t.link(2, 3, 3);
        t.link(1, 3, 1);
        t.link(0, 2, 1);
        t.give(0, 2);
        due("21: by walks", t.split(1, 0), 1);
        due("21: by walks", t.code(0, 1), 5);
        DoorCodes v = new DoorCodes();
        for (int i = 0; i < 4; i++) {
            v.side(10, 0, 1, 1);
            for (int j = 0; j < i; j++) {
                v.link(i, j, 3);
            }
        }
        v.give(0, 2);
        due("21: by bits", v.split(1, 0), 1);
        due("21: by bits", v.code(0, 1), 3);
        DoorCodes w = new DoorCodes();
        w.side(10, 0, 1, 1);
        w.side(10, 0, 1, 1);
        w.side(11, 0, 1, 1);
        w.link(0, 1, 1);
        w.link(1, 2, 400);
        w.link(0, 2, 500);
        w.give(0, 2);
        due("21: doors ahead of walks", w.split(0, 0), 1);
        due("21: doors ahead of walks", w.code(0, 1), 3);
        w = new DoorCodes();
        w.side(10, 0, 1, 1);
        w.side(10, 0, 1, 1);
        w.side(12, 0, 1, 1);
        w.link(0, 1, 500);
        w.link(1, 2, 1);
        w.link(0, 2, 1);
        w.give(0, 2);
        due("21: doors far ahead of walks", w.split(0, 0), 1);
        due("21: doors far ahead of walks", w.code(0, 1), 3);
        v.pass(0, 2, 0);
        v.pass(1, 2, 0);
        due("21: word 0 leads on that day", v.split(1, 0), 2);
        v.pass(2, 0, 1);
        v.pass(3, 0, 1);
        due("21: word 0 is free a day later", v.split(1, 2), 0);
        DoorCodes z = chain(2);
        StringBuilder all = new StringBuilder();
        for (int a = 0; a < 6; a++) {
            for (int b = a; b < 6; b++) {
                all.append('n').append(a).append(',').append(b).append(';');
            }
        }
        z.give(0, 2);
        force(z, all.toString());
        due("21: no word", z.split(0, 0), FULL);
        due("21: nothing changes", z.code(1, 1), 3);
        due("21: nothing changes", z.count(4), 1);
        force(z, "u0,1;");
        due("21: NO ahead of FULL", z.split(0, 0), NO);
    }

    private static void promises22and23() {
        DoorCodes x = chain(5);
        due("22: no codes", x.ask(0, 1, 0), ASK_NO);
        due("23: no codes", x.pass(0, 1, 0), NO);
        force(x, "o2,0;");
        // {0, 1} and {2, 3, 4} by least bits.
        x.give(3, 2);
        int[][] bad = {{-1, 0, 3}, {5, 0, 3}, {0, -1, 3}, {0, 5, 3}, {0, 2, -1}, {0, 2, 14601}};
        for (int[] b : bad) {
            due("22: bad", x.ask(b[0], b[1], b[2]), ASK_BAD);
            due("23: bad", x.pass(b[0], b[1], b[2]), BAD);
        }
        due("22: ahead", x.ask(2, 1, 2), ASK_NO);
        due("23: ahead", x.pass(2, 1, 2), NO);
        due("22: the same code", x.ask(0, 1, 3), ASK_NO);
        due("22: itself", x.ask(0, 0, 3), ASK_NO);
        due("23: the same code", x.pass(3, 4, 3), NO);
        due("22: not walked", x.ask(4, 0, 3), ASK_NONE);
        due("23: not walked", x.pass(4, 0, 3), NO);
        due("22: too full", x.ask(1, 2, 3), ASK_NONE);
        due("22: it may be", x.ask(2, 0, 9), 0);
        due("22: asking is no act", x.count(8), 3);
        due("23: passed", x.pass(2, 0, 9), 0);
        due("23: an act", x.count(8), 9);
        due("23: there", x.code(2, 1), 7);
        due("23: what is left", x.code(4, 1), 24);
        due("23: led", x.lead(1, 11), 31);
        due("23: no more", x.lead(1, 12), 24);
        DoorCodes y = chain(2);
        force(y, "s0,1;");
        y.give(0, 2);
        due("22: by s", y.ask(0, 1, 0), ASK_NONE);
        force(y, "o5,0;");
        due("22: nothing is left", y.ask(0, 1, 0), 5);
        due("23: nothing is left", y.pass(0, 1, 0), 1);
        due("23: one code", y.count(4), 1);
        due("23: the old word leads on", y.lead(0, 5), 3);
        DoorCodes z = new DoorCodes();
        z.side(50, 0, 10, 1);
        z.side(50, 0, 10, 1);
        z.side(50, 0, 10, 1);
        z.link(0, 1, 90);
        z.link(1, 2, 10);
        force(z, "s1,2;");
        z.give(0, 2);
        force(z, "");
        due("22: below 0", z.ask(1, 2, 0), 40 - 120);
    }

    private static void promise24() {
        DoorCodes x = chain(4);
        due("24: none", x.code(0, 0), NONE);
        due("24: none", x.code(0, 1), NONE);
        due("24: side", x.code(4, 0), BAD);
        due("24: side", x.code(-1, 0), BAD);
        due("24: what", x.code(0, 2), BAD);
        due("24: what", x.code(0, -1), BAD);
        x.give(0, 2);
        due("24: word", x.code(3, 0), 1);
        due("24: sides", x.code(3, 1), 14);
    }

    private static void promise25() {
        DoorCodes x = chain(4);
        due("25: no codes", x.lead(0, 0), NONE);
        due("25: word", x.lead(-1, 0), BAD);
        due("25: word", x.lead(36, 0), BAD);
        due("25: day", x.lead(0, -1), BAD);
        due("25: day", x.lead(0, 14601), BAD);
        force(x, "m200,0;o100,0;o0,10;");
        x.give(0, 2);
        due("25: has it", x.lead(0, 14600), 15);
        x.split(0, 0);
        // 2 and 3 were 0 until day 0 and are led to until day 100.
        x.pass(2, 1, 5);
        due("25: whole codes", x.lead(1, 5), 15);
        due("25: side 3 alone is led to by 0", x.lead(0, 5), 15);
        due("25: back once more", x.pass(2, 3, 10), 1);
        due("25: longer yet", x.lead(0, 100), 15);
        due("25: no longer", x.lead(0, 101), 3);
        due("25: ahead", x.lead(0, 9), NO);
        due("25: BAD first", x.lead(36, 9), BAD);
        due("25: no code", x.lead(2, 10), NONE);
    }

    private static void promise26() {
        DoorCodes x = new DoorCodes();
        int[] mails = {3, 3, 2, 2, 2};
        for (int mail : mails) {
            x.side(1, 1, 1, mail);
        }
        due("26: no codes", x.rounds(0, 6, 0), NO);
        due("26: day", x.rounds(-1, 6, 0), BAD);
        due("26: day", x.rounds(14601, 6, 0), BAD);
        due("26: b", x.rounds(0, 0, 0), BAD);
        due("26: b", x.rounds(0, 1000001, 0), BAD);
        due("26: what", x.rounds(0, 6, 2), BAD);
        due("26: what", x.rounds(0, 6, -1), BAD);
        due("26: the least b", x.rounds(0, 1, 0), NO);
        due("26: the greatest b", x.rounds(0, 1000000, 1), NO);
        for (int i = 1; i < 5; i++) {
            x.link(i - 1, i, 1);
        }
        x.give(0, 2);
        for (int i = 0; i < 4; i++) {
            x.split(4, 0);
            x.split(0, 0);
            x.split(2, 0);
        }
        due("26: five codes", x.count(4), 5);
        due("26: two of six", x.rounds(0, 6, 0), 2);
        due("26: two of six", x.rounds(0, 6, 1), 6);
        due("26: three", x.rounds(0, 5, 0), 3);
        due("26: three", x.rounds(0, 5, 1), 5);
        due("26: the lightest heaviest", x.rounds(0, 11, 1), 6);
        due("26: one", x.rounds(0, 12, 0), 1);
        due("26: too heavy", x.rounds(0, 2, 0), NONE);
        due("26: too heavy", x.rounds(0, 2, 1), NONE);
        due("26: a year on", x.rounds(365, 12, 0), 2);
        due("26: a year on", x.rounds(365, 1000000, 1), 24);
        x.give(10, 2);
        due("26: a day before the latest is fine", x.rounds(0, 1000000, 1), 12);
    }

    private static void promise27() {
        DoorCodes x = new DoorCodes();
        due("27: side", x.fullYear(0, 0), BAD);
        x.side(60, 1, 1, 1);
        due("27: no codes", x.fullYear(0, 0), NO);
        due("27: day", x.fullYear(0, -1), BAD);
        due("27: day", x.fullYear(0, 14601), BAD);
        due("27: side", x.fullYear(-1, 0), BAD);
        x.give(0, 2);
        due("27: just not above", x.fullYear(0, 364), NONE);
        due("27: the last year", x.fullYear(0, 365), 40);
        force(x, "m59,0;m200,5;");
        due("27: at once", x.fullYear(0, 0), 0);
        due("27: m of the day asked from", x.fullYear(0, 5), NONE);
        force(x, "m80,0;m10,365;");
        due("27: m of the day asked from", x.fullYear(0, 0), 21);
        due("27: behind the last day", x.fullYear(0, 14600), 0);
        DoorCodes y = chain(2);
        y.give(0, 2);
        force(y, "m59,0;");
        due("27: of the whole code", y.fullYear(1, 14600), 0);
    }

    private static void promises28and29() {
        DoorCodes x = chain(4);
        due("28: no codes", x.edition(), NO);
        due("29: no edition", x.book(0, 0), BAD);
        x.give(0, 2);
        due("28: the first", x.edition(), 0);
        force(x, "m200,0;n0,0;");
        x.give(1, 2);
        for (int i = 1; i < 10; i++) {
            due("28: the next", x.edition(), i);
        }
        due("28: the eleventh", x.edition(), FULL);
        due("28: ten", x.count(6), 10);
        due("29: then", x.book(0, 0), 0);
        due("29: then", x.book(0, 3), 1);
        due("29: later", x.book(9, 0), 1);
        due("29: edition", x.book(10, 0), BAD);
        due("29: edition", x.book(-1, 0), BAD);
        due("29: side", x.book(0, 4), BAD);
        due("29: side", x.book(0, -1), BAD);
    }

    private static void promise30() {
        DoorCodes x = chain(4);
        due("30: no edition", x.wrong(0, 0), BAD);
        force(x, "m200,0;o10,0;o50,5;");
        x.give(0, 2);
        x.edition();
        due("30: all right", x.wrong(0, 14600), 0);
        x.split(0, 0);
        due("30: led", x.wrong(0, 10), 0);
        due("30: no more", x.wrong(0, 11), 12);
        x.pass(1, 2, 5);
        due("30: led by what leads to one of its code", x.wrong(0, 11), 0);
        due("30: until then", x.wrong(0, 55), 0);
        due("30: no more", x.wrong(0, 56), 14);
        due("30: ahead", x.wrong(0, 4), NO);
        due("30: on the latest day", x.wrong(0, 5), 0);
        force(x, "m200,0;");
        x.pass(0, 1, 60);
        due("30: side 0 by its old word that day", x.wrong(0, 60), 0);
        due("30: all", x.wrong(0, 61), 15);
        due("30: edition", x.wrong(1, 4), BAD);
        due("30: edition", x.wrong(-1, 5), BAD);
        due("30: day", x.wrong(0, 14601), BAD);
        due("30: day", x.wrong(0, -1), BAD);
    }

    private static void promises31and32() {
        DoorCodes x = chain(4);
        due("32: none", x.back(), NO);
        due("31: without codes", x.keep(), 1);
        force(x, "m200,0;o10,0;");
        x.give(3, 2);
        x.edition();
        due("31: two", x.keep(), 2);
        due("31: no more", x.keep(), FULL);
        x.split(0, 9);
        x.edition();
        due("32: as then", x.back(), 1);
        due("32: words", x.code(3, 1), 15);
        due("32: day", x.count(8), 3);
        due("32: editions", x.count(6), 1);
        due("32: leads", x.lead(1, 9), NONE);
        due("32: leads", x.lead(0, 9), 15);
        due("32: rules stay", x.rule(0, 0), 200);
        due("32: as first", x.back(), 0);
        due("32: no codes", x.code(0, 0), NONE);
        due("32: no day", x.count(8), -1);
        due("32: no editions", x.edition(), NO);
        due("32: sides may come", x.side(1, 0, 1, 1), 4);
        due("32: no more", x.back(), NO);
        x.link(3, 4, 5);
        x.give(0, 2);
        due("32: given anew", x.code(4, 1), 31);
        x.split(0, 0);
        x.keep();
        x.split(0, 20);
        x.back();
        due("32: leads are kept", x.lead(0, 10), 31);
        due("32: kept by itself", x.keep(), 1);
    }

    private static void promise33() {
        DoorCodes x = chain(4);
        due("33: what", x.count(-1), BAD);
        due("33: what", x.count(9), BAD);
        due("33: sides", x.count(0), 4);
        due("33: links", x.count(1), 3);
        write(x, "m200,0;o10,0;");
        due("33: bytes", x.count(2), 13);
        due("33: items", x.count(3), 0);
        x.force();
        due("33: items", x.count(3), 2);
        due("33: no codes", x.count(4), 0);
        due("33: no words", x.count(5), 0);
        x.give(0, 2);
        due("33: codes", x.count(4), 1);
        x.split(0, 1);
        due("33: codes", x.count(4), 2);
        due("33: 0 is had", x.count(5), 0);
        x.pass(2, 1, 2);
        x.pass(3, 2, 3);
        due("33: 1 leads on", x.count(5), 1);
        due("33: codes", x.count(4), 1);
        x.edition();
        due("33: editions", x.count(6), 1);
        x.keep();
        due("33: kept", x.count(7), 1);
        due("33: day", x.count(8), 3);
        x.give(13, 2);
        due("33: still", x.count(5), 1);
        x.give(14, 2);
        due("33: no more", x.count(5), 0);
        force(x, "o10,0;m200,0;n0,0;");
        x.give(14, 2);
        due("33: word 0 leads on", x.count(5), 1);
    }

    /** Whatever the numbers are, in a new object, in one with sides, and in one with codes. */
    private static void noCallThrows() {
        int[] odd = {Integer.MIN_VALUE, -1000000, -5, -4, -3, -2, -1, 0, 1, 2, 8, 9, 35, 36, 511, 512, 14600, 14601,
            1000001, Integer.MAX_VALUE};
        for (int state = 0; state < 3; state++) {
            for (int a : odd) {
                for (int b : odd) {
                    for (int c : odd) {
                        callAll(inState(state), a, b, c);
                    }
                }
            }
        }
    }

    private static DoorCodes inState(int state) {
        DoorCodes x = state == 0 ? new DoorCodes() : chain(3);
        if (state == 2) {
            x.give(0, 2);
            x.edition();
            x.keep();
        }
        return x;
    }

    private static void callAll(DoorCodes x, int a, int b, int c) {
        x.doors(a, b);
        x.walk(a);
        x.row(a, b);
        x.right(a, b);
        x.shaped(a, b);
        x.rule(a, b);
        x.why(a, b);
        x.read(a, b);
        x.words(a, b, c);
        x.who(a, b);
        x.code(a, b);
        x.lead(a, b);
        x.rounds(a, b, c);
        x.fullYear(a, b);
        x.book(a, b);
        x.wrong(a, b);
        x.count(a);
        x.ask(a, b, c);
        x.misread(a, b, c);
        x.link(a, b, c);
        x.side(a, b, c, a);
        x.write(a, (long) b << 32 | c);
        x.fault();
        x.force();
        x.quarrel();
        x.pass(a, b, c);
        x.split(a, b);
        x.give(a, b);
        x.edition();
        x.keep();
        x.back();
        x.wipe();
    }
}
