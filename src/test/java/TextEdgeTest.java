/** Edges of the text, sentence by sentence: the tape, tokens, lines, rules, faults. */
public final class TextEdgeTest extends Checks {
    private static final int BLANKS = 0x20202020;
    private static final String MAX = "(2147*1000*1000+483*1000+647)";
    private static final String MIN = "(" + MAX + "+1)";

    public static void main(String[] args) {
        tape();
        drawers();
        tokens();
        lines();
        expressions();
        values();
        misplaced();
        tooMuch();
        noValues();
        toldTwice();
        firstAndLeast();
        end("TextEdgeTest");
    }

    private static String counts(SlideZips x) {
        StringBuilder s = new StringBuilder();
        for (int i = 0; i < 12; i++) {
            s.append(x.count(i)).append(' ');
        }
        return s.append(x.fault()).toString();
    }

    // ---- promises 2 to 4 ----

    private static void tape() {
        sentence("Twenty bytes come behind the tape, of each number the highest first: how many it has", () -> {
            SlideZips x = new SlideZips();
            is("first", x.feed(0x7a697020, 0x31203220, 0x33207468, 0x20202020, 0x20202020), 20);
            is("a text cut off", x.drawer(12), 1);
            // "zip 1 2 3 4 5 6 7 8 " and "to 9 8 7 6 5 4 3 2; ": each of forty bytes has its place.
            is("twenty", x.feed(0x7a697020, 0x31203220, 0x33203420, 0x35203620, 0x37203820), 20);
            is("behind it", x.feed(0x746f2039, 0x20382037, 0x20362035, 0x20342033, 0x20323b20), 40);
            is("read", x.drawer(40), 0);
            for (int at = 0; at < 8; at++) {
                is("left " + at, x.place(0, at, 0), at + 1);
                is("right " + at, x.place(0, at, 1), 9 - at);
            }
            is("numbers below 0", x.feed(-1, LEAST, GREATEST, 0, -2), 20);
            is("none of them a token", x.drawer(20), 1);
        });
        sentence("NONE, and none come, if it would have more than 700", () -> {
            SlideZips x = new SlideZips();
            // The first twenty tell a zip, all others are blanks.
            x.feed(0x7a697020, 0x37746f38, 0x3b202020, BLANKS, BLANKS);
            for (int i = 2; i <= 34; i++) {
                is("feed", x.feed(BLANKS, BLANKS, BLANKS, BLANKS, BLANKS), 20 * i);
            }
            is("just 700", x.feed(BLANKS, BLANKS, BLANKS, BLANKS, BLANKS), 700);
            is("720", x.feed(0x3b3b3b3b, 0x3b3b3b3b, 0x3b3b3b3b, 0x3b3b3b3b, 0x3b3b3b3b), NONE);
            is("again", x.feed(0x3b3b3b3b, 0, 0, 0, 0), NONE);
            is("none came", x.count(8), 700);
            is("no status", x.count(9) + x.count(10) + x.count(11), 0);
            is("the tape is as it was", x.drawer(700), 0);
            is("the tape is as it was", x.place(0, 0, 0) * 10 + x.place(0, 0, 1), 78);
            is("empty: from the beginning", x.feed(0, 0, 0, 0, 0), 20);
        });
    }

    private static void drawers() {
        sentence("The tape's first n bytes (it is empty then) are a DRAWER, all anew", () -> {
            SlideZips x = of("zip 9 9 9 to 9 9 9;coil 8 8 to 7 7;zip 1 to 1;zip 2 to 2;strain 7 8 9;pulls 0;wears 9;");
            x.days(5);
            x.slide(0, 1);
            feed(x, "zip 1 to 2;zip 3 to 4;");
            is("n is less than the tape has", x.drawer(11), 0);
            is("it is empty then", x.count(8), 0);
            is("zips", x.count(0), 1);
            is("day", x.count(1), 0);
            is("strain", x.count(2), 4);
            is("grips", x.count(4), 3);
            is("no coil", x.zip(0, 4), 0);
            is("at the top", x.zip(0, 1), 1);
            is("pulls and wears are those without rules", x.then(0, 1, 2), 1);
            feed(x, "coil 5 to 5;");
            is("n nought of twenty", x.drawer(0), 0);
            is("no zips", x.count(0), 0);
            is("day", x.count(1), 0);
            is("it is empty then", x.count(8), 0);
            is("n nought of none", x.drawer(0), 0);
            // What an older text left in the same room must not be seen.
            is("a third", read(x, "zip 4 to 4;zip 4 to 4;"), 0);
            is("twins", x.count(5), 1);
            is("grips", x.count(4), 16);
            is("16 places", read(x, even(16, 9)), 0);
            is("a fault behind 16 left ones", read(x, "zip " + times(16, "9") + " to 1;"), 1);
            is("1 place", read(x, "zip 1 to 1;coil 1 to 1;"), 0);
            is("twins", x.count(5), 1);
            is("unlike", x.unlike(0, 1), 0);
            is("holds", x.zip(0, 3) * 10 + x.zip(1, 3), 11);
        });
        sentence("0, or the FAULT (all stays, but STATUS)", () -> {
            SlideZips x = of("zip 9 5 to 9 5;coil 3 3 to 3 3;strain 1 2;pulls hold+(place=1);wears 3;");
            x.days(1);
            x.note(0, 0, 0, true);
            x.image();
            x.slide(1, 1);
            String ahead = counts(x);
            String faulty = "strain 9;pulls 0;wears 0;zip 1 1 to 1 1;zip 2 2 to 2 2;zip 3 3 to 3 3;x";
            for (int i = 1; i <= 3; i++) {
                is("a fault", read(x, faulty), 1);
                is("status", x.count(9), i);
            }
            is("all else stays", counts(x).replace(" 3 0 0 70", " 0 0 0 -1"), ahead);
            is("the tape is empty", x.count(8), 0);
            is("rules", x.then(0, 1, 4), 0);
            is("rules", x.then(1, 1, 4), 0);
            x.slide(0, 2);
            is("pulls", x.then(0, 1, 0), 1);
            is("wears", x.then(0, 1, 2), 18);
            is("acts", x.undo(), 2);
            is("acts", x.undo(), 1);
            is("restored", x.restore(), true);
            is("of the image", x.count(9), 0);
        });
        sentence("ACTS, what is NOTED, the image are gone", () -> {
            SlideZips x = of("zip 9 5 to 9 5;");
            for (int i = 0; i < 41; i++) {
                x.slide(0, i % 3);
            }
            for (int i = 0; i < 8; i++) {
                x.note(0, 0, 0, false);
            }
            x.image();
            is("a fault", read(x, "zip"), 1);
            is("acts stay with a fault", x.count(6), 40);
            is("notes stay with a fault", x.count(7), 8);
            is("the image stays with a fault", x.restore(), true);
            is("the same once more", read(x, "zip 9 5 to 9 5;"), 0);
            is("acts", x.count(6), 0);
            is("nothing to undo", x.undo(), NONE);
            is("notes", x.count(7), 0);
            is("nothing noted", x.forced(2), 1);
            is("room for 8", x.note(0, 0, 0, true), 1);
            is("image", x.restore(), false);
            is("height", x.zip(0, 1), 2);
        });
        sentence("IllegalArgumentException: the tape has not so many, n below 0 (nothing changes)", () -> {
            SlideZips x = of("zip 9 5 to 9 5;");
            is("a fault", read(x, "   zap"), 1);
            feed(x, "zip 1 to 1;         coil 2 to 2;");
            String ahead = counts(x);
            for (int n : new int[] {41, 42, 700, 701, GREATEST, -1, -2, LEAST}) {
                illegal("n " + n, x, y -> y.drawer(n));
                is("nothing changes", counts(x), ahead);
            }
            is("the fault's place stays", x.fault(), 3);
            is("the tape is as it was", x.drawer(32), 0);
            is("both", x.count(0), 2);
            illegal("an empty tape", x, y -> y.drawer(1));
            is("nought of an empty tape", x.drawer(0), 0);
            for (int i = 0; i < 35; i++) {
                x.feed(BLANKS, BLANKS, BLANKS, BLANKS, BLANKS);
            }
            illegal("701 of a full tape", x, y -> y.drawer(701));
            is("700 of a full tape", x.drawer(700), 0);
        });
        sentence("The place of the latest drawer()'s FAULT; NONE without", () -> {
            SlideZips x = new SlideZips();
            is("no drawer yet", x.fault(), NONE);
            is("a fault", read(x, "  ?"), 1);
            is("its place", x.fault(), 2);
            x.feed(0, 0, 0, 0, 0);
            is("feed leaves it", x.fault(), 2);
            x.drawer(0);
            is("without", x.fault(), NONE);
            is("at once", read(x, ";"), 1);
            is("nought", x.fault(), 0);
            is("ends too soon", read(x, " ".repeat(697) + "zip"), 1);
            is("700", x.fault(), 700);
            is("the last byte", read(x, " ".repeat(699) + "7"), 1);
            is("699", x.fault(), 699);
            x.image();
            x.drawer(0);
            is("no fault", x.fault(), NONE);
        });
        sentence("A TEXT of at most 700 bytes tells it", () -> {
            fine(" ".repeat(691) + "zip 1to1;");
            String text = "zip 9 to 9;pulls 10;wears 3" + "+1-1".repeat(168) + ";";
            is("length", text.length(), 700);
            is("a rule as long as can be", of(text).then(0, 1, 2), 12);
            text = "zip 9 to 9;pulls 0" + "+1".repeat(340) + ";";
            is("a sum of 340", of(text).when(0, 0), 1);
            text = "zip 9 to 9;pulls 10" + " and 1".repeat(113) + ";";
            is("and and and", of(text).when(0, 0), NONE);
            text = "wears " + "(((((1)))))+".repeat(57) + "1;";
            fine(text);
            fine("zip 1to1;" + "pulls 1;" + " ".repeat(682) + "\n");
        });
    }

    // ---- tokens ----

    private static void tokens() {
        sentence("TOKENS: words (a .. z, the longest row), NUMBERS (1 to 4 digits), signs ; ( ) + - * / < =", () -> {
            for (int b = 0; b < 256; b++) {
                char c = (char) b;
                boolean letter = c >= 'a' && c <= 'z';
                boolean digit = c >= '0' && c <= '9';
                boolean blank = c == ' ' || c == '\n';
                // Alone: no line begins so.
                faulty("" + c, blank ? 0 : 1, blank ? NONE : 0);
                // Where a part must stand.
                String part = "pulls " + c + ";";
                if (letter) {
                    faulty(part, 3, 6);
                } else if (digit) {
                    fine(part);
                } else {
                    faulty(part, 1, blank || c == '(' ? 7 : 6);
                }
                // Between two numbers.
                String between = "pulls 1" + c + "2;";
                if (digit || "+-*/<=".indexOf(c) >= 0) {
                    fine(between);
                } else {
                    faulty(between, 1, blank || c == ';' ? 8 : 7);
                }
            }
        });
        sentence("words (a .. z, the longest row)", () -> {
            faulty("zipto 1;", 1, 0);
            faulty("zips 1 to 1;", 1, 0);
            faulty("zi p 1 to 1;", 1, 0);
            faulty("pulls notday;", 3, 6);
            faulty("pulls dayor 1;", 3, 6);
            faulty("pulls 1 orday;", 1, 8);
            faulty("pulls d ay;", 3, 6);
            fine("pulls not1or1and1;");
            fine("zip1to1;strain1;pulls(day)or(day);");
            faulty("zip 1 too 1;", 1, 6);
            faulty("zip 1 t 1;", 1, 6);
        });
        sentence("NUMBERS (1 to 4 digits)", () -> {
            fine("zip 0 00 000 0000 to 9 09 009 0009;");
            faulty("zip 00000 to 0;", 2, 4);
            faulty("zip 0 to 00009;", 2, 9);
            fine("pulls 0+10+100+9999+0000;");
            faulty("pulls 10000;", 2, 6);
            faulty("pulls 00001;", 2, 6);
            faulty("pulls 4294967297;", 2, 6);
            faulty("pulls " + "0".repeat(690) + "1;", 2, 6);
            faulty("zip 4294967297 to 1;", 2, 4);
            faulty("strain 18446744073709551617;", 2, 7);
            fine("zip 1 2 to 3 4;");
            is("two numbers, not one", of("zip 1 2 to 3 4;").zip(0, 0), 2);
        });
        sentence("blanks (32, 10) between them count for nothing", () -> {
            fine("");
            fine(" ");
            fine("\n");
            fine(" \n \n  ");
            fine("\n zip\n1\n\n to  1 ;\n");
            fine("zip 1to1;strain 1 2;pulls 1<2;wears 1;");
            for (int b : new int[] {0, 9, 11, 12, 13, 31, 33, 127, 128, 133, 138, 160, 255}) {
                faulty("zip" + (char) b + "1 to 1;", 1, 3);
                faulty("zip 1 to 1;" + (char) b, 1, 11);
            }
            faulty("pulls 99 99;", 1, 9);
        });
    }

    // ---- lines ----

    private static void lines() {
        sentence("DRAWER: LINE*", () -> {
            is("no line", of("").count(0), 0);
            SlideZips x = of("wears 1;pulls 2;strain 3;zip 4 to 4;");
            is("in any order", x.count(0) * 10 + x.count(2), 13);
            x = of("zip 4 to 4;strain 3;coil 5 to 5;wears 1;zip 6 to 6;pulls 2;coil 7 to 7;");
            is("zips between the others", x.count(4), 44);
            faulty("zip 1 to 1;;", 1, 11);
            faulty(";zip 1 to 1;", 1, 0);
            faulty("zip 1 to 1; to", 1, 12);
        });
        sentence("LINE: (('zip' | 'coil') GRIP GRIP* 'to' GRIP* | 'strain' STRAIN STRAIN* | ('pulls' | 'wears') EXPR) ';', all in capitals but EXPR being NUMBERS (GRIP 0 to 9)", () -> {
            for (String first : new String[] {"zip", "coil"}) {
                fine(first + " 0 to 0;");
                fine(first + " 9 to 9;");
                faultyAt(first + " @to 0;", 1);
                faultyAt(first + " @;", 1);
                faultyAt(first + "@", 1);
                faultyAt(first + " 0@", 1);
                faultyAt(first + " 0 @; 0;", 1);
                faultyAt(first + " 0 to@;", 1);
                faultyAt(first + " 0 to 0@", 1);
                faultyAt(first + " 0 to 0 @zip 0 to 0;", 1);
                faultyAt(first + " @day to 0;", 1);
                faultyAt(first + " 0 to @(0);", 1);
                faultyAt(first + " @- 1 to 1;", 1);
            }
            fine("strain 0;");
            faultyAt("strain @day;", 1);
            faultyAt("strain @(1);", 1);
            faultyAt("strain 1 @+ 1;", 1);
            faultyAt("strain 1 @to 1;", 1);
            for (String first : new String[] {"pulls", "wears"}) {
                fine(first + " 0;");
                faultyAt(first + "@;", 1);
                faultyAt(first + "@", 1);
                faultyAt(first + " 1@", 1);
                faultyAt(first + " 1 @zip 0 to 0;", 1);
                faultyAt(first + " 1 @to 1;", 1);
            }
        });
        sentence("ZIPS 0, 1 .. (at most 4)", () -> {
            SlideZips x = of("zip 1 to 1;coil 2 to 2;zip 3 to 3;coil 4 to 4;");
            is("four", x.count(0), 4);
            is("the fourth", x.place(3, 0, 0), 4);
            noSuch("a fifth", x, y -> y.zip(4, 0));
            noSuch("none below", x, y -> y.zip(-1, 0));
            x = of("zip 1 to 1;");
            noSuch("a second one", x, y -> y.zip(1, 0));
        });
        sentence("each of 1 to 16 PLACES, one upon the other (0 the lowest)", () -> {
            for (int size = 1; size <= 16; size++) {
                SlideZips x = of(even(size, 5));
                int places = size;
                is("places", x.zip(0, 0), size);
                is("the top", x.place(0, size - 1, 0), 5);
                noSuch("none above", x, y -> y.place(0, places, 0));
                noSuch("none below", x, y -> y.place(0, -1, 0));
            }
            faulty("zip to 1;", 1, 4);
            faulty("zip to;", 1, 4);
            faulty(even(17, 5), 2, 36);
        });
        sentence("of a GRIP (1 to 9), or none there (GRIP 0)", () -> {
            SlideZips x = of("zip 0 1 2 3 4 5 6 7 8 9 to 9 8 7 6 5 4 3 2 1 0;");
            for (int at = 0; at < 10; at++) {
                is("left", x.place(0, at, 0), at);
                is("right", x.place(0, at, 1), 9 - at);
            }
            faulty("zip 10 to 1;", 2, 4);
            faulty("zip 1 to 10;", 2, 9);
            faulty("zip 9 9999 to 1 1;", 2, 6);
        });
        sentence("LEFT ahead of 'to', from PLACE 0 up, RIGHT behind it, just as many", () -> {
            for (int size = 1; size <= 16; size++) {
                String left = "zip " + times(size, "3") + " to ";
                fine(left + times(size, "4") + ";");
                faulty(left + times(size - 1, "4") + ";", 1, left.length() + times(size - 1, "4").length());
                faulty(left + times(size, "4") + " 4;", 1, left.length() + 2 * size);
                faulty(left + times(size, "4"), 1, left.length() + 2 * size - 1);
            }
            SlideZips x = of("coil " + "1 2 3 4 5 6 7 8 1 2 3 4 5 6 7 8 to 9 8 7 6 5 4 3 2 9 8 7 6 5 4 3 9;");
            is("left 0", x.place(0, 0, 0), 1);
            is("left 15", x.place(0, 15, 0), 8);
            is("right 0", x.place(0, 0, 1), 9);
            is("right 15", x.place(0, 15, 1), 9);
            is("right 14", x.place(0, 14, 1), 3);
        });
        sentence("STRAIN: 1 to 8 numbers (0 to 9), that of a DAY by DAY MOD how many (always 4 without)", () -> {
            SlideZips one = of("strain 7;");
            SlideZips eight = of("strain 0 1 2 3 9 8 7 6;");
            SlideZips none = of("");
            int[] due = {0, 1, 2, 3, 9, 8, 7, 6};
            for (int day = 0; day < 20; day++) {
                is("one", one.count(2), 7);
                is("eight", eight.count(2), due[day % 8]);
                is("none", none.count(2), 4);
                one.days(1);
                eight.days(1);
                none.days(1);
            }
            SlideZips last = of("strain 0 1 2 3 9 8 7 6;");
            for (int i = 0; i < 49; i++) {
                last.days(20);
            }
            is("999", last.days(19), 999);
            is("of day 999", last.count(2), due[999 % 8]);
            faulty("strain;", 1, 6);
            faulty("strain 0 1 2 3 4 5 6 7 8;", 2, 23);
            faulty("strain 10;", 2, 7);
            faulty("strain 9 9 9 10;", 2, 13);
        });
    }

    // ---- rules ----

    /** What a place of grip 9 is worn by: what the rule gives, kept to 0 to 9. */
    private static int worn(String rule) {
        return 9 - of("zip 9 to 9;strain 5;pulls 10;wears " + rule + ";").then(0, 1, 2) / 2;
    }

    private static void same(String rule, int value) {
        is(rule, worn(rule), value);
    }

    /** Whether two expressions are the same int. */
    private static void equal(String one, String other) {
        is(one + " = " + other, worn("(" + one + " = " + other + ")*7"), 7);
    }

    private static void expressions() {
        sentence("EXPR: AND ('or' AND)*. AND: NOT ('and' NOT)*", () -> {
            same("1 or 0 and 0", 1);
            same("0 and 0 or 1", 1);
            same("0 and (0 or 1)", 0);
            same("0 or 0 or 0 or 0 or 2", 1);
            same("1 and 2 and 3 and 0", 0);
            faultyAt("pulls 1 or@;", 1);
            faultyAt("pulls 1 and@;", 1);
            faultyAt("pulls @and 1;", 3);
        });
        sentence("NOT: 'not' NOT | SUM [('<' | '=') SUM]", () -> {
            same("not 5 < 4", 1);
            same("not 0 + 1", 0);
            same("not not 3", 1);
            same("not 0 and not 0", 1);
            same("not 1 or 1", 1);
            faultyAt("pulls 1 < 2 @< 3;", 1);
            faultyAt("pulls 1 < 2 @= 3;", 1);
            faultyAt("pulls 1 = 2 @< 3;", 1);
            faultyAt("pulls 1 <@< 3;", 1);
            faultyAt("pulls 1 <@;", 1);
            faultyAt("pulls 1 < @not 1;", 3);
            same("1 < 2 and 2 < 3 or 4 = 5", 1);
        });
        sentence("SUM: PRODUCT (('+' | '-') PRODUCT)*. PRODUCT: PART (('*' | '/') PART)*", () -> {
            same("1 + 2 * 3", 7);
            same("9 - 2 * 3", 3);
            same("8 - 6 / 2", 5);
            faultyAt("pulls 1 +@;", 1);
            faultyAt("pulls 1 + @- 1;", 1);
            faultyAt("pulls @- 1;", 1);
            faultyAt("pulls 1 * @/ 1;", 1);
            faultyAt("pulls 1 /@;", 1);
        });
        sentence("PART: NUMBER | VALUE | '(' EXPR ')'", () -> {
            same("(1 or 0) + 1", 2);
            same("((((7))))", 7);
            faultyAt("pulls (@);", 1);
            faultyAt("pulls (1@;", 1);
            faultyAt("pulls (1 @2);", 1);
            faultyAt("pulls 1@);", 1);
            faultyAt("pulls (1)@(1);", 1);
        });
        sentence("From the left; ints that wrap, / cut down to 0, by 0 gives 0", () -> {
            same("9 - 3 - 2", 4);
            same("9 - 3 + 2", 8);
            same("8 / 4 * 2", 4);
            same("8 / 4 / 2", 1);
            same("7 * 2 / 7", 2);
            same("5 / 2 * 2", 4);
            equal(MAX + " + 1", "0 - " + MAX + " - 1");
            equal(MIN + " - 1", MAX);
            equal("0 - " + MIN, MIN);
            equal(MAX + " * 2", "0 - 2");
            equal(MIN + " * 2", "0");
            equal(MIN + " * (0 - 1)", MIN);
            equal(MIN + " / (0 - 1)", MIN);
            equal("9999 * 9999 * 9999", intOf(9999 * 9999 * 9999));
            equal("7 / 2", "3");
            equal("(0 - 7) / 2", "0 - 3");
            equal("7 / (0 - 2)", "0 - 3");
            equal("(0 - 7) / (0 - 2)", "3");
            equal("(0 - 1) / 2", "0");
            equal("1 / 2", "0");
            equal("0 / 0", "0");
            equal("5 / 0", "0");
            equal("(0 - 5) / 0", "0");
            equal(MIN + " / 0", "0");
            same("3 + 8 / (4 - 4)", 3);
            is("by 0 where it pulls", of("zip 9 to 9;pulls 99 / (place - place);").when(0, 0), NONE);
            is("by 0 where it wears", of("zip 9 to 9;pulls 99;wears 9 / bursts;").then(0, 1, 2), 18);
        });
        sentence("tests, not, and, or are 1 or 0 (what isn't 0 holds)", () -> {
            same("(2 < 3) * 5", 5);
            same("(3 < 3) * 5", 0);
            same("(3 = 3) * 5", 5);
            same("(3 = 2) * 5", 0);
            same("(0 - 1 < 0) * 5", 5);
            same("(" + MIN + " < " + MAX + ") * 5", 5);
            same("(" + MAX + " < " + MIN + ") * 5", 0);
            same("(not 0) * 5", 5);
            same("(not 3) * 5", 0);
            same("(not (0 - 1)) * 5", 0);
            same("(not " + MIN + ") * 5", 0);
            same("(7 and 8) * 5", 5);
            same("((0 - 1) and (0 - 2)) * 5", 5);
            same("(7 and 0) * 5 + (0 and 7)", 0);
            same("(1 and 2) * 5", 5);
            same("(7 or 8) * 5", 5);
            same("((0 - 1) or 0) * 5", 5);
            same("(0 or " + MIN + ") * 5", 5);
            same("(0 or 0) * 5", 0);
            same("((0 - 1) or 1) * 5", 5);
        });
    }

    private static String intOf(int number) {
        return number < 0 ? "(0 - " + intOf(-number) + ")"
            : "(" + number / 1000000 + "*1000*1000+" + number / 1000 % 1000 + "*1000+" + number % 1000 + ")";
    }

    private static void values() {
        sentence("'strain' (of the DAY), 'place', 'hold', 'day'", () -> {
            for (int at = 0; at < 16; at++) {
                SlideZips x = of(even(16, 9) + "pulls 99*(place=" + at + ");");
                is("place " + at, x.then(0, 1, 0), 0xffff & ~(1 << at));
            }
            for (int hold = 1; hold <= 9; hold++) {
                SlideZips x = of("zip 1 2 3 4 5 6 7 8 9 to 9 9 9 9 9 9 9 9 9;pulls 99*(hold=" + hold + ");");
                is("hold " + hold, x.then(0, 1, 0), 0x1ff & ~(1 << hold - 1));
            }
            SlideZips x = of("zip 8 to 8;strain 0 9;pulls strain;");
            is("strain 0, then 9", x.when(0, 0), 2);
            is("strain 99", of("zip 9 9 to 9 9;pulls 99*(strain=99);").tear(0, 0, 99), 2);
            is("strain 98", of("zip 9 9 to 9 9;pulls 99*(strain=99);").tear(0, 0, 98), 0);
            is("day 0", of("zip 9 to 9;pulls 99*(day=0);").when(0, 0), 1);
            is("day alone", of("zip 5 to 5;pulls day;").when(0, 0), 7);
            is("strain alone", of("zip 5 to 5;strain 0 0 6;pulls strain;").when(0, 0), 3);
            is("place alone", of(even(16, 5) + "pulls place;").then(0, 1, 0), 0b111111);
            is("hold alone", of("zip 5 to 5;pulls hold;").when(0, 0), NONE);
            SlideZips last = of("zip 9 to 9;pulls 99*(day=1058);");
            SlideZips lastOfAll = of("zip 9 to 9;pulls 99*(day=1059);");
            for (int i = 0; i < 50; i++) {
                last.days(i < 49 ? 20 : 19);
                lastOfAll.days(i < 49 ? 20 : 19);
            }
            is("day 999 and 59 more", last.when(0, 0), 60);
            is("day 999 and 60 more", lastOfAll.when(0, 0), NONE);
            same("hold", 9);
            same("strain", 5);
            same("place", 0);
            same("day", 0);
        });
        sentence("of PULLS also 'open' (how many of its neighbours, the PLACES above and below it, as far as there are, are OPEN)", () -> {
            for (int open = 0; open <= 3; open++) {
                SlideZips x = of("zip 5 5 0 5 0 5 0 0 5 to 5 5 5 5 5 5 5 5 5;coil 5 to 5;pulls 99*(open=" + open + ");");
                int now = 0b100101011;
                // By one, place 0 bursts, too, as soon as place 1 has.
                int[] bursts = {0b000000001, 0b100000011, 0b000101000, 0};
                int[] first = {0, 1, 3, NONE};
                is("behind a day by " + open, x.then(0, 1, 0), now & ~bursts[open]);
                is("the first by " + open, x.when(0, 1), first[open]);
                is("a zip of one place by " + open, x.then(1, 1, 4), open == 0 ? 1 : 0);
            }
        });
        sentence("of WEARS also 'bursts' (how many PLACES of this ZIP have BURST on this DAY ahead of it)", () -> {
            SlideZips x = of(even(16, 9) + even(3, 9) + "pulls 99*(day<2);wears bursts;");
            x.days(1);
            for (int at = 0; at < 16; at++) {
                is("worn " + at, x.place(0, at, 0), Math.max(0, 9 - at));
            }
            is("of this zip alone", x.place(1, 0, 1) * 100 + x.place(1, 1, 1) * 10 + x.place(1, 2, 1), 987);
            x.slide(1, 3);
            x.days(1);
            is("of this day alone", x.place(1, 0, 1) * 100 + x.place(1, 1, 1) * 10 + x.place(1, 2, 1), 975);
            is("up to 15", of(even(16, 9) + "pulls 99;wears (bursts=15)*9;").then(0, 1, 2), 15 * 18);
            is("not 16", of(even(16, 9) + "pulls 99;wears (bursts=16)*9;").then(0, 1, 2), 16 * 18);
        });
    }

    // ---- faults ----

    private static void misplaced() {
        sentence("1 a TOKEN that can't stand there, or is none", () -> {
            for (String other : new String[] {"to", "not", "or", "and", "day", "hold", "place", "open", "bursts", "x", "zipp",
                    "1", "12345", ";", "(", ")", "+", "-", "*", "/", "<", "=", "?", "A", "\t"}) {
                faulty(other, 1, 0);
                faulty("zip 1 to 1;" + other + ";", 1, 11);
            }
            for (String other : new String[] {"to", "x", ";", "(", "+", "zip", "strain", "?"}) {
                faulty("zip " + other + " 1 to 1;", 1, 4);
                faulty("strain " + other + ";", 1, 7);
                faulty("zip 1 to " + other, 1, 9);
            }
            for (String other : new String[] {"x", ";", "(", "+", "zip", "strain", "?"}) {
                faulty("zip 1 " + other + " 1;", 1, 6);
            }
            for (String other : new String[] {"to", "x", "(", "+", "zip", "strain", "?", "1", "12345", ""}) {
                faulty("zip 1 to 1 " + other, 1, 11);
            }
            for (String other : new String[] {"to", "x", "(", "+", "zip", "strain", "?", ""}) {
                faulty("strain 1 " + other, 1, 9);
            }
            for (String other : new String[] {")", ";", "+", "-", "*", "/", "<", "=", "?", "Z", ""}) {
                faulty("pulls " + other, 1, 6);
                faulty("pulls 1+" + other, 1, 8);
                faulty("pulls 1 or" + other, 1, 10);
                faulty("wears not" + other, 1, 9);
            }
            for (String other : new String[] {"(", ")", "1", "12345", "day", "not", "to", "x", "strain", "?", ""}) {
                faulty("pulls 1 " + other, 1, 8);
                faulty("wears 1<2 " + other, 1, 10);
            }
        });
        sentence("(the text's length where it ends too soon; behind 'to' a NUMBER too many, or ';' too soon)", () -> {
            String text = "zip 5 0 to 3 9;\n strain 7 8;coil 1to 1;pulls (1+22)*(3<4) or 55 ;  ";
            for (int n = 0; n <= text.length(); n++) {
                String piece = text.substring(0, n).trim();
                boolean good = piece.isEmpty() || piece.endsWith(";");
                SlideZips x = new SlideZips();
                feed(x, text);
                is("the first " + n, x.drawer(n), good ? 0 : 1);
                is("place by the first " + n, x.fault(), good ? NONE : wordCutAt(text, n));
            }
            faulty("zip 1 2 to 3 4 5;", 1, 15);
            faulty("zip 1 2 to 3 4 10;", 1, 15);
            faulty("zip 1 2 to 3;", 1, 12);
            faulty("zip 1 2 to;", 1, 10);
            faulty("zip 1 2 to 3 4 ", 1, 15);
        });
    }

    /** Where the word begins that is cut in two there; the place itself, if none is. */
    private static int wordCutAt(String text, int n) {
        int start = n;
        while (start > 0 && start < text.length() && isLetter(text.charAt(start)) && isLetter(text.charAt(start - 1))) {
            start--;
        }
        return start;
    }

    private static boolean isLetter(char c) {
        return c >= 'a' && c <= 'z';
    }

    private static void tooMuch() {
        sentence("a NUMBER of 5 digits or more, or (not in an EXPR) not as told", () -> {
            fine("zip 0009 to 0009;strain 0009;pulls 9999;wears 9999;");
            faultyAt("zip @00009 to 9;", 2);
            faultyAt("zip 9 @10 to 9 9;", 2);
            faultyAt("zip 9 9 to 9 @10;", 2);
            faultyAt("zip 9 9 to 9 @12345;", 2);
            faultyAt("strain @10;", 2);
            faultyAt("strain 0 0 0 0 0 0 0 @10;", 2);
            faultyAt("strain @12345;", 2);
            faultyAt("pulls @10000;", 2);
            faultyAt("wears 1+(2*@123456789);", 2);
            fine("pulls 10+9999;");
        });
        sentence("the first TOKEN of the 5th ZIP", () -> {
            String four = "zip 1to1;coil 1to1;zip 1to1;coil 1to1;";
            fine(four);
            fine(four + "strain 1;pulls 1;wears 1;");
            faultyAt(four + "@zip", 2);
            faultyAt(four + "@coil 1 to 1;", 2);
            faultyAt(four + " \n@zip x", 2);
            faultyAt(four + "@zips 1 to 1;", 1);
            faultyAt("strain 1;" + four + "pulls 1;@coil 1 to 1;", 2);
        });
        sentence("the 17th GRIP ahead of 'to'", () -> {
            String left = "zip " + times(16, "1") + " ";
            fine(left + "to " + times(16, "1") + ";");
            faultyAt(left + "@1 to " + times(17, "1") + ";", 2);
            faultyAt(left + "@10 to 1;", 2);
            faultyAt(left + "@12345", 2);
            faultyAt(left + "@;", 1);
            faultyAt(left + "@x", 1);
            faultyAt(left + "@", 1);
            faultyAt(left + "to " + times(16, "1") + " @1;", 1);
        });
        sentence("the 9th STRAIN", () -> {
            String eight = "strain " + times(8, "9") + " ";
            fine(eight + ";");
            faultyAt(eight + "@9;", 2);
            faultyAt(eight + "@10;", 2);
            faultyAt(eight + "@x;", 1);
            faultyAt(eight + "@", 1);
            fine("strain " + times(7, "9") + ";");
        });
        sentence("of an EXPR within 6 others (a NUMBER, any word, a parenthesis)", () -> {
            for (String rule : new String[] {"pulls ", "wears ", "pulls 1+", "wears not ", "pulls (1) or (2) and "}) {
                String five = rule + "(((((";
                fine(five + "1" + ")))));");
                fine(five + "not day" + ")))));");
                for (String first : new String[] {"1", "9999", "12345", "day", "not", "or", "zip", "x", "to", "(", "((((((("}) {
                    faultyAt(five + "(@" + first + "))))));", 2);
                }
                for (String first : new String[] {")", ";", "+", "-", "*", "/", "<", "=", "?", "Z", ""}) {
                    faultyAt(five + "(@" + first, 1);
                }
                faultyAt(five + " ( \n@1))))));", 2);
                faultyAt(five + "1+(@1))))));", 2);
                faultyAt(five + "@x", 3);
            }
            fine("pulls (((((1)))))+(((((1)))))*(((((1)))));");
            fine("pulls (1)+(1)+(1)+(1)+(1)+(1)+(1)+(1);");
            fine("pulls (((((1)+(1))+(1))+(1))+(1))+(1);");
            fine("pulls (((((1)+(1))+(1))+(((1))))+(1))+(1);");
            faultyAt("pulls (((((1)+(1))+(((@1))))+(1))+(1);", 2);
        });
        sentence("the seventh 'not' side by side", () -> {
            String six = times(6, "not") + " ";
            same(six + "3", 1);
            same(times(5, "not") + " 3", 0);
            fine("pulls " + six + "1 and " + six + "1 or " + six + "1;");
            fine("pulls " + six + "(" + six + "1);");
            fine("pulls not(not(not(not(not(not 1)))));");
            faultyAt("pulls " + six + "@not 1;", 2);
            faultyAt("pulls " + six + "@not", 2);
            faultyAt("pulls " + six + "\n@not not not 1;", 2);
            faultyAt("wears 1 and " + six + "@not 1;", 2);
            faultyAt("wears 1 or (" + six + "@not 1);", 2);
            faultyAt("pulls " + six + "@;", 1);
            faultyAt("pulls " + six + "@nots", 3);
            faultyAt("pulls " + six + "@or", 3);
            faultyAt("pulls " + six + "1 < @not", 3);
        });
    }

    private static void noValues() {
        sentence("3 any word where a PART must stand that is no VALUE of this EXPR", () -> {
            for (String word : new String[] {"zip", "coil", "to", "strains", "strai", "pulls", "wears", "or", "and", "x", "dayy", "da",
                    "places", "holds", "opens", "burst", "notday"}) {
                faultyAt("pulls @" + word + ";", 3);
                faultyAt("wears @" + word + ";", 3);
                faultyAt("wears (1+@" + word + ");", 3);
                faultyAt("pulls 1*@" + word + ";", 3);
                faultyAt("pulls 1<@" + word + ";", 3);
                faultyAt("pulls not @" + word + ";", 3);
                faultyAt("pulls 1 or @" + word, 3);
                faultyAt("pulls 1 and @" + word, 3);
            }
            fine("pulls strain+place+hold+day+open;wears strain+place+hold+day+bursts;");
            fine("wears strain+place+hold+day+bursts;pulls strain+place+hold+day+open;");
            faultyAt("pulls @bursts;", 3);
            faultyAt("wears @open;", 3);
            faultyAt("pulls open;wears bursts+@open;", 3);
            faultyAt("wears bursts;pulls open+@bursts;", 3);
            faultyAt("pulls 1+@not 1;", 3);
            faultyAt("pulls 1*@not 1;", 3);
            faultyAt("pulls 1=@not 1;", 3);
        });
    }

    private static void toldTwice() {
        sentence("5 a second 'strain', 'pulls', 'wears'", () -> {
            for (String line : new String[] {"strain", "pulls", "wears"}) {
                faultyAt(line + " 1;@" + line + " 1;", 5);
                faultyAt(line + " 1;@" + line, 5);
                faultyAt(line + " 1;zip 1 to 1;@" + line + " ?", 5);
                faultyAt("zip 1 to 1;" + line + " 1; \n @" + line + ";", 5);
            }
            fine("strain 1;pulls 1;wears 1;");
            fine("pulls strain;strain 1;wears strain;");
            faultyAt("strain 1;pulls 1;wears 1;zip 1 to 1;@strain 1;", 5);
            SlideZips x = new SlideZips();
            is("one", read(x, "strain 1;pulls 1;wears 1;"), 0);
            is("of this text", read(x, "strain 2;pulls 2;wears 2;"), 0);
            is("a fault", read(x, "strain 3;pulls 3;wears 3;?"), 1);
            is("of this text", read(x, "strain 4;pulls 4;wears 4;"), 0);
            is("told", x.count(2), 4);
        });
    }

    private static void firstAndLeast() {
        sentence("FAULTS, the first along the text, at a TOKEN's first byte, of one TOKEN the least", () -> {
            faultyAt("zip @10 to ?;strain;", 2);
            faultyAt("strain 1;@strain 10;?", 5);
            faultyAt("pulls @x+;zip 10 to 1;", 3);
            faultyAt("zip 1 @;pulls x;strain 10;", 1);
            faultyAt("wears 1+@12345+x;", 2);
            faultyAt("wears 1+@xyz+12345;", 3);
            // Two faults of one token.
            faultyAt("@12345;", 1);
            faultyAt("zip 1 to 1 @12345;", 1);
            faultyAt("pulls 1 @12345;", 1);
            faultyAt("pulls ((((((@x))))));", 2);
            faultyAt("pulls ((((((@or))))));", 2);
            faultyAt("wears ((((((@open))))));", 2);
            faultyAt("pulls ((((((@12345))))));", 2);
            faultyAt("zip " + times(16, "1") + " @12345 to", 2);
            faultyAt("strain " + times(8, "1") + " @12345;", 2);
            // A token's first byte, also of a long one and behind blanks.
            faultyAt("zip 1 to 1;\n   \n@zzzzzzzz 1;", 1);
            faultyAt("pulls  \n @zzzz;", 3);
            faultyAt("zip    @99999999 to 1;", 2);
        });
    }
}
