/** Promise by promise: ordinary inputs, the edges that the document names, wrong inputs. */
public final class PromiseTest extends Checks {
    interface Ask { int answer(); }

    private static void is(int promise, String what, int got, int want) {
        is("promise " + promise + ": " + what, got, want);
    }

    private static void is(int promise, String what, boolean got, boolean want) {
        is("promise " + promise + ": " + what, got, want);
    }

    private static void noSuch(int promise, String what, Ask ask) {
        noSuch("promise " + promise + ": " + what, null, x -> ask.answer());
    }

    private static void illegal(int promise, String what, Ask ask) {
        illegal("promise " + promise + ": " + what, null, x -> ask.answer());
    }

    public static void main(String[] args) {
        newObject();
        tape();
        drawers();
        faultsOfLines();
        faultsOfRules();
        rules();
        counts();
        zipsAndPlaces();
        bears();
        acts();
        undoing();
        ahead();
        allAhead();
        daily();
        tears();
        tapes();
        toDo();
        noted();
        winds();
        games();
        years();
        gaps();
        images();
        end("PromiseTest");
    }

    private static void newObject() {
        SlideZips x = new SlideZips();
        int[] due = {0, 0, 4, 0, 0, 0, 0, 0, 0, 0, 0, 0};
        for (int i = 0; i < due.length; i++) {
            is(1, "count " + i, x.count(i), due[i]);
        }
        noSuch(1, "zip", () -> x.zip(0, 0));
        is(1, "fault", x.fault(), NONE);
        is(1, "restore", x.restore(), false);
        is(1, "days", x.days(20), 20);
        is(1, "undo", x.undo(), 0);
    }

    private static void tape() {
        SlideZips x = new SlideZips();
        for (int i = 1; i <= 35; i++) {
            is(2, "feed", x.feed(0x20202020, 0x20202020, 0x20202020, 0x20202020, 0x20202020), 20 * i);
        }
        is(2, "one too many", x.feed(0, 0, 0, 0, 0), NONE);
        is(2, "none came", x.count(8), 700);
        is(3, "700 blanks", x.drawer(700), 0);
        is(3, "empty then", x.count(8), 0);
        // The highest byte of each number is the first: "zip ", "7to7", ";", then blanks.
        is(2, "feed", x.feed(0x7a697020, 0x37746f37, 0x3b202020, 0x20202020, 0x20202020), 20);
        is(3, "order of bytes", x.drawer(20), 0);
        is(3, "grip", x.place(0, 0, 0), 7);
        // A byte of 128 or more is no token, whatever its lower bits are.
        x.feed(0xfa697020, 0x37746f37, 0x3b202020, 0x20202020, 0x20202020);
        is(3, "high byte", x.drawer(9), 1);
        is(4, "at", x.fault(), 0);
    }

    private static void drawers() {
        SlideZips x = of("zip 3 4 to 5 0;strain 7 8;pulls 0;wears 2;");
        x.days(3);
        x.note(0, 0, 0, true);
        x.image();
        x.pinch(0, 0, 0);
        illegal(3, "below 0", () -> x.drawer(-1));
        feed(x, "zip 1 to 1;");
        illegal(3, "more than there are", () -> x.drawer(21));
        is(3, "nothing changes", x.count(8), 20);
        is(3, "nothing changes", x.count(9), 0);
        is(3, "a fault", x.drawer(10), 1);
        is(3, "the tape is empty", x.count(8), 0);
        is(4, "where", x.fault(), 10);
        is(3, "all stays: day", x.count(1), 3);
        is(3, "all stays: grips", x.count(4), 13);
        is(3, "all stays: acts", x.count(6), 2);
        is(3, "all stays: notes", x.count(7), 1);
        is(3, "but status", x.count(9), 1);
        is(3, "all stays: image", x.restore(), true);
        is(3, "status of the image", x.count(9), 0);
        illegal(3, "empty tape", () -> x.drawer(1));
        is(4, "stays with an exception", x.fault(), 10);
        x.image();
        feed(x, "zip 1 to 1;zip 2 to 2;");
        is(3, "only the first bytes", x.drawer(11), 0);
        is(4, "without", x.fault(), NONE);
        is(3, "zips anew", x.count(0), 1);
        is(3, "day anew", x.count(1), 0);
        is(3, "strain anew", x.count(2), 4);
        is(3, "acts gone", x.count(6), 0);
        is(3, "notes gone", x.count(7), 0);
        is(3, "image gone", x.restore(), false);
        is(3, "rules gone", x.then(0, 1, 4), 1);
        is(3, "nothing at all", x.drawer(0), 0);
        is(3, "no zips", x.count(0), 0);
    }

    private static void faultsOfLines() {
        faulty("", 0, NONE);
        faulty(" \n ", 0, NONE);
        faulty("zip5to5;coil0to0;", 0, NONE);
        faulty("zip 0009 to 9;", 0, NONE);
        faulty("x", 1, 0);
        faulty("zipp 1 to 1;", 1, 0);
        faulty("Zip 1 to 1;", 1, 0);
        faulty("xip 1 to 1;", 1, 0);
        faulty("zip 1 ta 1;", 1, 6);
        faulty("\tzip 1 to 1;", 1, 0);
        faulty("zip", 1, 3);
        faulty("zip ;", 1, 4);
        faulty("zip to 1;", 1, 4);
        faulty("zip 1 ;", 1, 6);
        faulty("zip 1 to 1  ", 1, 12);
        faulty("zip 1 2 to 1;", 1, 12);
        faulty("zip 1 2 to 1 2 3;", 1, 15);
        faulty("zip 1 2 to 1 2 99999;", 1, 15);
        faulty("zip 1 to ;", 1, 9);
        faulty("zip 1 to 1 to 1;", 1, 11);
        faulty("zip 1 to 1 strain 1;", 1, 11);
        faulty("zip 1,2 to 1 2;", 1, 5);
        faulty("5;", 1, 0);
        faulty("12345;", 1, 0);
        faulty(";", 1, 0);
        faulty("zip 10 to 1;", 2, 4);
        faulty("zip 1 to 10;", 2, 9);
        faulty("zip 00001 to 1;", 2, 4);
        faulty("zip 1 to 12345;", 2, 9);
        faulty("zip 1 1 1 1 1 1 1 1 1 1 1 1 1 1 1 1 to 1 1 1 1 1 1 1 1 1 1 1 1 1 1 1 1;", 0, NONE);
        faulty("zip 1 1 1 1 1 1 1 1 1 1 1 1 1 1 1 1 1 to", 2, 36);
        faulty("zip 1 1 1 1 1 1 1 1 1 1 1 1 1 1 1 1 x", 1, 36);
        faulty("zip 1to1;zip 1to1;coil 1to1;coil 1to1;", 0, NONE);
        faulty("zip 1to1;zip 1to1;coil 1to1;coil 1to1;coil x", 2, 38);
        faulty("zip 1to1;zip 1to1;coil 1to1;coil 1to1;coils", 1, 38);
        faulty("strain ;", 1, 7);
        faulty("strain", 1, 6);
        faulty("strain 0 9 1 2 3 4 5 6;", 0, NONE);
        faulty("strain 0 9 1 2 3 4 5 6 7;", 2, 23);
        faulty("strain 10;", 2, 7);
        faulty("strain 1 x;", 1, 9);
        faulty("strain 1;strain x", 5, 9);
        faulty("pulls 1;wears 1;pulls", 5, 16);
        faulty("pulls 1;wears 1;wears", 5, 16);
        faulty("pulls 1;zip 1 to;wears 1;wears", 1, 16);
    }

    private static void faultsOfRules() {
        faulty("pulls;", 1, 5);
        faulty("pulls ", 1, 6);
        faulty("pulls 1", 1, 7);
        faulty("pulls 1 2;", 1, 8);
        faulty("pulls 1 strain;", 1, 8);
        faulty("pulls 1 < 2 < 3;", 1, 12);
        faulty("pulls 1 = 2 = 3;", 1, 12);
        faulty("pulls (1 < 2) < 3;", 0, NONE);
        faulty("pulls -1;", 1, 6);
        faulty("pulls 1 > 0;", 1, 8);
        faulty("pulls 1 +;", 1, 9);
        faulty("pulls ();", 1, 7);
        faulty("pulls (1;", 1, 8);
        faulty("pulls 1);", 1, 7);
        faulty("pulls 9999;", 0, NONE);
        faulty("pulls 10000;", 2, 6);
        faulty("pulls 00000;", 2, 6);
        faulty("pulls 1 10000;", 1, 8);
        faulty("pulls open+strain+place+hold+day;", 0, NONE);
        faulty("wears bursts+strain+place+hold+day;", 0, NONE);
        faulty("pulls bursts;", 3, 6);
        faulty("wears 1+open;", 3, 8);
        faulty("pulls zip;", 3, 6);
        faulty("pulls xpen;", 3, 6);
        faulty("pulls 1 ar 1;", 1, 8);
        faulty("pulls or 1;", 3, 6);
        faulty("pulls 1 + not 1;", 3, 10);
        faulty("pulls 1 < not 1;", 3, 10);
        faulty("pulls 1 and or;", 3, 12);
        faulty("pulls not;", 1, 9);
        faulty("pulls not not not not not not 1;", 0, NONE);
        faulty("pulls not not not not not not not 1;", 2, 30);
        faulty("pulls not not not not (not not not 1);", 0, NONE);
        faulty("pulls 1 and not not not not not not not", 2, 36);
        faulty("pulls (((((1)))));", 0, NONE);
        faulty("pulls ((((((1))))));", 2, 12);
        faulty("pulls ((((((zip))))));", 2, 12);
        faulty("pulls (((((((1)))))));", 2, 12);
        faulty("pulls (((((()))))));", 1, 12);
        faulty("pulls ((((((+", 1, 12);
        faulty("pulls ((((((", 1, 12);
        faulty("pulls (((((1)))))+(((((1)))));", 0, NONE);
    }

    /** What the one place of a zip that is worn by a rule has left of 9: the rule's answer. */
    private static int worn(String rule) {
        SlideZips x = of("zip 9 to 9;strain 5;pulls 10;wears " + rule + ";");
        return 9 - x.then(0, 1, 2) / 2;
    }

    private static void rules() {
        is(3, "from the left", worn("9-3-2"), 4);
        is(3, "from the left", worn("8/4*2"), 4);
        is(3, "products first", worn("1+2*3"), 7);
        is(3, "parentheses", worn("(1+2)*3"), 9);
        is(3, "cut down to 0", worn("(0-7)/2+5"), 2);
        is(3, "by 0", worn("7/0+3"), 3);
        is(3, "wraps", worn("(9999*9999*9999<0)*4"), 9999 * 9999 * 9999 < 0 ? 4 : 0);
        is(3, "the least int by -1", worn("(8192*8192*32/(0-1)<0)*4"), 4);
        is(3, "less", worn("(2<3)+(3<3)+(4<3)"), 1);
        is(3, "equal", worn("(2=3)+(3=3)"), 1);
        is(3, "sums ahead of tests", worn("1+1=2"), 1);
        is(3, "not takes the test", worn("not 5=4"), 1);
        is(3, "not", worn("not 7"), 0);
        is(3, "not not", worn("not not 7"), 1);
        is(3, "and ahead of or", worn("1 or 0 and 0"), 1);
        is(3, "and", worn("3 and 4"), 1);
        is(3, "or", worn("0 or 4"), 1);
        is(3, "and with a nought", worn("(1 and 0)+(0 and 1)*2+(0 and 0)*4"), 0);
        is(3, "or is 1 or 0", worn("3+(0 or 0)+(5 or 5)"), 4);
        is(3, "from the left, with all its parts", worn("0 or 0 or 2 and 3 and 4 and not 0"), 1);
        is(3, "or of noughts", worn("0 or 0"), 0);
        is(3, "without tests as it is", worn("6"), 6);
        is(3, "strain", worn("strain"), 5);
        is(3, "hold ahead of it", worn("hold-2"), 7);
        is(3, "kept to 9", worn("30"), 9);
        is(3, "kept to 0", worn("0-3"), 0);
        SlideZips x = of("zip 9 9 9 to 9 9 9;pulls 99;wears bursts*2+place+day;");
        is(3, "bursts, place, day", x.then(0, 1, 2), 2 * (9 + 6 + 3));
        x = of("zip 9 9 9 to 9 9 9;pulls (open=1)*99;");
        is(3, "the neighbours there are", x.then(0, 1, 0), 7);
        is(3, "open by what is so", x.tear(0, 2, 0), 0b011);
        x = of("zip 9 9 9 to 9 9 9;pulls (open=2)*99;");
        is(3, "no neighbour above the top", x.tear(0, 1, 0), 0);
        x = of("zip 5 5 to 5 5;pulls (day=3)*99;");
        is(3, "day", x.when(0, 0), 4);
        x = of("zip 2 3 to 9 9;pulls hold+(hold=3);");
        is(3, "hold", x.then(0, 1, 0), 1);
        // A rule as long as can be, read again and again: it has room each time.
        String longest = "zip 9 to 9;strain 0;wears 0" + "+1-1".repeat(164) + "+3;pulls day*9+1;";
        SlideZips y = new SlideZips();
        for (int i = 0; i < 5; i++) {
            is(3, "a long text", read(y, longest), 0);
            is(3, "a long rule", y.then(0, 2, 2), 12);
            is(3, "a rule with a day", y.when(0, 0), 2);
        }
        is(3, "without rules again", read(y, "zip 9 to 9;strain 9 5;"), 0);
        is(3, "without rules again", y.when(0, 0), NONE);
        String deep = "1 or 1 and 1<1+1*(".repeat(5) + "1 or 1 and 1<1+1*1" + ")".repeat(5);
        is(3, "as deep as can be", worn(deep), 1);
    }

    private static void counts() {
        SlideZips x = of("zip 1 0 3 to 4 5 6;coil 1 0 3 to 4 5 6;zip 1 0 to 4 5;zip 4 5 6 to 1 0 3;strain 1 2 3;");
        is(5, "zips", x.count(0), 4);
        is(5, "strain", x.count(2), 1);
        is(5, "closed", x.count(3), 7);
        is(5, "grips", x.count(4), 19 + 19 + 10 + 19);
        is(5, "twins", x.count(5), 1);
        is(8, "days", x.days(2), 2);
        is(5, "day", x.count(1), 2);
        is(5, "strain of the day", x.count(2), 3);
        is(8, "days", x.days(1), 3);
        is(5, "strain again", x.count(2), 1);
        is(5, "acts", x.count(6), 2);
        noSuch(5, "count", () -> x.count(12));
        noSuch(5, "count", () -> x.count(-1));
        SlideZips y = of("zip 1 to 2;zip 1 to 2;coil 1 to 2;zip 1 0 to 2 0;");
        is(5, "three couples", y.count(5), 3);
        is(5, "no strain", y.count(2), 4);
    }

    private static void zipsAndPlaces() {
        SlideZips x = of("zip 5 4 0 6 3 to 5 9 4 3 3;coil 1 to 0;");
        int[] due = {5, 5, 0b11011, 0b11011, 0, 2, 2, 0, 3};
        for (int i = 0; i < due.length; i++) {
            is(6, "zip " + i, x.zip(0, i), due[i]);
        }
        int[] coil = {1, 1, 0, 0, 1, 0, 0, NONE, NONE, 99};
        for (int i = 0; i < coil.length; i++) {
            is(6, "coil " + i, x.zip(1, i), coil[i]);
        }
        noSuch(6, "what", () -> x.zip(0, 10));
        noSuch(6, "what", () -> x.zip(0, -1));
        noSuch(6, "zip", () -> x.zip(2, 0));
        noSuch(6, "zip", () -> x.zip(-1, 0));
        int[][] places = {{5, 5, 5, 1, 0}, {4, 9, 4, 1, 1}, {0, 4, 0, 0, 0}, {6, 3, 3, 1, 1}, {3, 3, 3, 1, 0}};
        for (int p = 0; p < places.length; p++) {
            for (int i = 0; i < 5; i++) {
                is(7, "place " + p + " " + i, x.place(0, p, i), places[p][i]);
            }
        }
        noSuch(7, "what", () -> x.place(0, 0, 5));
        noSuch(7, "what", () -> x.place(0, 0, -1));
        noSuch(7, "place", () -> x.place(0, 5, 0));
        noSuch(7, "place", () -> x.place(0, -1, 0));
        noSuch(7, "zip", () -> x.place(2, 0, 0));
        x.slide(0, 2);
        is(6, "height", x.zip(0, 1), 2);
        is(6, "closed", x.zip(0, 2), 3);
        is(6, "holds all the same", x.zip(0, 3), 0b11011);
        SlideZips y = of("zip 1 0 1 1 1 0 2 2 2 to 9 9 9 9 9 9 9 9 9;");
        is(6, "runs", y.zip(0, 5), 3);
        is(6, "longest", y.zip(0, 6), 3);
        is(6, "the lowest of like ones", y.zip(0, 7), 2);
        is(6, "weakest", y.zip(0, 8), 0);
        y.slide(0, 0);
        is(6, "weakest of none", y.zip(0, 8), NONE);
        SlideZips all = of("zip 9 9 9 9 9 9 9 9 9 9 9 9 9 9 9 9 to 9 9 9 9 9 9 9 9 9 9 9 9 9 9 9 9;");
        is(6, "16 places", all.zip(0, 2), 0xffff);
        is(6, "16 places", all.zip(0, 3), 0xffff);
        is(6, "one run of 16", all.zip(0, 6), 16);
        is(7, "the top", all.place(0, 15, 0), 9);
    }

    private static void bears() {
        is(6, "the weakest decides", of("zip 5 3 5 to 5 5 5;").zip(0, 9), 3);
        is(6, "open neighbours pull", of("zip 5 0 5 to 5 5 5;").zip(0, 9), 3);
        is(6, "something by 0", of("zip 1 0 to 1 1;").zip(0, 9), NONE);
        is(6, "never", of("zip 1 to 1;pulls 0*strain;").zip(0, 9), 99);
        is(6, "only 99", of("zip 1 to 1;pulls (strain=99)*9;").zip(0, 9), 98);
        is(6, "any lesser one", of("zip 1 to 1;pulls (strain=7)*9;").zip(0, 9), 6);
        SlideZips x = of("zip 3 to 3;strain 0;pulls strain+day;");
        x.days(2);
        is(6, "on this day", x.zip(0, 9), 1);
    }

    private static void acts() {
        SlideZips x = of("zip 5 3 0 8 to 5 5 5 9;coil 2 2 2 2 to 2 2 2 2;zip 1 to 1;strain 0;");
        is(8, "no days", x.days(0), NONE);
        is(8, "too many", x.days(21), NONE);
        is(8, "refused", x.count(10), 2);
        is(9, "below 0", x.slide(0, -1), NONE);
        is(9, "above the top", x.slide(0, 5), NONE);
        is(9, "nought", x.slide(0, 0), 0);
        is(9, "the top", x.slide(0, 4), 3);
        is(9, "where it is", x.slide(0, 4), 3);
        is(9, "closed", x.zip(0, 2), 0b1011);
        is(9, "acts", x.count(6), 3);
        noSuch(9, "zip", () -> x.slide(3, 99));
        is(10, "pinched", x.pinch(0, 0, 3), 9);
        is(10, "it has 9", x.pinch(0, 0, 3), NONE);
        is(10, "there is none", x.pinch(0, 0, 2), NONE);
        is(10, "right", x.pinch(0, 1, 2), 6);
        is(10, "the right one alone", x.place(0, 2, 0), 0);
        noSuch(10, "tape", () -> x.pinch(0, 2, 2));
        noSuch(10, "tape", () -> x.pinch(0, -1, 2));
        noSuch(10, "place", () -> x.pinch(0, 0, 4));
        noSuch(10, "zip", () -> x.pinch(3, 0, 0));
        is(11, "there is one", x.set(0, 1, 2, 5), false);
        is(11, "grip 0", x.set(0, 0, 2, 0), false);
        is(11, "grip 10", x.set(0, 0, 2, 10), false);
        is(11, "set", x.set(0, 0, 2, 1), true);
        x.undo();
        is(11, "set", x.set(0, 0, 2, 9), true);
        is(11, "grip", x.place(0, 2, 0), 9);
        is(11, "stays open", x.zip(0, 2), 0b1011);
        noSuch(11, "tape", () -> x.set(0, 2, 2, 99) ? 1 : 0);
        noSuch(11, "place", () -> x.set(0, 0, 4, 99) ? 1 : 0);
        noSuch(11, "zip", () -> x.set(3, 0, 0, 99) ? 1 : 0);
        is(12, "one", x.swap(0, 0), false);
        is(12, "unlike sizes", x.swap(0, 2), false);
        is(5, "refused", x.count(10), 11);
        is(12, "swapped", x.swap(0, 1), true);
        is(12, "left", x.place(0, 0, 0), 2);
        is(12, "right stays", x.place(0, 0, 1), 5);
        is(12, "other left", x.place(1, 3, 0), 9);
        is(12, "open", x.zip(0, 2) + x.zip(1, 2), 0);
        is(12, "sliders", x.zip(0, 1) + x.zip(1, 1), 0);
        is(12, "the coil", x.zip(1, 4), 1);
        is(12, "the zip", x.zip(0, 4), 0);
        noSuch(12, "zip", () -> x.swap(0, 3) ? 1 : 0);
        noSuch(12, "zip", () -> x.swap(-1, 0) ? 1 : 0);
        SlideZips y = new SlideZips();
        for (int i = 1; i <= 49; i++) {
            y.days(20);
        }
        is(8, "above 999", y.days(20), NONE);
        is(8, "999", y.days(19), 999);
        is(8, "no more", y.days(1), NONE);
        is(8, "refused", y.count(10), 2);
    }

    private static void undoing() {
        SlideZips x = of("zip 5 5 to 5 5;coil 3 3 to 0 3;strain 9 0;");
        x.days(3);
        x.slide(0, 2);
        x.pinch(0, 0, 0);
        x.set(1, 1, 0, 4);
        x.swap(0, 1);
        is(13, "left", x.undo(), 4);
        is(13, "swapped back", x.place(0, 0, 0), 5);
        is(13, "closed again", x.zip(0, 2), 3);
        is(13, "slider again", x.zip(0, 1), 2);
        x.undo();
        is(13, "set", x.place(1, 0, 1), 0);
        x.undo();
        is(13, "pinched", x.place(0, 0, 0), 4);
        x.undo();
        is(13, "slid", x.zip(0, 2), 0);
        is(13, "none left", x.undo(), 0);
        is(13, "the day", x.count(1), 0);
        is(13, "teeth", x.count(4), 29);
        is(13, "closed", x.zip(0, 2), 3);
        is(13, "there is none", x.undo(), NONE);
        is(13, "no status", x.count(10), 0);
        for (int i = 0; i < 45; i++) {
            x.slide(0, i % 3);
        }
        is(13, "at most 40", x.count(6), 40);
        for (int i = 39; i >= 0; i--) {
            is(13, "left", x.undo(), i);
        }
        is(13, "behind the fifth act", x.zip(0, 1), 4 % 3);
        is(13, "none", x.undo(), NONE);
    }

    private static void ahead() {
        // Day 0 nothing; day 1 place 2 (hold 2) bursts at once, then 3; then in a second round 1, then 0.
        SlideZips x = of("zip 5 5 2 5 to 5 5 9 5;coil 4 0 4 to 4 4 4;zip 9 to 9;strain 2 4;");
        is(14, "now", x.then(0, 0, 0), 15);
        is(14, "closed", x.then(0, 1, 0), 15);
        is(14, "closed", x.then(0, 2, 0), 0);
        is(14, "how many", x.then(0, 1, 1), 4);
        is(14, "grips", x.then(0, 2, 2), 41 - 8);
        is(14, "longest", x.then(1, 1, 3), 1);
        is(14, "how often", x.then(0, 60, 4), 4);
        is(14, "a coil isn't worn", x.then(1, 60, 2), 20);
        is(14, "a coil bursts", x.then(1, 60, 4), 2);
        is(14, "nothing has changed", x.zip(0, 2), 15);
        noSuch(14, "what", () -> x.then(0, 61, 5));
        noSuch(14, "what", () -> x.then(0, 0, -1));
        noSuch(14, "zip", () -> x.then(3, 61, 0));
        illegal(14, "days", () -> x.then(0, 61, 0));
        illegal(14, "days", () -> x.then(0, -1, 0));
        is(15, "day", x.when(0, 0), 2);
        is(15, "the first in time", x.when(0, 1), 2);
        is(15, "gone", x.when(0, 2), 2);
        is(15, "never", x.when(2, 0), NONE);
        is(15, "never", x.when(2, 1), NONE);
        is(15, "never", x.when(2, 2), NONE);
        noSuch(15, "what", () -> x.when(0, 3));
        noSuch(15, "what", () -> x.when(0, -1));
        noSuch(15, "zip", () -> x.when(3, 0));
        is(16, "burst", x.bursts(0, 0), 2);
        is(16, "open already", x.bursts(1, 1), NONE);
        is(16, "never", x.bursts(2, 0), NONE);
        noSuch(16, "place", () -> x.bursts(2, 1));
        noSuch(16, "zip", () -> x.bursts(3, 0));
        is(37, "most", x.most(0, 60), 4);
        is(37, "none yet", x.most(0, 1), 0);
        is(37, "no days", x.most(0, 0), 0);
        illegal(37, "days", () -> x.most(0, 61));
        illegal(37, "days", () -> x.most(0, -1));
        noSuch(37, "zip", () -> x.most(3, 61));
        x.slide(0, 0);
        is(15, "gone now", x.when(0, 2), 0);
        SlideZips late = of("zip 1 to 1;pulls (day=59)*9;");
        is(15, "the 60th", late.when(0, 0), 60);
        is(15, "gone behind 60", late.when(0, 2), 60);
        is(16, "the 60th", late.bursts(0, 0), 60);
        is(14, "the 60th", late.then(0, 60, 0), 0);
        SlideZips later = of("zip 1 to 1;pulls (day=60)*9;");
        is(15, "the 61st", later.when(0, 0), NONE);
        is(15, "gone behind 61", later.when(0, 2), NONE);
        is(16, "the 61st", later.bursts(0, 0), NONE);
        later.days(1);
        is(15, "from now", later.when(0, 0), 60);
        // A burst makes the one below burst only in the next round, the one above in the same.
        SlideZips order = of("zip 9 9 9 to 9 9 9;pulls (place=1)*10+open*10;wears bursts;");
        is(14, "wear by order", order.then(0, 1, 2), 54 - 2 * (0 + 1 + 2));
        is(14, "1, then 2, then 0", order.then(0, 1, 4), 3);
        order.days(1);
        is(14, "1 first", order.place(0, 1, 0), 9);
        is(14, "2 in the same round", order.place(0, 2, 0), 8);
        is(14, "0 in the next", order.place(0, 0, 0), 7);
    }

    private static void allAhead() {
        SlideZips x = of("zip 1 1 to 1 1;zip 5 5 to 5 5;zip 5 5 to 5 5;strain 0 2 6 0;");
        is(17, "now", x.later(0, 0), 6);
        is(17, "of like ones the least", x.later(0, 1), 0);
        is(17, "behind 2", x.later(2, 0), 4);
        is(17, "best", x.later(2, 1), 1);
        is(17, "none closed", x.later(3, 1), 0);
        is(17, "none closed", x.later(60, 0), 0);
        noSuch(17, "what", () -> x.later(61, 2));
        noSuch(17, "what", () -> x.later(0, -1));
        illegal(17, "days", () -> x.later(61, 0));
        illegal(17, "days", () -> x.later(-1, 0));
        is(35, "calm", x.calm(1), 1);
        is(35, "calm", x.calm(3), 1);
        is(35, "calm", x.calm(60), 58);
        illegal(35, "days", () -> x.calm(0));
        illegal(35, "days", () -> x.calm(61));
        is(36, "worst", x.worst(60, 0), 3);
        is(36, "how many", x.worst(60, 1), 4);
        is(36, "as far as it goes", x.worst(2, 0), 2);
        is(36, "as far as it goes", x.worst(2, 1), 2);
        is(36, "nothing", x.worst(1, 0), 1);
        noSuch(36, "what", () -> x.worst(0, 2));
        noSuch(36, "what", () -> x.worst(0, -1));
        illegal(36, "days", () -> x.worst(0, 0));
        illegal(36, "days", () -> x.worst(61, 0));
        SlideZips like = of("zip 1 to 1;zip 3 to 3;strain 0 2 4;");
        is(36, "of like ones the first", like.worst(60, 0), 2);
        SlideZips none = new SlideZips();
        is(17, "no zips", none.later(0, 1), NONE);
        is(35, "no zips", none.calm(60), 60);
    }

    private static void daily() {
        SlideZips x = of("zip 5 3 5 5 to 5 5 2 5;coil 1 to 1;zip 0 9 to 9 9;strain 1 4;");
        is(18, "none", x.daily(0, 0), 0);
        is(18, "two days", x.daily(0, 2), 4);
        is(18, "four days", x.daily(0, 4), 8);
        is(18, "a coil", x.daily(1, 60), 30);
        is(18, "never", x.daily(2, 60), 0);
        illegal(18, "days", () -> x.daily(0, 61));
        illegal(18, "days", () -> x.daily(0, -1));
        noSuch(18, "zip", () -> x.daily(3, 61));
        is(19, "lasts", x.lasts(0), 4);
        is(19, "a coil", x.lasts(1), NONE);
        is(19, "what lacks now doesn't count", x.lasts(2), NONE);
        noSuch(19, "zip", () -> x.lasts(3));
        x.slide(0, 0);
        is(18, "slid up first", x.daily(0, 2), 4);
        SlideZips late = of("zip 1 to 1;pulls (day=59)*9;");
        is(19, "the 60th", late.lasts(0), 60);
        SlideZips later = of("zip 1 to 1;pulls (day=60)*9;");
        is(19, "the 61st", later.lasts(0), NONE);
    }

    private static void tears() {
        SlideZips x = of("zip 5 3 5 5 to 5 5 2 5;strain 9;");
        is(20, "both ways", x.tear(0, 0, 2), 0b0110);
        is(20, "by nought", x.tear(0, 3, 0), 0);
        is(20, "all others", x.tear(0, 1, 99), 0b1101);
        is(20, "nothing has changed", x.zip(0, 2), 15);
        illegal(20, "strain", () -> x.tear(0, 0, 100));
        illegal(20, "strain", () -> x.tear(0, 0, -1));
        noSuch(20, "place", () -> x.tear(0, 4, 100));
        noSuch(20, "zip", () -> x.tear(1, 0, 100));
        x.slide(0, 1);
        is(20, "an open one", x.tear(0, 3, 2), 0);
        is(20, "an open one", x.tear(0, 3, 4), 1);
        SlideZips again = of("zip 9 9 9 to 9 9 9;strain 5 5 5 9;pulls strain+open*3;");
        is(14, "what held by a strain", again.then(0, 3, 4), 0);
        is(20, "does not hold with a neighbour open", again.tear(0, 1, 9), 0b101);
        again.days(3);
        is(20, "nor behind some days", again.tear(0, 1, 9), 0b101);
        is(20, "by 5 it does", again.tear(0, 1, 5), 0);
        again.slide(0, 2);
        is(14, "slid", again.then(0, 1, 4), 2);
        again.undo();
        is(14, "undone", again.then(0, 1, 4), 0);
    }

    private static void tapes() {
        SlideZips x = of("zip 5 3 5 5 to 5 5 2 5;coil 4 0 4 to 4 4 4;zip 0 to 0;");
        is(21, "one zip", x.offset(0, 0, 0), 0);
        is(21, "how much", x.offset(0, 0, 1), 15);
        is(21, "lower", x.offset(1, 0, 0), -1);
        is(21, "how much", x.offset(1, 0, 1), 8);
        is(21, "of like ones the least", x.offset(0, 1, 0), 0);
        is(21, "nothing holds: the least", x.offset(2, 0, 0), -3);
        is(21, "nothing holds: the least", x.offset(0, 2, 0), 0);
        is(21, "nothing holds", x.offset(0, 2, 1), 0);
        noSuch(21, "what", () -> x.offset(0, 0, 2));
        noSuch(21, "what", () -> x.offset(0, 0, -1));
        noSuch(21, "zip", () -> x.offset(3, 0, 0));
        noSuch(21, "zip", () -> x.offset(0, 3, 0));
        SlideZips high = of("zip 0 0 0 9 to 9 0 0 0;");
        is(21, "highest", high.offset(0, 0, 0), 3);
        SlideZips low = of("zip 9 0 0 0 to 0 0 0 9;");
        is(21, "lowest", low.offset(0, 0, 0), -3);

        is(22, "how much", x.mesh(1, 0, NONE), 8);
        is(22, "first", x.mesh(1, 0, 0), 0);
        is(22, "a gap", x.mesh(1, 0, 1), NONE);
        is(22, "the first row", x.mesh(1, 0, 2), 1);
        is(22, "nothing", x.mesh(2, 0, NONE), 0);
        is(22, "none", x.mesh(2, 0, 0), NONE);
        noSuch(22, "place", () -> x.mesh(1, 0, 3));
        noSuch(22, "place", () -> x.mesh(1, 0, -2));
        noSuch(22, "zip", () -> x.mesh(3, 0, 0));
        noSuch(22, "zip", () -> x.mesh(0, 3, NONE));
        // Left 1 9 to right 9 1: crossing is not allowed, so one couple of 9 beats two of 1.
        SlideZips cross = of("zip 1 9 to 9 1;");
        is(22, "no crossing", cross.mesh(0, 0, NONE), 9);
        is(22, "left out", cross.mesh(0, 0, 0), NONE);
        is(22, "the great one", cross.mesh(0, 0, 1), 0);
        // 5 can go to either 5 of the right tape: the first one; a left one with a partner comes first.
        SlideZips like = of("zip 5 5 0 to 0 5 0;");
        is(22, "with none behind all", like.mesh(0, 0, 0), 1);
        is(22, "with none behind all", like.mesh(0, 0, 1), NONE);

        is(23, "place", x.cut(0, 0), 2);
        is(23, "how much", x.cut(0, 1), 7);
        is(23, "of one place", x.cut(2, 0), NONE);
        is(23, "of one place", x.cut(2, 1), 0);
        SlideZips even = of("zip 0 4 0 4 to 9 9 9 9;zip 0 0 0 to 0 0 0;");
        is(23, "the lowest", even.cut(0, 0), 2);
        is(23, "noughts", even.cut(1, 0), 1);
        is(23, "noughts", even.cut(1, 1), 0);
        even.slide(0, 0);
        is(23, "open or not", even.cut(0, 1), 4);
        noSuch(23, "what", () -> x.cut(0, 2));
        noSuch(23, "what", () -> x.cut(0, -1));
        noSuch(23, "zip", () -> x.cut(3, 0));

        SlideZips mates = of("zip 3 9 to 9 3;zip 9 3 to 3 9;zip 5 to 5;");
        is(24, "how much", mates.mates(NONE), 29);
        is(24, "crosswise", mates.mates(0), 1);
        is(24, "crosswise", mates.mates(1), 0);
        is(24, "alone", mates.mates(2), 2);
        noSuch(24, "zip", () -> mates.mates(3));
        noSuch(24, "zip", () -> mates.mates(-2));
        SlideZips same = of("zip 5 to 5;zip 5 to 5;zip 5 to 5;zip 5 to 5;");
        for (int i = 0; i < 4; i++) {
            is(24, "the first row", same.mates(i), i);
        }
        SlideZips ring = of("zip 1 0 0 0 to 0 0 0 1;zip 0 1 0 0 to 1 0 0 0;zip 0 0 1 0 to 0 1 0 0;zip 0 0 0 1 to 0 0 1 0;");
        is(24, "ring", ring.mates(NONE), 4);
        for (int i = 0; i < 4; i++) {
            is(24, "ring " + i, ring.mates(i), (i + 1) % 4);
        }
    }

    private static void toDo() {
        SlideZips x = of("zip 5 3 5 5 to 5 5 2 5;coil 4 0 4 to 4 4 4;strain 1 4;");
        is(25, "pinch", x.toPinch(0, 2), 0);
        is(25, "not more than without", x.toPinch(0, 1), NONE);
        illegal(25, "days", () -> x.toPinch(0, 0));
        illegal(25, "days", () -> x.toPinch(0, 61));
        noSuch(25, "zip", () -> x.toPinch(2, 0));
        SlideZips weak = of("zip 9 3 9 3 to 9 3 9 9;strain 4;pulls strain;");
        is(25, "of like ones the lowest", weak.toPinch(0, 60), 1);
        SlideZips nine = of("zip 9 to 9;strain 4;pulls 10;");
        is(25, "9 is not pinched", nine.toPinch(0, 1), NONE);
        SlideZips both = of("zip 3 0 to 3 9;strain 4;pulls strain;");
        is(25, "both teeth", both.toPinch(0, 1), 0);

        is(26, "height", x.toSlide(0, 1, 0), 4);
        is(26, "how many", x.toSlide(0, 1, 1), 4);
        is(26, "the least", x.toSlide(0, 2, 0), 0);
        is(26, "none", x.toSlide(0, 2, 1), 0);
        noSuch(26, "what", () -> x.toSlide(0, 0, 2));
        noSuch(26, "what", () -> x.toSlide(0, 0, -1));
        noSuch(26, "zip", () -> x.toSlide(2, 0, 0));
        illegal(26, "days", () -> x.toSlide(0, 0, 0));
        illegal(26, "days", () -> x.toSlide(0, 61, 0));
        // The top place bursts and takes all with it, below it the rest holds by an open neighbour.
        SlideZips top = of("zip 6 6 1 to 6 6 1;strain 4;pulls strain+open*2+(hold=1)*9;wears 0;");
        is(26, "no lower than needed", top.toSlide(0, 1, 0), 2);
        is(26, "as many", top.toSlide(0, 1, 1), 2);
        top.slide(0, 0);
        is(26, "from wherever it is", top.toSlide(0, 1, 0), 2);

        is(27, "no tooth lacks", x.toSet(0, 5), NONE);
        is(27, "the one that lacks", x.toSet(1, 1), 1);
        illegal(27, "days", () -> x.toSet(0, 0));
        illegal(27, "days", () -> x.toSet(0, 61));
        noSuch(27, "zip", () -> x.toSet(2, 0));
        SlideZips two = of("zip 0 5 0 5 to 0 5 9 5;strain 4;");
        is(27, "the better one", two.toSet(0, 1), 2);
        SlideZips right = of("zip 9 9 9 to 9 9 0;strain 4;");
        is(27, "the right one lacks", right.toSet(0, 1), 2);
        SlideZips weaker = of("zip 9 2 9 to 0 0 9;strain 4;");
        is(27, "GRIP 9 only where it lacks", weaker.toSet(0, 1), 0);
        SlideZips nowhere = of("zip 0 4 to 4 0;strain 3;pulls strain;");
        is(27, "one alone on either tape", nowhere.toSet(0, 1), 0);
        SlideZips gone = of("zip 0 0 to 0 0;strain 9;pulls 99;");
        is(27, "of like ones the lowest", gone.toSet(0, 1), 0);
        SlideZips slid = of("zip 5 0 5 to 5 9 5;strain 4;");
        slid.slide(0, 0);
        is(27, "slid to the top then", slid.toSet(0, 60), 1);
    }

    private static void noted() {
        SlideZips x = of("zip 5 3 5 5 to 5 5 2 5;coil 4 0 4 to 4 4 4;strain 1 4;");
        is(29, "nothing noted: all others", x.forced(0), 18);
        is(29, "the first", x.forced(1), 0);
        is(29, "without", x.forced(2), 1);
        is(28, "noted", x.note(0, 1, 2, false), 1);
        is(29, "fewer", x.forced(0), 15);
        is(28, "noted", x.note(0, 1, 1, true), 2);
        is(29, "fewer", x.forced(0), 8);
        is(29, "still so", x.forced(2), 1);
        is(30, "where", x.look(0), 0);
        is(30, "unlike numbers", x.look(1), 2);
        is(28, "now", x.note(0, 0, 0, false), 3);
        is(29, "it isn't so", x.forced(2), 0);
        is(29, "none", x.forced(0), 0);
        is(29, "none", x.forced(1), NONE);
        is(30, "none", x.look(0), NONE);
        is(30, "none", x.look(1), 0);
        is(28, "21 days", x.note(0, 0, 21, true), NONE);
        is(28, "-1 days", x.note(0, 0, -1, true), NONE);
        for (int i = 4; i <= 8; i++) {
            is(28, "noted", x.note(1, 2, 20, true), i);
        }
        is(28, "there are 8", x.note(1, 2, 20, true), NONE);
        is(28, "status", x.count(11), 3);
        is(28, "noted", x.count(7), 8);
        noSuch(28, "place", () -> x.note(1, 3, 21, true));
        noSuch(28, "zip", () -> x.note(2, 0, 21, true));
        noSuch(29, "what", () -> x.forced(3));
        noSuch(29, "what", () -> x.forced(-1));
        noSuch(30, "what", () -> x.look(2));
        noSuch(30, "what", () -> x.look(-1));
        x.forget();
        is(31, "forgotten", x.count(7), 0);
        is(31, "status stays", x.count(11), 3);
        is(29, "all again", x.forced(0), 18);

        SlideZips y = of("zip 3 to 3;zip 5 5 5 to 5 5 5;strain 0 0;");
        y.note(0, 0, 2, false);
        is(29, "4 to 9 on either day", y.forced(0), 12);
        is(29, "10 by which", y.forced(1), 4);
        y.note(0, 0, 1, true);
        is(29, "the second day", y.forced(0), 6);
        is(29, "10 by which", y.forced(1), 14);
        is(30, "the one with more", y.look(0), 1);
        is(30, "closed 3 or 0", y.look(1), 2);
        y.days(1);
        y.forget();
        y.note(0, 0, 1, false);
        is(29, "from now on", y.forced(1), 14);
        SlideZips without = of("zip 3 to 3;");
        is(29, "no strain told", without.forced(0), 0);
        is(29, "no strain told", without.forced(1), NONE);
        is(29, "so without", without.forced(2), 1);
        is(30, "no strain told", without.look(0), NONE);
        SlideZips bare = of("strain 3;");
        is(29, "no zips", bare.forced(0), 9);
        is(30, "no zips", bare.look(0), NONE);
        is(30, "no zips", bare.look(1), 0);
        SlideZips like = of("zip 9 to 9;zip 9 to 9;strain 1;");
        is(30, "of like ones the least", like.look(0), 0);
        is(30, "one number", like.look(1), 1);
    }

    private static void winds() {
        SlideZips x = of("zip 5 3 5 5 to 5 5 2 5;zip 9 to 9;strain 4;");
        is(32, "one day", x.wind(0, 1, 1, 5), 5);
        is(32, "two days", x.wind(0, 1, 2, 5), 25);
        is(32, "three tenths", x.wind(0, 1, 3, 3), 343);
        is(32, "no wind", x.wind(0, 1, 5, 0), 100000);
        is(32, "all wind", x.wind(0, 1, 5, 10), 0);
        is(32, "it holds", x.wind(1, 0, 5, 10), 100000);
        illegal(32, "days", () -> x.wind(0, 0, 0, 5));
        illegal(32, "days", () -> x.wind(0, 0, 6, 5));
        illegal(32, "tenths", () -> x.wind(0, 0, 1, 11));
        illegal(32, "tenths", () -> x.wind(0, 0, 1, -1));
        noSuch(32, "place", () -> x.wind(1, 1, 0, 11));
        noSuch(32, "zip", () -> x.wind(2, 0, 0, 11));
        SlideZips order = of("zip 9 to 9;pulls (strain=9)*(day=1)*99;");
        is(32, "the second day alone", order.wind(0, 0, 3, 2), 800);
    }

    private static void games() {
        SlideZips x = of("zip 5 3 5 5 to 5 5 2 5;coil 4 0 4 to 4 4 4;strain 1 4;");
        is(33, "nobody slides", x.game(0, 1, 0), 1);
        is(33, "nobody slides", x.game(0, 1, 1), 0);
        illegal(33, "one", () -> x.game(0, 0, 0));
        noSuch(33, "what", () -> x.game(0, 0, 2));
        noSuch(33, "what", () -> x.game(0, 0, -1));
        noSuch(33, "zip", () -> x.game(0, 2, 0));
        noSuch(33, "zip", () -> x.game(2, 2, 0));
        SlideZips y = of("zip 9 9 to 9 9;zip 9 to 9;strain 0;");
        y.slide(0, 0);
        y.slide(1, 0);
        is(33, "two places are worth it, one isn't", y.game(0, 1, 1), 10);
        is(33, "the other way", y.game(1, 0, 1), 1);
        is(33, "one couple", y.game(0, 1, 0), 1);
        y.slide(0, 2);
        is(33, "at the top already", y.game(0, 1, 1), 0);
        SlideZips z = of("zip 9 9 to 9 9;zip 9 9 to 9 9;strain 0;");
        z.slide(0, 0);
        z.slide(1, 0);
        is(33, "both", z.game(0, 1, 1), 11);
        SlideZips six = of("zip 9 9 to 9 9;zip 9 9 to 9 9;pulls (day=5)*99;");
        six.slide(0, 0);
        is(33, "behind 6 days nothing is left", six.game(0, 1, 1), 0);
        SlideZips seven = of("zip 9 9 to 9 9;zip 9 9 to 9 9;pulls (day=6)*99;");
        seven.slide(0, 0);
        is(33, "behind 6 days all is there", seven.game(0, 1, 1), 10);
    }

    private static int next(int seed) {
        return seed * 1103515245 + 12345;
    }

    /** A seed whose draws of 6, then of others, are these numbers. */
    private static int seedFor(int... drawsAndSizes) {
        for (int seed = 0; seed < 1000000; seed++) {
            int s = seed;
            boolean fits = true;
            for (int i = 0; fits && i < drawsAndSizes.length; i += 2) {
                s = next(s);
                fits = (s >>> 16 & 32767) % drawsAndSizes[i + 1] == drawsAndSizes[i];
            }
            if (fits) {
                return seed;
            }
        }
        throw new IllegalStateException("no such seed");
    }

    private static void years() {
        SlideZips x = of("zip 9 8 to 9 1;coil 5 5 5 to 5 5 5;pulls (day=1)*(place=0)*99;");
        is(34, "no days", x.years(5, 0, 0), 0);
        is(34, "no days", x.years(5, 0, 1), 5);
        is(34, "no days", x.years(5, 0, 2), 57);
        int calm = seedFor(3, 6, 4, 6);
        is(34, "bursts of all", x.years(calm, 2, 0), 2);
        is(34, "closed", x.years(calm, 2, 1), 3);
        is(34, "grips", x.years(calm, 2, 2), 55);
        is(34, "zip 0 to the top behind it", x.years(seedFor(5, 6, 5, 6, 0, 6, 0, 2), 3, 1), 4);
        is(34, "zip 1 to the top behind it", x.years(seedFor(5, 6, 5, 6, 0, 6, 1, 2), 3, 1), 4);
        is(34, "pinched, left", x.years(seedFor(1, 6, 0, 2, 1, 2, 0, 2), 1, 2), 58);
        is(34, "pinched, 9 stays", x.years(seedFor(1, 6, 0, 2, 0, 2, 1, 2), 1, 2), 57);
        is(34, "pinched, a third place", x.years(seedFor(1, 6, 1, 2, 2, 3, 1, 2), 1, 2), 58);
        is(34, "less, right", x.years(seedFor(2, 6, 0, 2, 1, 2, 1, 2), 1, 2), 56);
        is(34, "open then", x.years(seedFor(2, 6, 0, 2, 1, 2, 1, 2), 1, 1), 4);
        is(34, "less, left: it holds", x.years(seedFor(2, 6, 0, 2, 1, 2, 0, 2), 1, 1), 5);
        is(34, "no tooth there", x.years(seedFor(2, 6, 0, 2, 1, 2, 1, 2, 2, 6, 0, 2, 1, 2, 1, 2), 2, 2), 54);
        is(34, "nothing has changed", x.count(4), 57);
        is(34, "nothing has changed", x.count(1), 0);
        noSuch(34, "what", () -> x.years(5, 61, 3));
        noSuch(34, "what", () -> x.years(5, 0, -1));
        illegal(34, "days", () -> x.years(5, 61, 0));
        illegal(34, "days", () -> x.years(5, -1, 0));
        is(34, "no zips", new SlideZips().years(7, 60, 2), 0);
    }

    private static void gaps() {
        SlideZips x = of("zip 5 0 5 5 to 5 5 5 5;zip 5 1 5 5 to 5 5 9 0;zip 1 to 1;strain 9;");
        is(38, "none", x.gap(0), 0);
        x.slide(0, 1);
        is(38, "two", x.gap(0), 2);
        x.days(1);
        is(38, "three", x.gap(0), 3);
        x.undo();
        x.undo();
        x.set(0, 0, 1, 4);
        is(38, "a new tooth", x.gap(0), 1);
        x.undo();
        noSuch(38, "zip", () -> x.gap(3));
        is(39, "unlike", x.unlike(0, 1), 1 + 4 + 5);
        x.pinch(0, 0, 0);
        is(39, "the lowest place, too", x.unlike(0, 1), 11);
        x.undo();
        is(39, "the other way", x.unlike(1, 0), 10);
        is(39, "one", x.unlike(1, 1), 0);
        is(39, "not as many", x.unlike(0, 2), NONE);
        noSuch(39, "zip", () -> x.unlike(0, 3));
        noSuch(39, "zip", () -> x.unlike(3, 0));
    }

    private static void images() {
        SlideZips x = of("zip 5 5 to 5 5;zip 4 4 to 4 4;strain 0 9;");
        is(41, "none", x.restore(), false);
        x.slide(0, 1);
        x.note(0, 0, 3, true);
        x.days(0);
        x.image();
        x.days(2);
        x.swap(0, 1);
        x.pinch(0, 0, 0);
        x.note(0, 0, 4, true);
        x.note(0, 0, 21, true);
        read(x, "?");
        x.slide(0, 9);
        is(41, "restored", x.restore(), true);
        is(41, "day", x.count(1), 0);
        is(41, "closed", x.zip(0, 2), 1);
        is(41, "height", x.zip(0, 1), 1);
        is(41, "grip", x.place(0, 0, 0), 5);
        is(41, "acts", x.count(6), 1);
        is(41, "notes", x.count(7), 1);
        is(41, "texts", x.count(9), 0);
        is(41, "refused acts", x.count(10), 1);
        is(41, "refused notes", x.count(11), 0);
        is(41, "the tape isn't kept", x.fault(), 0);
        x.undo();
        is(41, "its act is undone", x.zip(0, 2), 3);
        x.forget();
        is(41, "again", x.restore(), true);
        is(41, "it stays the image", x.zip(0, 2), 1);
        is(41, "it stays the image", x.count(7), 1);
        x.days(1);
        x.image();
        x.days(1);
        x.restore();
        is(40, "in place of another", x.count(1), 1);
        x.undo();
        x.undo();
        is(40, "acts of the image", x.zip(0, 1), 2);
    }
}
