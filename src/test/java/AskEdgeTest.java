/** Edges of what is asked, sentence by sentence: what would be, tapes, what to do, what was seen, wind, a game, years. */
public final class AskEdgeTest extends Checks {
    public static void main(String[] args) {
        then();
        firstBursts();
        allZips();
        daily();
        tears();
        offsets();
        meshes();
        cutsAndMates();
        toPinch();
        toSlideAndSet();
        notes();
        forced();
        looks();
        winds();
        likely();
        games();
        years();
        calmAndWorst();
        gaps();
        end("AskEdgeTest");
    }

    /** A zip of hold 9 that bursts on one day alone. */
    private static SlideZips burstsOn(int day) {
        return of("zip 9 to 9;pulls (day=" + day + ")*99;");
    }

    /** The same, as it is on day 999. */
    private static SlideZips burstsLate(int day) {
        SlideZips x = burstsOn(day);
        for (int i = 0; i < 50; i++) {
            x.days(i < 49 ? 20 : 19);
        }
        is("day", x.count(1), 999);
        return x;
    }

    // ---- if only days go by ----

    private static void then() {
        sentence("THEN, behind so many DAYS (0 to 60): which PLACES of a ZIP are CLOSED (bits), how many; all its GRIPS together", () -> {
            SlideZips now = burstsOn(0);
            int[] today = {1, 1, 18, 1, 0};
            int[] gone = {0, 0, 16, 0, 1};
            for (int what = 0; what < 5; what++) {
                int asked = what;
                is("behind 0: " + what, now.then(0, 0, what), today[what]);
                is("behind 1: " + what, now.then(0, 1, what), gone[what]);
                is("behind 59: " + what, burstsOn(59).then(0, 59, what), today[what]);
                is("behind 60: " + what, burstsOn(59).then(0, 60, what), gone[what]);
                is("behind 60, on the next: " + what, burstsOn(60).then(0, 60, what), today[what]);
                is("from day 999: " + what, burstsLate(1058).then(0, 60, what), gone[what]);
                is("from day 999, on the next: " + what, burstsLate(1059).then(0, 60, what), today[what]);
                illegal("behind 61: " + what, now, y -> y.then(0, 61, asked));
                illegal("behind -1: " + what, now, y -> y.then(0, -1, asked));
            }
            SlideZips full = of(even(16, 9) + "pulls 0;");
            is("16 bits", full.then(0, 60, 0), 0xffff);
            is("16", full.then(0, 60, 1), 16);
            is("16 times 18", full.then(0, 60, 2), 288);
            SlideZips open = of("zip 0 to 9;pulls 99;");
            is("nothing is closed", open.then(0, 60, 0) + open.then(0, 60, 1) + open.then(0, 60, 3) + open.then(0, 60, 4), 0);
            is("its grips", open.then(0, 60, 2), 9);
        });
        sentence("its LONGEST RUN (of CLOSED PLACES side by side); how often it BURST in these DAYS (each PLACE counted)", () -> {
            SlideZips x = of("zip 9 9 1 9 9 9 to 9 9 9 9 9 9;strain 2;pulls strain*(place=2);");
            is("now", x.then(0, 0, 3), 6);
            is("behind a day", x.then(0, 1, 3), 3);
            is("once", x.then(0, 60, 4), 1);
            is("each place", of(even(16, 9) + "pulls 99;").then(0, 1, 4), 16);
            is("each once, if only days go by", of(even(16, 9).replace("zip", "coil") + "pulls 99;").then(0, 60, 4), 16);
            is("on unlike days", of(even(16, 9) + "pulls (day=place)*99;").then(0, 60, 4), 16);
            is("as many as there were", of(even(16, 9) + "pulls (day=place)*99;").then(0, 15, 4), 15);
        });
    }

    private static void firstBursts() {
        sentence("FIRST BURST of a ZIP: on which DAY from now (1 to 60; 1: the one that comes), which PLACE is the first to BURST on it, in time; none", () -> {
            is("the one that comes", burstsOn(0).when(0, 0), 1);
            is("the 60th", burstsOn(59).when(0, 0), 60);
            is("the 61st", burstsOn(60).when(0, 0), NONE);
            is("its place", burstsOn(59).when(0, 1), 0);
            is("its place", burstsOn(60).when(0, 1), NONE);
            is("from day 999", burstsLate(1058).when(0, 0), 60);
            is("from day 999", burstsLate(1059).when(0, 0), NONE);
            is("nothing is closed", of("zip 0 to 9;pulls 99;").when(0, 0), NONE);
            is("the top is first", of(even(16, 9) + "pulls (place=15)*99+open*99;").when(0, 1), 15);
            is("in time, not the lowest", of(even(4, 9) + "pulls (place=2)*99+open*99;").when(0, 1), 2);
            is("the lowest of a round", of(even(4, 9) + "pulls 99;").when(0, 1), 0);
            SlideZips x = burstsOn(5);
            x.days(5);
            is("from now", x.when(0, 0), 1);
            x.days(1);
            is("it is past", x.when(0, 0), NONE);
        });
        sentence("BURST of a PLACE: behind how many DAYS (1 to 60) it has BURST first; none", () -> {
            is("1", burstsOn(0).bursts(0, 0), 1);
            is("1, by 4", of("zip 3 to 3;").bursts(0, 0), 1);
            is("60", burstsOn(59).bursts(0, 0), 60);
            is("61", burstsOn(60).bursts(0, 0), NONE);
            is("from day 999", burstsLate(1058).bursts(0, 0), 60);
            is("from day 999", burstsLate(1059).bursts(0, 0), NONE);
            SlideZips x = of(even(16, 9) + "pulls (day=place*4)*99;");
            for (int at = 0; at < 16; at++) {
                is("place " + at, x.bursts(0, at), at == 15 ? NONE : 4 * at + 1);
            }
            x.slide(0, 1);
            is("an open one", x.bursts(0, 1), NONE);
        });
        sentence("GONE: behind how many DAYS (0 to 60) nothing of a ZIP is CLOSED first; none", () -> {
            is("now", of("zip 0 to 9;").when(0, 2), 0);
            is("1", burstsOn(0).when(0, 2), 1);
            is("60", burstsOn(59).when(0, 2), 60);
            is("61", burstsOn(60).when(0, 2), NONE);
            is("from day 999", burstsLate(1058).when(0, 2), 60);
            is("from day 999", burstsLate(1059).when(0, 2), NONE);
            is("the last one counts", of(even(16, 9) + "pulls (day=place)*99;").when(0, 2), 16);
            is("one is left", of(even(2, 9) + "pulls (place=0)*99;").when(0, 2), NONE);
        });
    }

    private static void allZips() {
        sentence("All that are CLOSED then in all ZIPS: how many; the BEST ZIP: with most (of like ones the least), none without any ZIP", () -> {
            SlideZips x = of(even(1, 9) + even(3, 9) + even(3, 9) + even(2, 9) + "pulls (day=59)*(place=2)*99;");
            is("now", x.later(0, 0), 9);
            is("of like ones", x.later(0, 1), 1);
            is("59", x.later(59, 0), 9);
            is("60", x.later(60, 0), 7);
            is("of three like ones", x.later(60, 1), 1);
            is("the last one", of(even(1, 9) + even(1, 9) + even(1, 9) + even(2, 9)).later(0, 1), 3);
            is("nothing closed in any", of("zip 0 to 0;zip 0 to 0;").later(60, 1), 0);
            is("64", of(even(16, 9) + even(16, 9) + even(16, 9) + even(16, 9)).later(0, 0), 64);
            is("without any zip", new SlideZips().later(0, 1), NONE);
            is("without any zip", new SlideZips().later(60, 1), NONE);
            is("without any zip", new SlideZips().later(60, 0), 0);
        });
    }

    private static void daily() {
        sentence("how often it BURSTS in so many DAYS (0 to 60)", () -> {
            SlideZips x = of("coil 9 9 to 9 9;zip 9 to 9;strain 9;pulls 99;wears 0;");
            is("none", x.daily(0, 0), 0);
            is("one", x.daily(0, 1), 2);
            is("60", x.daily(0, 60), 120);
            is("a zip that isn't worn", x.daily(1, 60), 60);
            x.slide(0, 0);
            x.slide(1, 0);
            is("slid to the top ahead of each", x.daily(0, 1), 2);
            is("all 16, each day", of(even(16, 9).replace("zip", "coil") + "pulls 99;").daily(0, 60), 960);
            is("on the 60th alone", burstsOn(59).daily(0, 60), 1);
            is("not in 59", burstsOn(59).daily(0, 59), 0);
            is("worn till it is gone", of(even(1, 9) + "pulls 99;").daily(0, 60), 9);
            is("what lacks doesn't close", of("zip 0 to 9;pulls 99;").daily(0, 60), 0);
        });
        sentence("behind how many DAYS (1 to 60) it first has a PLACE with HOLD 0 that HOLDS now; none", () -> {
            is("1", of("zip 1 to 1;pulls 99;").lasts(0), 1);
            is("9", of("zip 9 to 9;pulls 99;").lasts(0), 9);
            is("60", of("zip 1 to 9;pulls (day=59)*99;").lasts(0), 60);
            is("61", of("zip 1 to 9;pulls (day=60)*99;").lasts(0), NONE);
            is("a coil", of("coil 1 to 1;pulls 99;").lasts(0), NONE);
            is("what doesn't hold now", of("zip 0 9 to 9 9;pulls 0;").lasts(0), NONE);
            is("the first of some", of("zip 0 9 3 9 to 9 9 9 9;pulls 99;").lasts(0), 3);
            is("the right one is gone", of("zip 9 to 2;pulls 99;").lasts(0), 2);
            is("the top", of(even(15, 9).replace(" to", " 9 to").replace(";", " 1;") + "pulls 99*(place=15);").lasts(0), 1);
            SlideZips x = of("zip 9 1 to 9 1;pulls 99*(place=1);");
            x.slide(0, 0);
            is("open now, but it holds", x.lasts(0), 1);
        });
    }

    private static void tears() {
        sentence("TEAR of a PLACE: were it OPEN now, and a DAY of a told STRAIN (0 to 99) came: which PLACES would BURST (bits; WORN as ever)", () -> {
            SlideZips x = of(even(16, 9) + "zip 2 2 2 to 2 2 2;zip 9 to 9;");
            is("0", x.tear(1, 0, 0), 0);
            is("1", x.tear(1, 0, 1), 0b110);
            is("in the midst", x.tear(1, 1, 1), 0b101);
            is("7", x.tear(0, 0, 7), 0);
            is("8", x.tear(0, 0, 8), 0xfffe);
            is("the top, 8", x.tear(0, 15, 8), 0x7fff);
            is("99", x.tear(0, 7, 99), 0xff7f);
            is("the only one", x.tear(2, 0, 99), 0);
            SlideZips held = of("zip 5 5 to 5 5;strain 4;");
            held.days(1);
            is("what held by 4", held.tear(0, 0, 4), 0b10);
            is("nothing is changed", x.count(3), 20);
            x.slide(1, 0);
            is("nothing is closed", x.tear(1, 0, 99), 0);
            x.slide(1, 1);
            is("one is, another is open already", x.tear(1, 2, 0), 0);
            is("by 1", x.tear(1, 2, 1), 1);
            SlideZips day = of("zip 9 9 to 9 9;strain 9;pulls 99*(strain=3 and day=2);");
            is("not of this day", day.tear(0, 0, 3), 0);
            day.days(2);
            is("of this day", day.tear(0, 0, 3), 0b10);
            is("of another strain", day.tear(0, 0, 9), 0);
        });
    }

    // ---- tapes ----

    private static void offsets() {
        sentence("below 0: lower; so that at least one PLACE of both meets) so that HOLDS of PLACES that meet are most, all together (of like ones the least number)", () -> {
            String low = "9 " + times(15, "0");
            String high = times(15, "0") + " 9";
            SlideZips x = of("zip " + high + " to " + low + ";zip " + low + " to " + high + ";zip 9 to 9;zip 0 to 0;");
            is("15 higher", x.offset(0, 0, 0), 15);
            is("one couple", x.offset(0, 0, 1), 9);
            is("15 lower", x.offset(1, 1, 0), -15);
            is("one couple", x.offset(1, 1, 1), 9);
            is("high on high", x.offset(0, 1, 0), 0);
            is("of one place", x.offset(2, 2, 0), 0);
            is("of one place", x.offset(2, 2, 1), 9);
            is("16 to one: the top", x.offset(0, 2, 0), 15);
            is("one to 16: the top", x.offset(2, 1, 0), -15);
            is("one to 16: the lowest", x.offset(2, 0, 0), 0);
            is("nothing holds: the least", x.offset(3, 0, 0), -15);
            is("nothing holds: the least", x.offset(0, 3, 0), 0);
            is("nothing holds", x.offset(3, 0, 1), 0);
            SlideZips like = of("zip 5 5 5 to 5 5 5;zip 5 to 5;zip 3 0 3 to 3 0 3;");
            is("all meet", like.offset(0, 0, 0), 0);
            is("how much", like.offset(0, 0, 1), 15);
            is("of like ones", like.offset(0, 1, 0), 0);
            is("of like ones", like.offset(1, 0, 0), -2);
            is("of like ones", like.offset(2, 0, 0), 0);
            is("of like ones below 0", of("zip 5 5 to 0 5;").offset(0, 0, 0), -1);
            // No place beyond the end of a tape of 16, and none below its first, meets another one.
            SlideZips ends = of("zip 0 0 0 9 0 0 0 0 9 0 0 0 0 0 0 0 to 0 0 0 0 9 0 0 0 0 0 0 0 0 0 0 9;"
                + "zip 9 0 0 0 0 0 0 0 0 0 9 0 0 0 0 0 to 0 0 0 0 0 9 0 0 0 0 0 9 0 0 0 0;");
            is("below", ends.offset(0, 0, 0) * 100 + ends.offset(0, 0, 1), -1191);
            is("above", ends.offset(1, 1, 0) * 100 + ends.offset(1, 1, 1), -1091);
        });
    }

    private static void mesh(String text, int... due) {
        SlideZips x = of(text);
        is("mesh of " + text, x.mesh(0, 0, NONE), due[0]);
        for (int at = 1; at < due.length; at++) {
            is("mesh of " + text + ", left " + (at - 1), x.mesh(0, 0, at - 1), due[at]);
        }
    }

    private static void meshes() {
        sentence("each in one couple at most, none of them crossing another, so that HOLDS of couples are most, all together (a HOLD of 0 is no couple)", () -> {
            mesh("zip 9 to 9;", 9, 0);
            mesh("zip 0 to 9;", 0, NONE);
            mesh("zip 9 to 0;", 0, NONE);
            mesh("zip 1 9 to 9 1;", 9, NONE, 0);
            mesh("zip 0 9 to 9 0;", 9, NONE, 0);
            mesh("zip 9 0 to 0 9;", 9, 1, NONE);
            mesh("zip 9 9 to 9 0;", 9, 0, NONE);
            mesh("zip 5 0 5 to 5 5 0;", 10, 0, NONE, 1);
            mesh("zip 4 9 1 9 to 9 9 4 1;", 18, NONE, 0, NONE, 1);
            SlideZips low = of("zip 0 9 " + times(14, "0") + " to 9 " + times(15, "0") + ";");
            is("16 to 16", low.mesh(0, 0, NONE), 9);
            is("16 to 16", low.mesh(0, 0, 1), 0);
            SlideZips high = of("zip " + times(14, "0") + " 9 0 to " + times(15, "0") + " 9;");
            is("16 to 16", high.mesh(0, 0, NONE), 9);
            is("16 to 16", high.mesh(0, 0, 14), 15);
            SlideZips x = of(even(16, 9) + "zip 3 to 3;");
            is("16 couples", x.mesh(0, 0, NONE), 144);
            is("the lowest", x.mesh(0, 0, 0), 0);
            is("the top", x.mesh(0, 0, 15), 15);
            is("16 to one", x.mesh(0, 1, NONE), 3);
            is("the first of 16", x.mesh(0, 1, 0), 0);
            is("no other", x.mesh(0, 1, 15), NONE);
            is("one to 16", x.mesh(1, 0, NONE), 3);
            is("the first of 16", x.mesh(1, 0, 0), 0);
        });
        sentence("with which RIGHT PLACE a LEFT one is: of like ones the first row (by LEFT PLACES: the RIGHT one; with none behind all)", () -> {
            mesh("zip 5 5 0 to 0 5 0;", 5, 1, NONE, NONE);
            mesh("zip 1 1 0 to 1 1 1;", 2, 0, 1, NONE);
            mesh("zip 2 4 to 4 2;", 4, 0, 1);
            mesh("zip 2 2 2 to 0 2 2;", 4, 1, 2, NONE);
            mesh("zip 1 3 2 to 3 1 2;", 5, NONE, 0, 2);
        });
    }

    private static void cut(String text, int place, int much) {
        SlideZips x = of(text);
        is("cut of " + text, x.cut(0, 0), place);
        is("how much of " + text, x.cut(0, 1), much);
        x.slide(0, 0);
        is("closed or not, of " + text, x.cut(0, 1), much);
    }

    private static void cutsAndMates() {
        sentence("CUT of a ZIP in two, below a PLACE (not 0), so that the lesser of both sums of HOLDS (CLOSED or not) is most: which PLACE (of like ones the lowest; none of one PLACE); how much", () -> {
            cut("zip 9 to 9;", NONE, 0);
            cut("zip 0 to 0;", NONE, 0);
            cut("zip 0 0 to 0 0;", 1, 0);
            cut("zip 3 5 to 9 9;", 1, 3);
            cut("zip 5 3 to 9 9;", 1, 3);
            cut("zip 5 0 0 5 to 9 9 9 9;", 1, 5);
            cut("zip 0 0 5 5 to 9 9 9 9;", 3, 5);
            cut("zip 9 0 0 0 to 9 9 9 9;", 1, 0);
            cut("zip 1 1 1 9 to 9 9 9 9;", 3, 3);
            cut("zip 9 1 1 1 to 9 9 9 9;", 1, 3);
            cut(even(16, 9), 8, 72);
            cut("zip " + times(14, "0") + " 9 9 to " + times(16, "9") + ";", 15, 9);
        });
        sentence("MATES: each LEFT tape to a RIGHT one with as many PLACES, each once, so that HOLDS (at OFFSET 0) are most, all together: how much", () -> {
            is("no zips", new SlideZips().mates(NONE), 0);
            noSuch("no zips", new SlideZips(), y -> y.mates(0));
            SlideZips one = of("zip 5 to 7;");
            is("one", one.mates(NONE) * 10 + one.mates(0), 50);
            SlideZips unlike = of(even(1, 9) + even(2, 9) + even(3, 9) + even(4, 9));
            is("all unlike", unlike.mates(NONE), 90);
            SlideZips pairs = of("zip 9 to 1;zip 9 9 to 1 1;zip 1 to 9;zip 1 1 to 9 9;");
            is("crosswise in pairs", pairs.mates(NONE), 30);
            int[] right = {2, 3, 0, 1};
            for (int i = 0; i < 4; i++) {
                is("as many places " + i, unlike.mates(i), i);
                is("its mate " + i, pairs.mates(i), right[i]);
            }
            SlideZips none = of("zip 0 to 0;zip 0 to 0;");
            is("nothing holds", none.mates(NONE), 0);
            is("the first row", none.mates(0) * 10 + none.mates(1), 1);
            noSuch("below none", none, y -> y.mates(-2));
            noSuch("no such zip", none, y -> y.mates(2));
            is("all full", of(even(16, 9) + even(16, 9) + even(16, 9) + even(16, 9)).mates(NONE), 576);
        });
        sentence("which RIGHT one (its ZIP) a LEFT one gets: of like ones the first row (by LEFT ones: the RIGHT one)", () -> {
            SlideZips like = of("zip 5 to 5;zip 5 to 5;zip 5 to 5;zip 5 to 5;");
            // Left 3 needs right 0, all others are free: 1, 2, 3 in their order.
            SlideZips last = of("zip 1 to 9;zip 1 to 1;zip 1 to 1;zip 9 to 1;");
            int[] due = {1, 2, 3, 0};
            for (int i = 0; i < 4; i++) {
                is("like " + i, like.mates(i), i);
                is("last " + i, last.mates(i), due[i]);
            }
        });
    }

    // ---- what to do ----

    private static void toPinch() {
        sentence("TO PINCH: the PLACE of a ZIP both of whose TEETH, GRIP 1 more each now (if there is one, and it is below 9), leave most PLACES CLOSED", () -> {
            is("both of 3", of("zip 3 to 3;").toPinch(0, 1), 0);
            is("the left of 3, the right of 9", of("zip 3 to 9;").toPinch(0, 1), 0);
            is("the right of 3, the left of 9", of("zip 9 to 3;").toPinch(0, 1), 0);
            is("both of 8", of("zip 8 to 8;strain 9;").toPinch(0, 1), 0);
            is("both of 9", of("zip 9 to 9;pulls 10;").toPinch(0, 1), NONE);
            is("the left one lacks", of("zip 0 to 3;pulls 1;").toPinch(0, 1), NONE);
            is("the right one lacks", of("zip 3 to 0;pulls 1;").toPinch(0, 1), NONE);
            is("2 is too little", of("zip 2 to 2;").toPinch(0, 60), NONE);
            is("the top of 16", of(even(15, 9).replace(" to", " 3 to").replace(";", " 3;") + "pulls strain;").toPinch(0, 60), 15);
            is("most", of("zip 3 9 3 4 4 to 3 9 3 4 4;pulls strain+open;").toPinch(0, 1), 2);
            is("the one that saves its neighbours", of("zip 3 0 5 3 5 to 3 9 5 3 5;pulls strain+open;").toPinch(0, 1), 3);
        });
        sentence("behind so many DAYS (1 to 60), if more than without (of like ones the lowest); none", () -> {
            is("of like ones", of("zip 9 3 9 3 to 9 3 9 3;pulls strain;").toPinch(0, 60), 1);
            is("no more than without", of("zip 9 9 to 9 9;").toPinch(0, 60), NONE);
            is("of an open one", of("zip 0 to 0;").toPinch(0, 60), NONE);
            SlideZips late = of("zip 8 to 8;pulls (day=59)*9;");
            is("59", late.toPinch(0, 59), NONE);
            is("60", late.toPinch(0, 60), 0);
            SlideZips open = of("zip 3 3 to 3 3;pulls strain;");
            open.slide(0, 0);
            is("pinching closes nothing", open.toPinch(0, 1), NONE);
        });
    }

    private static void toSlideAndSet() {
        sentence("TO SLIDE: the HEIGHT to which its SLIDER should be SLID now, so that most are (of like ones the least): which; how many", () -> {
            SlideZips none = of("zip 0 0 to 0 0;");
            is("nothing holds", none.toSlide(0, 60, 0) * 10 + none.toSlide(0, 60, 1), 0);
            SlideZips all = of(even(16, 9));
            is("the top", all.toSlide(0, 60, 0) * 100 + all.toSlide(0, 60, 1), 1616);
            SlideZips unlike = of("zip 9 0 9 to 9 9 9;strain 0;");
            is("to 3, two closed", unlike.toSlide(0, 60, 0) * 10 + unlike.toSlide(0, 60, 1), 32);
            SlideZips lacking = of("zip 9 9 0 0 to 9 9 9 9;strain 0;");
            is("of like ones", lacking.toSlide(0, 1, 0), 2);
            is("how many", lacking.toSlide(0, 1, 1), 2);
            SlideZips late = of("zip 9 9 9 to 9 9 9;pulls (day=59)*(open=0)*99;");
            is("59", late.toSlide(0, 59, 0) * 10 + late.toSlide(0, 59, 1), 33);
            // On the last day only what has an open neighbour stays: one place, whatever the height.
            is("60", late.toSlide(0, 60, 0) * 10 + late.toSlide(0, 60, 1), 11);
            SlideZips all1 = of("zip 9 to 9;pulls 99;");
            is("all is lost", all1.toSlide(0, 1, 0) * 10 + all1.toSlide(0, 1, 1), 0);
            SlideZips low = of("zip 9 9 9 to 9 9 9;strain 0;");
            low.slide(0, 0);
            is("wherever it is", low.toSlide(0, 1, 0), 3);
            is("nothing is changed", low.zip(0, 1), 0);
        });
        sentence("TO SET: the PLACE of a ZIP with no TOOTH, or one alone, at which lacking TEETH, SET now with GRIP 9 each", () -> {
            is("both lack", of("zip 0 to 0;").toSet(0, 60), 0);
            is("the left one lacks", of("zip 9 0 9 to 9 9 9;").toSet(0, 60), 1);
            is("the right one lacks", of("zip 9 9 9 to 9 9 0;").toSet(0, 60), 2);
            is("grip 9, not more", of("zip 9 0 to 9 0;strain 9;").toSet(0, 60), 1);
            // What is there stays as it is: 3 doesn't hold, 5 does.
            is("the other tooth stays", of("zip 0 0 to 3 5;pulls strain;").toSet(0, 1), 1);
            is("also a right one", of("zip 0 9 to 3 0;pulls strain;").toSet(0, 1), 1);
            is("also both", of("zip 0 0 to 3 0;pulls strain;").toSet(0, 1), 1);
            is("the left one stays", of("zip 3 5 to 0 0;pulls strain;").toSet(0, 1), 1);
            is("the top of 16", of(even(15, 9).replace(" to", " 0 to").replace(";", " 9;")).toSet(0, 60), 15);
        });
        sentence("and the SLIDER SLID to the top then, leave most CLOSED behind so many DAYS (1 to 60; of like ones the lowest); none, if no TOOTH lacks", () -> {
            is("no tooth lacks", of(even(16, 1)).toSet(0, 60), NONE);
            is("of like ones", of("zip 9 0 9 0 to 9 9 9 9;pulls 0;").toSet(0, 60), 1);
            is("all is lost: the lowest that lacks", of("zip 9 0 0 to 9 9 9;pulls 99;").toSet(0, 1), 1);
            is("most", of("zip 5 0 5 5 0 5 to 5 9 5 5 9 5;strain 4;pulls strain+open*2;").toSet(0, 1), 1);
            is("most", of("zip 0 0 5 5 0 5 to 9 9 5 5 9 5;strain 4;pulls strain+open*2;").toSet(0, 1), 4);
            SlideZips down = of("zip 9 9 0 to 9 9 0;strain 0;");
            down.slide(0, 0);
            is("slid to the top then", down.toSet(0, 1), 2);
            is("nothing is changed", down.count(4) * 10 + down.zip(0, 1), 360);
            SlideZips late = of("zip 0 0 to 5 9;pulls (day=59)*6;");
            is("59", late.toSet(0, 59), 0);
            is("60", late.toSet(0, 60), 1);
        });
    }

    // ---- what was seen ----

    private static void notes() {
        sentence("NOTED (at most 8): that a PLACE of a ZIP was CLOSED, or OPEN, behind so many DAYS (0 to 20)", () -> {
            SlideZips x = of(even(16, 9) + "zip 9 to 9;strain 0;pulls (day=19)*99;");
            is("0", x.note(0, 15, 0, true), 1);
            is("19", x.note(0, 15, 19, true), 2);
            is("20", x.note(0, 15, 20, false), 3);
            is("another zip", x.note(1, 0, 20, false), 4);
            is("all is so", x.forced(2), 1);
            for (int i = 5; i <= 8; i++) {
                is("the same again", x.note(0, 0, 19, true), i);
            }
            is("all is so", x.forced(2), 1);
            x.forget();
            x.note(0, 15, 20, true);
            is("it isn't", x.forced(2), 0);
            x.forget();
            x.note(1, 0, 19, false);
            is("it isn't", x.forced(2), 0);
        });
        sentence("NONE (STATUS 2): there are 8, not 0 to 20. NoSuchElementException (ahead): no such ZIP, PLACE", () -> {
            SlideZips x = of("zip 9 9 to 9 9;");
            int refused = 0;
            for (int days : new int[] {-1, LEAST, 21, 22, 32, GREATEST}) {
                is("days " + days, x.note(0, 0, days, true), NONE);
                refused++;
                is("status", x.count(11), refused);
            }
            is("none", x.count(7), 0);
            for (int i = 1; i <= 8; i++) {
                is("noted", x.note(0, 1, 20, true), i);
            }
            is("a ninth", x.note(0, 0, 0, false), NONE);
            is("both", x.note(0, 0, 21, true), NONE);
            is("status", x.count(11), refused + 2);
            is("8", x.count(7), 8);
            noSuch("zip", x, y -> y.note(1, 0, 0, true));
            noSuch("place", x, y -> y.note(0, 2, 21, true));
            noSuch("place", x, y -> y.note(0, -1, 21, true));
            is("status stays", x.count(11), refused + 2);
            is("no act", x.count(6), 0);
        });
    }

    private static void forced() {
        sentence("FORCED: numbers of STRAIN (0 on, as they are told; none without) and others in place of one, on all its DAYS (0 to 9)", () -> {
            SlideZips eight = of("zip 8 to 8;strain 1 1 1 1 1 1 1 1;pulls strain;");
            is("nothing noted: each by nine", eight.forced(0), 72);
            is("the first", eight.forced(1), 0);
            eight.note(0, 0, 7, true);
            eight.note(0, 0, 8, false);
            is("the last number, by 9 alone", eight.forced(0), 1);
            is("79", eight.forced(1), 79);
            is("without", eight.forced(2), 0);
            SlideZips one = of("zip 1 to 1;strain 2;pulls strain*2;");
            one.note(0, 0, 1, true);
            is("by 0 alone", one.forced(0), 1);
            is("0", one.forced(1), 0);
            SlideZips told = of("zip 9 to 9;strain 0;");
            is("not by the one that is told", told.forced(0), 9);
            is("so the first is 1", told.forced(1), 1);
            // On all its days: the second number is that of days 1 and 3.
            SlideZips all = of("zip 5 9 to 5 9;strain 0 0;pulls strain*(place=0 and day=1 or place=1 and day=3)*2;");
            all.note(0, 0, 2, false);
            all.note(0, 1, 4, true);
            is("3 and 4", all.forced(0), 2);
            is("first", all.forced(1), 13);
            SlideZips none = of("zip 1 to 1;");
            is("without strain", none.forced(0), 0);
            is("without strain", none.forced(1), NONE);
            is("it is so without", none.forced(2), 1);
            none.note(0, 0, 1, true);
            is("by 4 it isn't", none.forced(2), 0);
            SlideZips as = of("zip 5 to 5;strain 9 9;");
            as.note(0, 0, 1, false);
            is("so as it is told", as.forced(2), 1);
        });
        sentence("by one of which from now on all NOTED would be so: how many; the first (10 by which, and the other one); whether it is so without (1)", () -> {
            SlideZips x = of("zip 5 to 5;strain 1 2 3;pulls strain;");
            x.note(0, 0, 1, false);
            is("the first day", x.forced(0), 4);
            is("6", x.forced(1), 6);
            x.days(1);
            is("from now on it is the second", x.forced(1), 16);
            x.days(1);
            is("and the third", x.forced(1), 26);
            x.note(0, 0, 0, true);
            is("as it is now", x.forced(0), 4);
            x.note(0, 0, 0, false);
            is("and isn't", x.forced(0), 0);
            is("none", x.forced(1), NONE);
            SlideZips bare = of("strain 1 2;");
            is("without zips", bare.forced(0) * 10 + bare.forced(1), 180);
            is("without zips", bare.forced(2), 1);
            SlideZips two = of("zip 5 to 5;zip 7 to 7;strain 0;pulls strain;");
            two.note(0, 0, 1, false);
            two.note(1, 0, 1, true);
            is("of both zips", two.forced(0) * 10 + two.forced(1), 26);
        });
    }

    private static void looks() {
        sentence("LOOK NEXT: the ZIP of which behind 6 DAYS by these most unlike numbers of PLACES are CLOSED (of like ones the least): how many unlike numbers; none without any", () -> {
            SlideZips sixth = of("zip 5 to 5;strain 4;pulls strain*(day=5);");
            is("the sixth day", sixth.look(0) * 10 + sixth.look(1), 2);
            SlideZips seventh = of("zip 5 to 5;strain 4;pulls strain*(day=6);");
            is("the seventh", seventh.look(0) * 10 + seventh.look(1), 1);
            SlideZips many = of("zip 5 to 5;zip 1 2 3 4 5 6 7 8 9 to 9 9 9 9 9 9 9 9 9;strain 0;pulls strain;");
            is("nine numbers", many.look(0) * 10 + many.look(1), 19);
            SlideZips full = of(even(16, 5) + "strain 0;pulls strain;");
            is("16 or none", full.look(1), 2);
            is("the first day, too", of("zip 5 to 5;strain 4;pulls strain*(day=0);").look(1), 2);
            is("by 0 alone it is closed", of("zip 1 to 1;strain 5;pulls strain*2;").look(1), 2);
            is("by 9 alone it is open", of("zip 8 to 8;strain 5;pulls strain;").look(1), 2);
            is("not by what is told", of("zip 5 to 5;strain 5;pulls (strain=5)*99;").look(1), 1);
            is("by the second number alone", of("zip 5 to 5;strain 1 1;pulls (strain=0)*(day=1)*99;").look(1), 2);
            is("by the eighth, if it came", of("zip 5 to 5;strain 1 1 1 1 1 1 1 1;pulls (strain=0)*(day=7)*99;").look(1), 1);
            SlideZips like = of("zip 9 to 9;zip 5 to 5;zip 5 to 5;strain 4;pulls strain;");
            is("of like ones", like.look(0), 1);
            like.note(1, 0, 1, true);
            like.note(2, 0, 1, false);
            is("without any", like.look(0), NONE);
            is("without any", like.look(1), 0);
            like.forget();
            like.note(1, 0, 1, true);
            is("by these alone", like.look(0) * 10 + like.look(1), 1);
            SlideZips none = of("zip 5 to 5;");
            is("no strain told", none.look(0) + 10 * none.look(1), NONE);
            SlideZips bare = of("strain 5;");
            is("no zips", bare.look(0) + 10 * bare.look(1), NONE);
        });
    }

    // ---- wind, a game, years ----

    private static void winds() {
        sentence("WIND: each of so many DAYS (1 to 5) is windy with so many tenths (0 to 10): its STRAIN is 9, else 0, whatever was told", () -> {
            SlideZips x = of("zip 8 to 8;zip 9 to 9;zip 0 to 9;zip 1 to 1;strain 9;pulls strain;");
            int[] tens = {1, 10, 100, 1000, 10000, 100000};
            for (int days = 1; days <= 5; days++) {
                for (int tenths = 0; tenths <= 10; tenths++) {
                    int due = 1;
                    for (int i = 0; i < days; i++) {
                        due *= 10 - tenths;
                    }
                    is("no windy one of " + days + " by " + tenths, x.wind(0, 0, days, tenths), due);
                }
                is("it bears 9", x.wind(1, 0, days, 10), tens[days]);
                is("open", x.wind(2, 0, days, 0), 0);
                is("else 0", x.wind(3, 0, days, 0), tens[days]);
            }
            SlideZips zero = of("zip 9 to 9;strain 5;pulls (strain=0)*99;");
            is("never calm", zero.wind(0, 0, 3, 4), 64);
            SlideZips without = of("zip 3 to 3;");
            is("not 4 without", without.wind(0, 0, 2, 0), 100);
            SlideZips day = of("zip 9 to 9;pulls (strain=9)*(day=7)*99;");
            is("not on these days", day.wind(0, 0, 5, 10), 100000);
            day.days(3);
            is("on the fifth", day.wind(0, 0, 5, 3), 70000);
            day.days(1);
            is("on the fourth", day.wind(0, 0, 4, 3), 7000);
            is("not in three", day.wind(0, 0, 3, 3), 1000);
        });
    }

    private static void likely() {
        sentence("how likely a PLACE is CLOSED behind them: as so many of 10 to the power of these DAYS", () -> {
            // Open only if the first day is windy and the second calm.
            SlideZips x = of("zip 9 9 to 9 9;pulls (place=1)*(day=0)*(strain=9)*99+(place=0)*(day=1)*(strain=0)*open*99;");
            is("one day", x.wind(0, 1, 1, 3), 7);
            is("the other place, one day", x.wind(0, 0, 1, 3), 10);
            is("two days", x.wind(0, 0, 2, 3), 100 - 3 * 7);
            is("five days", x.wind(0, 0, 5, 3), 100000 - 21000);
            is("certain", x.wind(0, 0, 5, 0), 100000);
            is("certain", x.wind(0, 0, 5, 10), 100000);
            is("never", x.wind(0, 1, 5, 10), 0);
            is("one tenth", x.wind(0, 1, 5, 9), 10000);
        });
    }

    private static void games() {
        sentence("each gains 2 for each PLACE that is CLOSED in one's own behind 6 DAYS, and loses 1 for each that is in the other's, and 3, if one SLIDES (be it at the top already)", () -> {
            SlideZips x = of("zip 9 9 to 9 9;zip 9 9 to 9 9;strain 0;");
            is("at the top already", x.game(0, 1, 1), 0);
            x.slide(0, 1);
            is("one more is too little", x.game(0, 1, 1), 0);
            x.slide(0, 0);
            is("two more are enough", x.game(0, 1, 1), 10);
            is("the other way", x.game(1, 0, 1), 1);
            x.slide(1, 0);
            is("both", x.game(0, 1, 1), 11);
            is("one couple", x.game(0, 1, 0), 1);
            SlideZips six = of("zip 9 9 to 9 9;zip 9 to 9;pulls (day=5)*99;");
            six.slide(0, 0);
            is("behind 6 days all is open", six.game(0, 1, 1), 0);
            six.days(6);
            is("no longer", six.game(0, 1, 1), 10);
            SlideZips seven = of("zip 9 9 to 9 9;zip 9 to 9;pulls (day=6)*99;");
            seven.slide(0, 0);
            is("behind 6 days all is closed", seven.game(0, 1, 1), 10);
        });
        sentence("A couple RESTS, if neither gains more by the other choice: how many; the first (10 by the first one's, and the other one's)", () -> {
            SlideZips x = of(even(16, 9) + even(16, 9) + "zip 0 to 0;strain 0;");
            x.slide(0, 0);
            is("16 more", x.game(0, 1, 1), 10);
            is("nothing holds in the other's", x.game(0, 2, 1), 10);
            is("nor in one's own", x.game(2, 0, 1), 1);
            is("always one", x.game(2, 1, 0), 1);
        });
    }

    private static int next(int seed) {
        return seed * 1103515245 + 12345;
    }

    private static int draw(int seed, int many) {
        return (seed << 1 >>> 17) % many;
    }

    /** All grips behind so many days in which nothing bursts, zip by zip left ahead of right; all are closed at first. */
    private static int[] yearsWithoutBursts(int seed, int days, int[][][] grips) {
        int[][] open = new int[grips.length][16];
        int s = seed;
        for (int day = 0; day < days; day++) {
            s = next(s);
            int change = draw(s, 6);
            if (change > 2) {
                continue;
            }
            s = next(s);
            int zip = draw(s, grips.length);
            int places = grips[zip][0].length;
            if (change == 0) {
                for (int at = 0; at < places; at++) {
                    open[zip][at] = bit(grips[zip][0][at] == 0 || grips[zip][1][at] == 0);
                }
                continue;
            }
            s = next(s);
            int at = draw(s, places);
            s = next(s);
            int[] tape = grips[zip][draw(s, 2)];
            if (change == 1 && tape[at] >= 1 && tape[at] <= 8) {
                tape[at]++;
            } else if (change == 2 && tape[at] > 0) {
                tape[at]--;
                open[zip][at] = open[zip][at] | bit(tape[at] == 0);
            }
        }
        int closed = 0;
        int sum = 0;
        for (int zip = 0; zip < grips.length; zip++) {
            for (int at = 0; at < grips[zip][0].length; at++) {
                closed += 1 - open[zip][at];
                sum += grips[zip][0][at] + grips[zip][1][at];
            }
        }
        return new int[] {closed, sum};
    }

    private static void years() {
        sentence("YEARS by a seed: n DAYS (0 to 60) from now on", () -> {
            SlideZips x = of("zip 9 9 to 9 9;coil 5 to 5;pulls 99;");
            for (int seed : new int[] {0, 1, -1, LEAST, GREATEST}) {
                is("no days, no bursts", x.years(seed, 0, 0), 0);
                is("no days: closed as now", x.years(seed, 0, 1), 3);
                is("no days: grips as now", x.years(seed, 0, 2), 46);
            }
            SlideZips late = of("zip 9 9 9 9 9 9 9 9 to 9 9 9 9 9 9 9 9;coil 9 to 9;pulls (day=59)*99;wears 0;");
            is("59", late.years(3, 59, 0), 0);
            is("60", late.years(3, 60, 0), 9);
            SlideZips later = of("zip 9 to 9;pulls (day=60)*99;");
            is("61", later.years(3, 60, 0), 0);
            illegal("61 days", later, y -> y.years(3, 61, 0));
            illegal("-1 days", later, y -> y.years(3, -1, 0));
            later.days(1);
            is("from now on", later.years(3, 60, 0), 1);
        });
        sentence("A seed becomes itself times 1103515245 and 12345 (an int that wraps); a DRAW of n is its bits 16 to 30 MOD n then", () -> {
            String text = "zip 1 8 9 to 9 1 2;coil 1 to 1;zip 2 2 2 2 2 2 2 to 1 1 1 1 1 1 1;pulls 0;";
            SlideZips x = of(text);
            int[] seeds = {0, 1, 2, 5, -1, -2, LEAST, LEAST + 1, GREATEST, GREATEST - 1, 65536, -65536, 123456789, -987654321};
            for (int seed : seeds) {
                for (int days : new int[] {1, 2, 7, 20, 59, 60}) {
                    int[][][] grips = {{{1, 8, 9}, {9, 1, 2}}, {{1}, {1}}, {{2, 2, 2, 2, 2, 2, 2}, {1, 1, 1, 1, 1, 1, 1}}};
                    int[] due = yearsWithoutBursts(seed, days, grips);
                    is("closed by " + seed + " behind " + days, x.years(seed, days, 1), due[0]);
                    is("grips by " + seed + " behind " + days, x.years(seed, days, 2), due[1]);
                }
            }
            is("nothing is changed", x.count(1) * 1000 + x.count(4), 53);
            SlideZips four = of("zip 1 to 1;zip 2 to 2;zip 3 to 3;zip 4 to 4;pulls 0;");
            for (int seed : seeds) {
                int[] due = yearsWithoutBursts(seed, 60, new int[][][] {{{1}, {1}}, {{2}, {2}}, {{3}, {3}}, {{4}, {4}}});
                is("closed of four by " + seed, four.years(seed, 60, 1), due[0]);
                is("grips of four by " + seed, four.years(seed, 60, 2), due[1]);
            }
            SlideZips one = of("zip 5 to 5;pulls 0;");
            for (int seed : seeds) {
                int[] due = yearsWithoutBursts(seed, 60, new int[][][] {{{5}, {5}}});
                is("one zip of one place is drawn, too: " + seed, one.years(seed, 60, 2), due[1]);
            }
        });
        sentence("0 the SLIDER of a DRAW of ZIPS is SLID to the top; 1 in a DRAW of ZIPS the TOOTH of a DRAW of its PLACES on a DRAW of 2 tapes (0 LEFT) is PINCHED, if it may be; 2 so the GRIP of one is 1 less, if there is one", () -> {
            for (int tape = 0; tape <= 1; tape++) {
                int pinch = seedFor(0, 1, 6, 1, 2, 2, 3, tape, 2);
                int less = seedFor(0, 2, 6, 1, 2, 2, 3, tape, 2);
                for (int grip = 0; grip <= 9; grip++) {
                    String teeth = tape == 0 ? "5 5 " + grip + " to 5 5 5;" : "5 5 5 to 5 5 " + grip + ";";
                    SlideZips x = of("zip 5 to 5;zip " + teeth + "pulls 0;");
                    is("pinched, of " + grip, x.years(pinch, 1, 2), 35 + grip + bit(grip >= 1 && grip <= 8));
                    is("less, of " + grip, x.years(less, 1, 2), 35 + grip - bit(grip >= 1));
                    is("closed, pinched of " + grip, x.years(pinch, 1, 1), 3 + bit(grip > 0));
                    is("closed, less of " + grip, x.years(less, 1, 1), 3 + bit(grip > 1));
                }
            }
            SlideZips two = of("zip 5 5 to 5 5;zip 5 5 5 to 5 0 5;pulls 0;");
            two.slide(0, 0);
            two.slide(1, 1);
            is("the first to the top", two.years(seedFor(0, 0, 6, 0, 2), 1, 1), 3);
            is("the second to the top", two.years(seedFor(0, 0, 6, 1, 2), 1, 1), 2);
            for (int other = 3; other <= 5; other++) {
                is("nothing by " + other, two.years(seedFor(0, other, 6), 1, 1), 1);
                is("nothing by " + other, two.years(seedFor(0, other, 6), 1, 2), 45);
            }
        });
        sentence("(Without ZIPS the DRAWS of 6 alone. A PLACE that doesn't HOLD any more by 2 is OPEN.)", () -> {
            for (int seed : new int[] {0, 7, -1, LEAST, GREATEST}) {
                for (int what = 0; what < 3; what++) {
                    is("without zips", new SlideZips().years(seed, 60, what), 0);
                }
            }
            // Draws: 2 of 6, zip 0 of 1, place 0 of 1, then the tape.
            int seed = seedFor(LEAST, 2, 6, 0, 1, 0, 1, 0, 2);
            SlideZips x = of("zip 1 to 9;pulls 0;");
            is("open", x.years(seed, 1, 1), 0);
            is("no burst", x.years(seed, 1, 0), 0);
            is("grips", x.years(seed, 1, 2), 9);
            seed = seedFor(GREATEST - 5000000, 2, 6, 0, 1, 0, 1, 1, 2);
            is("the right one", x.years(seed, 1, 2), 9);
            is("it still holds", x.years(seed, 1, 1), 1);
            is("open ahead of the day: it can't burst", of("zip 9 to 1;pulls 99;").years(seed, 1, 0), 0);
            seed = seedFor(0, 3, 6, 2, 6, 0, 1, 0, 1, 0, 2);
            is("it held a day, then it is weaker", of("zip 5 to 5;strain 5;").years(seed, 2, 0), 1);
            seed = seedFor(0, 1, 6, 0, 1, 0, 1, 1, 2);
            is("pinched ahead of the day", of("zip 9 to 3;").years(seed, 1, 0), 0);
            seed = seedFor(0, 5, 6, 0, 6, 0, 1);
            is("slid ahead of the day", of("coil 9 to 9;pulls 99;").years(seed, 2, 0), 2);
        });
    }

    /** The first seed from one on by which draws (the answer, of how many) are these. */
    private static int seedFor(int from, int... draws) {
        for (int i = 0; i < 5000000; i++) {
            int s = from + i;
            boolean fits = true;
            for (int k = 0; fits && k < draws.length; k += 2) {
                s = next(s);
                fits = draw(s, draws[k + 1]) == draws[k];
            }
            if (fits) {
                return from + i;
            }
        }
        throw new IllegalStateException("no such seed");
    }

    // ---- promises 35 to 39 ----

    private static void calmAndWorst() {
        sentence("In how many of so many DAYS, if only these go by, nothing BURSTS anywhere. IllegalArgumentException: not 1 to 60", () -> {
            is("1", burstsOn(0).calm(1), 0);
            is("59", burstsOn(59).calm(59), 59);
            is("60", burstsOn(59).calm(60), 59);
            is("the next", burstsOn(60).calm(60), 60);
            is("anywhere", of("zip 0 to 0;zip 9 to 9;zip 9 to 9;pulls (day=3)*99;").calm(60), 59);
            is("two on unlike days", of("zip 1 to 1;zip 2 to 2;strain 0 2 3;").calm(60), 58);
            is("without zips", new SlideZips().calm(1), 1);
            is("without zips", new SlideZips().calm(60), 60);
            for (int days : new int[] {0, -1, LEAST, 61, GREATEST}) {
                illegal("days " + days, burstsOn(0), y -> y.calm(days));
            }
        });
        sentence("on which most PLACES BURST, in all ZIPS (what 0; of like ones the first), how many (1)", () -> {
            is("the 60th", burstsOn(59).worst(60, 0) * 10 + burstsOn(59).worst(60, 1), 601);
            is("not yet", burstsOn(59).worst(59, 0) * 10 + burstsOn(59).worst(59, 1), 10);
            is("the first", burstsOn(0).worst(60, 0) * 10 + burstsOn(0).worst(1, 1), 11);
            is("never", burstsOn(60).worst(60, 0) * 10 + burstsOn(60).worst(60, 1), 10);
            is("of like ones", of("zip 9 9 9 to 9 9 9;pulls (day=place*2+1)*99;").worst(60, 0), 2);
            SlideZips all = of("zip 1 1 to 1 1;zip 5 5 to 5 5;zip 5 to 5;strain 0 2 6;");
            is("in all zips", all.worst(60, 0) * 10 + all.worst(60, 1), 33);
            is("in fewer days", all.worst(2, 0) * 10 + all.worst(2, 1), 22);
            is("64", of(even(16, 9) + even(16, 9) + even(16, 9) + even(16, 9) + "pulls 99;").worst(1, 1), 64);
            is("without zips", new SlideZips().worst(60, 0) * 10 + new SlideZips().worst(60, 1), 10);
        });
        sentence("The most PLACES of a ZIP that BURST on one of so many DAYS, if only these go by", () -> {
            is("none", burstsOn(0).most(0, 0), 0);
            is("none, by 4", of("zip 3 to 3;").most(0, 0), 0);
            is("1", burstsOn(0).most(0, 1), 1);
            is("59", burstsOn(59).most(0, 59), 0);
            is("60", burstsOn(59).most(0, 60), 1);
            is("61", burstsOn(60).most(0, 60), 0);
            SlideZips x = of("zip 1 2 2 3 to 9 9 9 9;zip 9 to 9;strain 0 2 3 9;pulls strain;");
            is("of unlike days", x.most(0, 60), 2);
            is("of two days", x.most(0, 2), 1);
            is("of this zip", x.most(1, 60), 0);
            is("16", of(even(16, 9) + "pulls 99;").most(0, 60), 16);
        });
    }

    private static void gaps() {
        sentence("How many more PLACES of a ZIP would be CLOSED, were its SLIDER SLID to the top now", () -> {
            SlideZips x = of(even(16, 9) + "zip 0 9 to 9 9;zip 0 to 0;");
            is("none", x.gap(0), 0);
            is("what lacks stays open", x.gap(1), 0);
            is("nothing holds", x.gap(2), 0);
            x.slide(0, 0);
            is("16", x.gap(0), 16);
            x.slide(0, 15);
            is("1", x.gap(0), 1);
            is("nothing is changed", x.zip(0, 1), 15);
            x.set(1, 0, 0, 1);
            is("a new tooth", x.gap(1), 1);
        });
        sentence("By how much GRIPS of two ZIPS with as many PLACES differ, all together, PLACE by PLACE, each tape with its like; NONE: they haven't", () -> {
            String nine = even(16, 9);
            SlideZips x = of(nine + nine.replace('9', '0') + even(15, 9) + "zip 1 to 9;");
            is("all", x.unlike(0, 1), 288);
            is("the other way", x.unlike(1, 0), 288);
            is("itself", x.unlike(0, 0), 0);
            is("not as many", x.unlike(0, 2), NONE);
            is("not as many", x.unlike(2, 0), NONE);
            SlideZips tapes = of("zip 1 5 to 9 5;zip 9 5 to 1 5;coil 1 5 to 9 5;");
            is("each with its like", tapes.unlike(0, 1), 16);
            is("a coil like a zip", tapes.unlike(0, 2), 0);
            is("not crosswise", of("zip 1 2 to 3 4;zip 2 1 to 3 4;").unlike(0, 1), 2);
        });
    }
}
