/** Edges of what is so and of what changes it, sentence by sentence: a day, acts, undoing, status, the image. */
public final class StateEdgeTest extends Checks {
    public static void main(String[] args) {
        atFirst();
        counts();
        zips();
        bears();
        days();
        wearing();
        slides();
        pinches();
        sets();
        swaps();
        undoing();
        status();
        images();
        end("StateEdgeTest");
    }

    // ---- what is so ----

    private static void atFirst() {
        sentence("`SlideZips()`: No ZIPS.", () -> {
            SlideZips x = new SlideZips();
            int[] due = {0, 0, 4, 0, 0, 0, 0, 0, 0, 0, 0, 0};
            for (int i = 0; i < due.length; i++) {
                is("count " + i, x.count(i), due[i]);
            }
            is("fault", x.fault(), NONE);
            noSuch("zip", x, y -> y.zip(0, 0));
            is("nothing to undo", x.undo(), NONE);
            is("no image", x.restore(), false);
            is("days go by all the same", x.days(20), 20);
            is("and are undone", x.undo(), 0);
            is("the day", x.count(1), 0);
        });
        sentence("HOLD of a PLACE: the lesser of both GRIPS", () -> {
            for (int left = 0; left <= 9; left++) {
                SlideZips x = of("zip " + times(10, "" + left) + " to 0 1 2 3 4 5 6 7 8 9;");
                for (int right = 0; right <= 9; right++) {
                    is("hold of " + left + " and " + right, x.place(0, right, 2), Math.min(left, right));
                }
            }
        });
        sentence("At first it is at the top, and all PLACES that HOLD (more than 0) are CLOSED, all others OPEN", () -> {
            SlideZips x = of("zip 1 0 1 0 9 1 to 1 1 0 0 9 9;zip 0 to 0;zip 1 to 1;" + even(16, 1));
            is("height", x.zip(0, 1), 6);
            is("closed", x.zip(0, 2), 0b110001);
            is("of one, none", x.zip(1, 1) * 10 + x.zip(1, 2), 10);
            is("of one, one", x.zip(2, 1) * 10 + x.zip(2, 2), 11);
            is("height of 16", x.zip(3, 1), 16);
            is("16", x.zip(3, 2), 0xffff);
        });
    }

    private static void counts() {
        sentence("0 ZIPS, 1 the DAY, 2 STRAIN of it, 3 how many PLACES are CLOSED, 4 all GRIPS together, 5 TWINS", () -> {
            String full = even(16, 9).substring(3);
            SlideZips x = of("zip" + full + "coil" + full + "zip" + full + "coil" + full + "strain 9;");
            is("zips", x.count(0), 4);
            is("strain", x.count(2), 9);
            is("closed", x.count(3), 64);
            is("grips", x.count(4), 1152);
            is("twins", x.count(5), 6);
            x = of("zip 0 to 0;coil 0 to 0;");
            is("closed", x.count(3), 0);
            is("grips", x.count(4), 0);
            is("twins of noughts", x.count(5), 1);
        });
        sentence("TWINS: how many couples of ZIPS have the same GRIPS on both tapes", () -> {
            is("left alone", of("zip 1 2 to 3 4;zip 1 2 to 3 5;").count(5), 0);
            is("right alone", of("zip 1 2 to 3 4;zip 1 3 to 3 4;").count(5), 0);
            is("crosswise", of("zip 1 2 to 3 4;zip 3 4 to 1 2;").count(5), 0);
            is("more places", of("zip 1 2 to 3 4;zip 1 2 0 to 3 4 0;").count(5), 0);
            is("the top place", of(even(16, 9) + even(15, 9).replace(" to", " 8 to").replace(";", " 9;")).count(5), 0);
            is("two couples", of("zip 1 to 2;coil 3 to 4;zip 1 to 2;zip 3 to 4;").count(5), 2);
            SlideZips x = of("zip 1 to 2;coil 2 to 2;");
            is("not yet", x.count(5), 0);
            x.pinch(0, 0, 0);
            is("now", x.count(5), 1);
            x.slide(0, 0);
            is("closed or not", x.count(5), 1);
        });
        sentence("6 ACTS that are kept, 7 NOTED, 8 bytes of the tape, 9 to 11 STATUS 0 to 2", () -> {
            SlideZips x = of("zip 1 to 1;");
            read(x, "?");
            x.days(0);
            x.days(21);
            x.note(0, 0, 21, true);
            x.note(0, 0, 22, true);
            x.note(0, 0, 23, true);
            x.slide(0, 0);
            for (int i = 0; i < 5; i++) {
                x.note(0, 0, i, true);
            }
            x.feed(0, 0, 0, 0, 0);
            int[] due = {1, 5, 20, 1, 2, 3};
            for (int i = 0; i < due.length; i++) {
                is("count " + (6 + i), x.count(6 + i), due[i]);
            }
        });
    }

    private static void zips() {
        sentence("Of a ZIP: 0 how many PLACES, 1 the HEIGHT of its SLIDER, 2 which are CLOSED (bits), 3 which HOLD (bits), 4 whether a COIL (1), 5 RUNS", () -> {
            SlideZips x = of("zip 0 to 0;coil 9 to 9;" + even(16, 9) + "zip 9 0 9 9 to 9 9 9 0;pulls strain;");
            int[][] due = {{1, 1, 0, 0, 0, 0, 0, NONE, NONE, 99}, {1, 1, 1, 1, 1, 1, 1, 0, 0, 9},
                {16, 16, 0xffff, 0xffff, 0, 1, 16, 0, 0, 9}, {4, 4, 0b0101, 0b0101, 0, 2, 1, 0, 0, 9}};
            for (int zip = 0; zip < due.length; zip++) {
                for (int what = 0; what < 10; what++) {
                    is("zip " + zip + ", what " + what, x.zip(zip, what), due[zip][what]);
                }
            }
            x.slide(2, 0);
            int[] open = {16, 0, 0, 0xffff, 0, 0, 0, NONE, NONE, 99};
            for (int what = 0; what < 10; what++) {
                is("open, what " + what, x.zip(2, what), open[what]);
            }
        });
        sentence("A SLIDER is at a HEIGHT (0 to how many PLACES)", () -> {
            SlideZips x = of("zip 5 to 5;" + even(16, 5) + "strain 9;");
            is("at the top", x.zip(0, 1) * 100 + x.zip(1, 1), 116);
            x.days(1);
            is("a burst leaves it", x.zip(0, 1) * 100 + x.zip(1, 1), 116);
            x.slide(0, 0);
            x.slide(1, 0);
            is("at 0", x.zip(0, 1) * 100 + x.zip(1, 1), 0);
            x.slide(0, 1);
            x.slide(1, 16);
            is("at the top", x.zip(0, 1) * 100 + x.zip(1, 1), 116);
        });
        sentence("An object is used for at most 512 calls after it has been made", () -> {
            SlideZips x = new SlideZips();
            x.feed(0x7a697020, 0x39203920, 0x746f2039, 0x20393b20, 0x20202020);
            is("read", x.drawer(20), 0);
            // 2 calls till here, 509 more, and the last one of them all.
            for (int i = 0; i < 509; i++) {
                int due = i % 3 == 0 ? 1 : i % 3 == 1 ? NONE : 2;
                is("call " + (i + 3), due == NONE ? x.pinch(0, 0, 0) : x.slide(0, due), due);
            }
            is("the 512th", x.count(10), 170);
        });
        sentence("RUNS of a ZIP: how many there are of CLOSED PLACES side by side; the LONGEST: of how many, its lowest PLACE (of like ones the lowest; none)", () -> {
            runs("0 0 0 0", 0, 0, NONE);
            runs("0", 0, 0, NONE);
            runs("1", 1, 1, 0);
            runs("0 0 0 1", 1, 1, 3);
            runs("1 0 1 0 1", 3, 1, 0);
            runs("1 0 1 1 0 1 1", 3, 2, 2);
            runs("1 1 0 1 1 1", 2, 3, 3);
            runs(times(16, "1"), 1, 16, 0);
            runs(times(8, "1 0"), 8, 1, 0);
            runs(times(8, "0 1"), 8, 1, 1);
            runs(times(15, "0") + " 1", 1, 1, 15);
            runs("1 1 1 1 1 1 1 0 1 1 1 1 1 1 1 1", 2, 8, 8);
        });
        sentence("WEAKEST: the CLOSED PLACE that HOLDS least (of like ones the lowest); none", () -> {
            is("of like ones", of("zip 9 3 4 3 to 9 9 9 9;").zip(0, 8), 1);
            is("the right one is weak", of("zip 9 9 9 to 9 9 1;").zip(0, 8), 2);
            is("all 9", of(even(16, 9)).zip(0, 8), 0);
            is("what doesn't hold isn't closed", of("zip 0 9 to 9 9;").zip(0, 8), 1);
            is("none", of("zip 0 to 9;").zip(0, 8), NONE);
            SlideZips x = of("zip 9 3 1 to 9 9 9;");
            x.slide(0, 2);
            is("below the slider", x.zip(0, 8), 1);
            x.slide(0, 0);
            is("none is closed", x.zip(0, 8), NONE);
        });
        sentence("Of a PLACE: 0 GRIP on the LEFT, 1 on the RIGHT, 2 HOLD, 3 whether CLOSED (1), 4 how many neighbours are OPEN", () -> {
            SlideZips x = of("zip 1 0 9 9 0 9 0 to 2 5 9 9 5 9 5;zip 0 to 5;");
            int[] open = {1, 0, 1, 1, 0, 2, 0};
            for (int at = 0; at < 7; at++) {
                is("open beside " + at, x.place(0, at, 4), open[at]);
            }
            is("all of place 0", x.place(0, 0, 0) * 1000 + x.place(0, 0, 1) * 100 + x.place(0, 0, 2) * 10 + x.place(0, 0, 3), 1211);
            is("of an open one", x.place(0, 1, 0) * 1000 + x.place(0, 1, 1) * 100 + x.place(0, 1, 2) * 10 + x.place(0, 1, 3), 500);
            is("of one place there is no neighbour", x.place(1, 0, 4), 0);
            x.slide(0, 0);
            is("the lowest", x.place(0, 0, 4), 1);
            is("between", x.place(0, 3, 4), 2);
            is("the top", x.place(0, 6, 4), 1);
        });
    }

    private static void runs(String left, int many, int longest, int lowest) {
        int places = left.split(" ").length;
        SlideZips x = of("zip " + left + " to " + times(places, "9") + ";");
        is("runs of " + left, x.zip(0, 5), many);
        is("longest of " + left, x.zip(0, 6), longest);
        is("its lowest of " + left, x.zip(0, 7), lowest);
    }

    private static void bears() {
        sentence("BEARS: the greatest STRAIN (0 to 99) that a DAY may have so that nothing of a ZIP BURSTS, and nothing does by any lesser one", () -> {
            for (int hold = 1; hold <= 9; hold++) {
                is("hold " + hold, of("zip " + hold + " to 9;").zip(0, 9), hold);
            }
            for (int least = 1; least <= 99; least += 14) {
                is("from " + least + " on", of("zip 9 to 9;pulls (strain=" + least + ")*99;").zip(0, 9), least - 1);
            }
            is("by 99 alone", of("zip 9 to 9;pulls (strain=99)*99;").zip(0, 9), 98);
            is("by 100 alone", of("zip 9 to 9;pulls (strain=100)*99;").zip(0, 9), 99);
            is("whatever is told", of("zip 5 to 5;strain 9;").zip(0, 9), 5);
        });
        sentence("none, if something does by 0; 99, if nothing is CLOSED now", () -> {
            is("by 0", of("zip 9 to 9;pulls (strain=0)*99;").zip(0, 9), NONE);
            is("by 0, open beside", of("zip 3 0 to 3 9;").zip(0, 9), 1);
            is("by 0, open on both sides", of("zip 0 3 0 to 3 3 3;").zip(0, 9), NONE);
            is("by 0, just held", of("zip 0 4 0 to 4 4 4;").zip(0, 9), 0);
            is("nothing closed", of("zip 0 to 9;pulls 99;").zip(0, 9), 99);
            SlideZips x = of("zip 5 to 9;pulls 99;");
            is("something", x.zip(0, 9), NONE);
            x.slide(0, 0);
            is("nothing closed any more", x.zip(0, 9), 99);
        });
    }

    // ---- a day ----

    private static void days() {
        sentence("(without it STRAIN and 2 for each neighbour that is OPEN), is more than its HOLD: it is OPEN then", () -> {
            for (int hold = 1; hold <= 9; hold++) {
                for (int strain = 0; strain <= 9; strain++) {
                    String end = ";strain " + strain + ";";
                    String alone = "zip " + hold + " to 9" + end;
                    String one = "zip " + hold + " 0 to 9 9" + end;
                    String both = "zip 0 " + hold + " 0 to 9 9 9" + end;
                    is(alone, of(alone).then(0, 1, 4), bit(strain > hold));
                    is(one, of(one).then(0, 1, 4), bit(strain + 2 > hold));
                    is(both, of(both).then(0, 1, 4), bit(strain + 4 > hold));
                }
            }
        });
        sentence("one that is CLOSED BURSTS, if what PULLS, by what is so at its turn, gives, kept to 0 to 99", () -> {
            String max = "2147*1000*1000+483*1000+647";
            is("as much as it holds", of("zip 9 to 9;pulls 9;").then(0, 1, 4), 0);
            is("one more", of("zip 9 to 9;pulls 10;").then(0, 1, 4), 1);
            is("just it", of("zip 1 to 9;pulls 1;").then(0, 1, 4), 0);
            is("99", of("zip 9 to 9;pulls 99;").then(0, 1, 4), 1);
            is("100", of("zip 9 to 9;pulls 100;").then(0, 1, 4), 1);
            is("the greatest", of("zip 9 to 9;pulls " + max + ";").then(0, 1, 4), 1);
            is("wrapped to the least", of("zip 1 to 9;pulls " + max + "+1;").then(0, 1, 4), 0);
            is("below 0", of("zip 1 to 9;pulls 0-1;").then(0, 1, 4), 0);
            is("wrapped to 10", of("zip 9 to 9;pulls " + max + "+" + max + "+12;").then(0, 1, 4), 1);
            is("an open one doesn't", of("zip 0 to 9;pulls 99;").then(0, 1, 4), 0);
            // Place 1 is still closed at the turn of place 0, but open at that of place 2.
            SlideZips x = of("zip 9 1 9 to 9 9 9;pulls (place=1)*5+(open=1)*(place=2)*99;");
            is("at its turn", x.then(0, 1, 0), 0b001);
            x = of("zip 9 9 9 to 9 9 9;pulls (place=0)*99+(place=1)*(open=1)*99+(place=2)*(open=0)*99;");
            is("at its turn", x.then(0, 1, 0), 0b100);
        });
        sentence("This is done again from 0 up, as long as any BURST in the round", () -> {
            SlideZips down = of(even(16, 9) + "pulls (place=15)*99+open*99;wears bursts;");
            is("the first in time", down.when(0, 1), 15);
            is("all", down.then(0, 1, 4), 16);
            down.days(1);
            for (int at = 0; at < 16; at++) {
                is("down, one a round: " + at, down.place(0, at, 0), Math.max(0, 9 - (15 - at)));
            }
            SlideZips up = of(even(16, 9) + "pulls (place=0)*99+open*99;wears bursts;");
            up.days(1);
            for (int at = 0; at < 16; at++) {
                is("up, all in a round: " + at, up.place(0, at, 0), Math.max(0, 9 - at));
            }
            SlideZips both = of(even(9, 9) + "pulls (place=4)*99+open*99;wears bursts;");
            both.days(1);
            int[] due = {1, 2, 3, 4, 9, 8, 7, 6, 5};
            for (int at = 0; at < 9; at++) {
                is("both ways: " + at, both.place(0, at, 1), due[at]);
            }
            // Two that begin, with one between them that has two open neighbours at last.
            SlideZips two = of(even(5, 9) + "pulls (place=0)*99+(place=4)*99+(open=2)*99;");
            is("from both sides", two.then(0, 1, 0), 0b01110);
        });
        sentence("DAYS go by (1 to 20)", () -> {
            String text = "zip 9 8 7 6 to 6 7 8 9;coil 5 5 to 5 5;zip 9 to 9;strain 1 2 3 4 5 6 7;pulls strain+open+day/4;";
            SlideZips atOnce = of(text);
            SlideZips oneByOne = of(text);
            is("20 at once", atOnce.days(20), 20);
            for (int i = 1; i <= 20; i++) {
                is("one by one", oneByOne.days(1), i);
            }
            is("it is the same", state(atOnce), state(oneByOne));
            is("one act", atOnce.count(6), 1);
            is("twenty", oneByOne.count(6), 20);
            is("undone at once", atOnce.undo(), 0);
            is("undone at once", state(atOnce), state(of(text)));
        });
        sentence("A DAY, ZIP by ZIP: PLACE by PLACE, from 0 up", () -> {
            // Of two neighbours that both burst alone, the lower one is first and is worn first.
            SlideZips x = of("zip 9 9 to 9 9;zip 9 9 to 9 9;pulls (open=0)*99;wears 3+bursts;");
            x.days(1);
            is("the lower one", x.zip(0, 2) * 10 + x.zip(1, 2), 22);
            is("it is worn", x.place(0, 0, 0) * 10 + x.place(1, 0, 1), 66);
        });
        sentence("The DAY is one more when all ZIPS are done", () -> {
            SlideZips x = of("zip 9 to 9;zip 9 to 9;zip 9 to 9;coil 9 to 9;pulls (day=1)*99;");
            is("a day", x.days(1), 1);
            is("nothing yet", x.count(3), 4);
            is("another", x.days(1), 2);
            is("all on the same", x.count(3), 0);
        });
        sentence("NONE (STATUS 1): not 1 to 20, it would be above 999", () -> {
            SlideZips x = of("zip 9 to 9;");
            int refused = 0;
            for (int many : new int[] {0, -1, LEAST, 21, 22, 1000, GREATEST}) {
                is("days " + many, x.days(many), NONE);
                refused++;
                is("status", x.count(10), refused);
            }
            is("no act", x.count(6), 0);
            is("the day stays", x.count(1), 0);
            is("1", x.days(1), 1);
            is("20", x.days(20), 21);
            for (int i = 0; i < 48; i++) {
                x.days(20);
            }
            is("981", x.count(1), 981);
            is("1001", x.days(20), NONE);
            is("1000", x.days(19), NONE);
            is("999", x.days(18), 999);
            is("1000", x.days(1), NONE);
            is("far above", x.days(GREATEST), NONE);
            is("below 0", x.days(-1), NONE);
            is("status", x.count(10), refused + 5);
            is("undone", x.undo(), 39);
            is("the day", x.count(1), 981);
            is("998", x.days(17), 998);
            is("1000", x.days(2), NONE);
            is("999", x.days(1), 999);
        });
    }

    private static void wearing() {
        sentence("gives, kept to 0 to 9 (without it 1), not below 0; not of a COIL", () -> {
            String[] rules = {"0-9999", "0-1", "0", "1", "2", "8", "9", "10", "99", "9999"};
            int[] less = {0, 0, 0, 1, 2, 8, 9, 9, 9, 9};
            for (int left : new int[] {1, 2, 5, 8, 9}) {
                for (int right : new int[] {1, 4, 9}) {
                    for (int i = 0; i < rules.length; i++) {
                        SlideZips x = of("zip " + left + " to " + right + ";pulls 99;wears " + rules[i] + ";");
                        x.days(1);
                        is("left " + left + " by " + rules[i], x.place(0, 0, 0), Math.max(0, left - less[i]));
                        is("right " + right + " by " + rules[i], x.place(0, 0, 1), Math.max(0, right - less[i]));
                        is("open", x.zip(0, 2), 0);
                    }
                }
            }
            SlideZips without = of("zip 9 1 to 1 9;pulls 99;");
            without.days(1);
            is("without it", without.place(0, 0, 0) * 1000 + without.place(0, 0, 1) * 100 + without.place(0, 1, 0) * 10
                + without.place(0, 1, 1), 8008);
            SlideZips coil = of("coil 9 1 to 1 9;pulls 99;wears 9;");
            coil.days(20);
            is("a coil", coil.count(4), 20);
            is("open", coil.zip(0, 2), 0);
            String max = "2147*1000*1000+483*1000+647";
            is("wrapped below 0", of("zip 9 to 9;pulls 99;wears " + max + "+1;").then(0, 1, 2), 18);
            is("the greatest", of("zip 9 to 9;pulls 99;wears " + max + ";").then(0, 1, 2), 0);
        });
        sentence("by what is so ahead of that (the PLACE not counted for 'bursts')", () -> {
            is("the hold ahead of it", of("zip 9 to 4;pulls 99;wears hold;").then(0, 1, 2), 5);
            is("the first counts none", of("zip 9 to 9;pulls 99;wears bursts;").then(0, 1, 2), 18);
            is("the second one", of("zip 9 9 to 9 9;pulls 99;wears bursts;").then(0, 1, 2), 34);
        });
        sentence("COILS are ZIPS whose TEETH aren't WORN when they BURST", () -> {
            SlideZips x = of("coil 3 to 3;zip 3 to 3;strain 9;");
            is("bursts each day", x.daily(0, 60), 60);
            is("a zip is worn", x.daily(1, 60), 3);
        });
        sentence("(A TOOTH of GRIP 0 is gone.)", () -> {
            SlideZips x = of("zip 1 to 5;strain 9;");
            x.days(1);
            is("left", x.place(0, 0, 0), 0);
            is("it can't be pinched", x.pinch(0, 0, 0), NONE);
            is("nor closed", x.slide(0, 1), 0);
            is("the right one is there", x.pinch(0, 1, 0), 5);
            is("so it can't be set", x.set(0, 1, 0, 9), false);
            is("a new one can", x.set(0, 0, 0, 1), true);
            is("and closed", x.slide(0, 1), 1);
        });
    }

    // ---- acts ----

    private static void slides() {
        sentence("a SLIDER is SLID to a HEIGHT (also where it is): PLACES below it that HOLD are CLOSED then, all others OPEN", () -> {
            SlideZips x = of(even(16, 9) + "zip 9 0 9 9 to 9 9 0 9;");
            for (int height = 0; height <= 16; height++) {
                is("slid to " + height, x.slide(0, height), height);
                is("closed", x.zip(0, 2), (1 << height) - 1);
                is("height", x.zip(0, 1), height);
            }
            int[] closed = {0, 1, 1, 1, 2};
            for (int height = 4; height >= 0; height--) {
                is("slid to " + height, x.slide(1, height), closed[height]);
            }
            is("none", x.zip(1, 2), 0);
            SlideZips held = of("zip 5 5 to 5 5;strain 4;");
            held.days(1);
            is("both held", held.zip(0, 2), 3);
            held.slide(0, 1);
            is("with an open neighbour it doesn't", held.then(0, 1, 4), 1);
            is("nor if it is slid so", held.toSlide(0, 1, 0) * 10 + held.toSlide(0, 1, 1), 22);
            SlideZips again = of("zip 9 5 to 9 5;strain 7;wears 1;");
            again.days(1);
            is("burst", again.zip(0, 2) * 10 + again.zip(0, 1), 12);
            is("where it is", again.slide(0, 2), 2);
            is("an act", again.count(6), 2);
            is("once more", again.slide(0, 2), 2);
            is("an act", again.count(6), 3);
        });
        sentence("NONE (STATUS 1): the HEIGHT isn't 0 to how many PLACES", () -> {
            SlideZips x = of("zip 9 9 9 to 9 9 9;zip 9 to 9;");
            x.slide(0, 2);
            int refused = 0;
            for (int height : new int[] {-1, LEAST, 4, 16, 17, 32, 35, GREATEST}) {
                is("height " + height, x.slide(0, height), NONE);
                refused++;
                is("status", x.count(10), refused);
            }
            is("of one place", x.slide(1, 2), NONE);
            is("stays", x.zip(0, 1) * 10 + x.zip(0, 2), 23);
            is("acts", x.count(6), 1);
            is("0", x.slide(0, 0), 0);
            is("3", x.slide(0, 3), 3);
            noSuch("no such zip, ahead", x, y -> y.slide(2, -1));
            noSuch("no such zip", x, y -> y.slide(-1, 0));
            is("status", x.count(10), refused + 1);
        });
    }

    private static void pinches() {
        sentence("a TOOTH is PINCHED: its GRIP is 1 more (of 1 to 8)", () -> {
            SlideZips x = of("zip 0 1 2 3 4 5 6 7 8 9 to 9 8 7 6 5 4 3 2 1 0;" + even(16, 8));
            for (int at = 0; at < 10; at++) {
                boolean leftMay = at >= 1 && at <= 8;
                is("left " + at, x.pinch(0, 0, at), leftMay ? at + 1 : NONE);
                is("left " + at, x.place(0, at, 0), leftMay ? at + 1 : at);
                is("right " + at, x.pinch(0, 1, at), leftMay ? 10 - at : NONE);
                is("right " + at, x.place(0, at, 1), leftMay ? 10 - at : 9 - at);
            }
            is("the top", x.pinch(1, 0, 15), 9);
            is("the top", x.pinch(1, 1, 15), 9);
            is("no other", x.place(1, 14, 0) * 10 + x.place(1, 14, 1), 88);
            is("no more", x.pinch(1, 0, 15), NONE);
            is("acts", x.count(6), 18);
            is("status", x.count(10), 5);
        });
        sentence("NONE (STATUS 1): there is none, it has 9. NoSuchElementException (ahead): also no such tape", () -> {
            SlideZips x = of("zip 0 9 to 9 0;");
            is("none", x.pinch(0, 0, 0), NONE);
            is("9", x.pinch(0, 0, 1), NONE);
            is("9", x.pinch(0, 1, 0), NONE);
            is("none", x.pinch(0, 1, 1), NONE);
            is("status", x.count(10), 4);
            for (int tape : new int[] {-1, 2, 3, LEAST, GREATEST}) {
                noSuch("tape " + tape, x, y -> y.pinch(0, tape, 0));
            }
            for (int place : new int[] {-1, 2, 16, 32, LEAST, GREATEST}) {
                noSuch("place " + place, x, y -> y.pinch(0, 0, place));
            }
            is("status stays", x.count(10), 4);
        });
    }

    private static void sets() {
        sentence("one is SET where there is none (GRIP 1 to 9; by both what is CLOSED stays so, what is OPEN, too)", () -> {
            for (int grip = 1; grip <= 9; grip++) {
                SlideZips x = of("zip 0 5 to 5 5;zip " + times(16, "0") + " to " + times(16, "0") + ";");
                is("left", x.set(0, 0, 0, grip), true);
                is("grip", x.place(0, 0, 0), grip);
                is("open stays open", x.zip(0, 2), 0b10);
                is("it holds", x.zip(0, 3), 0b11);
                is("right, at the top", x.set(1, 1, 15, grip), true);
                is("grip", x.place(1, 15, 1), grip);
                is("the left one isn't", x.place(1, 15, 0), 0);
                is("nor one below", x.place(1, 14, 1), 0);
            }
            SlideZips x = of("zip 5 5 to 5 5;");
            x.slide(0, 1);
            x.pinch(0, 0, 0);
            x.pinch(0, 0, 1);
            is("pinched: closed stays closed, open open", x.zip(0, 2), 0b01);
            SlideZips weak = of("zip 8 to 8;strain 0;pulls 10;");
            weak.pinch(0, 0, 0);
            is("pinched, it bursts all the same", weak.then(0, 1, 4), 1);
        });
        sentence("False (STATUS 1): there is one, grip not 1 to 9. NoSuchElementException (ahead): also no such tape", () -> {
            SlideZips x = of("zip 0 1 9 to 5 0 5;");
            int refused = 0;
            for (int grip : new int[] {0, -1, LEAST, 10, 16, 17, GREATEST}) {
                is("grip " + grip, x.set(0, 0, 0, grip), false);
                refused++;
                is("status", x.count(10), refused);
            }
            is("there is one of 1", x.set(0, 0, 1, 5), false);
            is("there is one of 9", x.set(0, 0, 2, 9), false);
            is("on the right", x.set(0, 1, 0, 9), false);
            is("both", x.set(0, 1, 0, 10), false);
            is("status", x.count(10), refused + 4);
            is("nothing is changed", x.count(4), 20);
            is("no acts", x.count(6), 0);
            for (int tape : new int[] {-1, 2, LEAST, GREATEST}) {
                noSuch("tape " + tape, x, y -> bit(y.set(0, tape, 0, 5)));
                noSuch("tape " + tape + ", ahead", x, y -> bit(y.set(0, tape, 0, 10)));
            }
            noSuch("place", x, y -> bit(y.set(0, 0, 3, 5)));
            is("status stays", x.count(10), refused + 4);
        });
    }

    private static void swaps() {
        sentence("LEFT tapes of two ZIPS with as many PLACES are SWAPPED: in both all PLACES are OPEN, SLIDERS at 0 (a COIL stays the one it was)", () -> {
            SlideZips x = of("zip 1 2 to 3 4;coil 5 6 to 7 8;" + even(16, 9) + even(16, 1));
            is("swapped", x.swap(0, 1), true);
            is("left", x.place(0, 0, 0) * 1000 + x.place(0, 1, 0) * 100 + x.place(1, 0, 0) * 10 + x.place(1, 1, 0), 5612);
            is("right stays", x.place(0, 0, 1) * 1000 + x.place(0, 1, 1) * 100 + x.place(1, 0, 1) * 10 + x.place(1, 1, 1), 3478);
            is("open", x.zip(0, 2) + x.zip(1, 2), 0);
            is("sliders", x.zip(0, 1) + x.zip(1, 1), 0);
            is("coils", x.zip(0, 4) * 10 + x.zip(1, 4), 1);
            is("others stay", x.zip(2, 2), 0xffff);
            is("16", x.swap(3, 2), true);
            is("the top", x.place(2, 15, 0) * 10 + x.place(3, 15, 0), 19);
            is("the top stays", x.place(2, 15, 1) * 10 + x.place(3, 15, 1), 91);
            is("back again", x.swap(2, 3), true);
            is("the top", x.place(2, 15, 0) * 10 + x.place(3, 15, 0), 91);
            is("but open", x.zip(2, 2), 0);
            is("acts", x.count(6), 3);
        });
        sentence("False (STATUS 1): both are one, have not as many PLACES", () -> {
            SlideZips x = of("zip 1 2 to 3 4;coil 5 to 7;zip 1 2 3 to 3 4 5;");
            is("one", x.swap(0, 0), false);
            is("fewer", x.swap(0, 1), false);
            is("more", x.swap(0, 2), false);
            is("status", x.count(10), 3);
            is("nothing is changed", x.zip(0, 1) * 10 + x.zip(0, 2), 23);
            is("no acts", x.count(6), 0);
            noSuch("no such zip", x, y -> bit(y.swap(0, 3)));
            noSuch("no such zip, twice the same", x, y -> bit(y.swap(3, 3)));
            noSuch("no such zip", x, y -> bit(y.swap(-1, 0)));
            is("status stays", x.count(10), 3);
        });
    }

    /** Day, heights, what is closed, all grips. */
    private static String state(SlideZips x) {
        StringBuilder s = new StringBuilder("day " + x.count(1));
        for (int zip = 0; zip < x.count(0); zip++) {
            s.append(" | ").append(x.zip(zip, 1)).append(' ').append(x.zip(zip, 2));
            for (int at = 0; at < x.zip(zip, 0); at++) {
                s.append(' ').append(x.place(zip, at, 0)).append(x.place(zip, at, 1));
            }
        }
        return s.toString();
    }

    private static void undoing() {
        sentence("They are UNDONE, the last one first", () -> {
            SlideZips x = of("zip 9 5 0 1 to 9 5 5 1;coil 1 2 3 4 to 0 9 9 9;zip 8 to 8;strain 1 5 9;");
            String[] ahead = new String[9];
            Call[] acts = {y -> y.days(2), y -> y.slide(0, 4), y -> y.pinch(2, 1, 0), y -> bit(y.set(0, 0, 2, 9)), y -> y.slide(1, 0),
                y -> bit(y.swap(1, 0)), y -> y.slide(0, 3), y -> y.days(20), y -> y.slide(2, 1)};
            for (int i = 0; i < acts.length; i++) {
                ahead[i] = state(x);
                acts[i].on(x);
                is("acts", x.count(6), i + 1);
            }
            for (int i = acts.length - 1; i >= 0; i--) {
                is("left", x.undo(), i);
                is("as it was", state(x), ahead[i]);
            }
            is("all", x.undo(), NONE);
        });
        sentence("days, sliding, pinching, new teeth, tapes that are swapped, all undone", () -> {
            SlideZips x = of("zip 1 2 to 3 4;coil 5 6 to 7 8;zip 9 8 to 7 6;zip 5 0 to 3 2;strain 2;");
            Call[] acts = {y -> y.slide(3, 1), y -> y.pinch(3, 1, 1), y -> bit(y.set(3, 0, 1, 9)), y -> bit(y.swap(3, 2)),
                y -> y.slide(3, 2), y -> y.days(1)};
            String[] ahead = new String[acts.length];
            for (int i = 0; i < acts.length; i++) {
                ahead[i] = state(x);
                acts[i].on(x);
                is("it is something", state(x).equals(ahead[i]), false);
            }
            for (int i = acts.length - 1; i >= 0; i--) {
                x.undo();
                is("as it was, of four", state(x), ahead[i]);
            }
            // What holds behind an act doesn't hold any more when it is undone.
            SlideZips held = of("zip 5 5 to 5 5;strain 4;");
            held.slide(0, 1);
            is("an open neighbour", held.then(0, 1, 4), 1);
            held.slide(0, 2);
            held.days(1);
            is("none", held.then(0, 1, 4), 0);
            held.undo();
            held.undo();
            is("an open neighbour again", held.then(0, 1, 4), 1);
            SlideZips calm = of("zip 9 to 9;strain 0;pulls 10;");
            calm.slide(0, 0);
            calm.undo();
            is("it bursts by 0, undone or not", calm.then(0, 1, 4), 1);
        });
        sentence("ACTS (at most 40 are kept, the latest ones)", () -> {
            SlideZips x = of(even(16, 9));
            for (int i = 1; i <= 39; i++) {
                x.slide(0, i % 17);
            }
            is("39", x.count(6), 39);
            x.slide(0, 1);
            is("40", x.count(6), 40);
            x.slide(0, 2);
            is("41", x.count(6), 40);
            x.slide(0, 3);
            is("42", x.count(6), 40);
            is("40 less 1", x.undo(), 39);
            is("the latest", x.zip(0, 1), 2);
            x.slide(0, 5);
            is("40 again", x.count(6), 40);
            for (int left = 39; left >= 0; left--) {
                is("left", x.undo(), left);
                // Acts 3 to 39 are kept, the two to 1 and 2, and the latest one.
                is("height", x.zip(0, 1), left == 39 ? 2 : left == 38 ? 1 : (left + 2) % 17);
            }
            is("the first two are no longer kept", x.zip(0, 1), 2);
            is("none", x.undo(), NONE);
            is("the first two are no longer kept", x.zip(0, 1), 2);
        });
        sentence("The last ACT is UNDONE: how many are left. NONE: there is none", () -> {
            SlideZips x = of("zip 9 to 9;");
            is("none yet", x.undo(), NONE);
            is("no status", x.count(10), 0);
            x.slide(0, 0);
            x.days(0);
            x.slide(0, 7);
            is("what was refused is no act", x.undo(), 0);
            is("height", x.zip(0, 1), 1);
            is("status stays", x.count(10), 2);
            is("none any more", x.undo(), NONE);
            x.slide(0, 0);
            is("undoing is no act", x.count(6), 1);
        });
    }

    // ---- status, the image ----

    private static void status() {
        sentence("STATUS: how many calls were refused: 0 TEXTS with a FAULT, 1 ACTS, 2 what is NOTED", () -> {
            SlideZips x = of("zip 0 9 to 9 0;zip 1 to 1;");
            for (int fault = 1; fault <= 4; fault++) {
                read(x, new String[] {"?", "zip 10", "pulls x", "strain 1;strain"}[fault - 1]);
                is("texts", x.count(9), fault);
            }
            x.days(0);
            x.slide(0, 3);
            x.pinch(0, 0, 0);
            x.set(0, 0, 1, 9);
            x.swap(0, 1);
            is("each act", x.count(10), 5);
            x.note(0, 0, 21, true);
            is("notes", x.count(11), 1);
            // None of these is a refusal.
            x.undo();
            x.restore();
            noSuch("zip", x, y -> y.slide(9, 9));
            illegal("text", x, y -> y.drawer(700));
            illegal("days", x, y -> y.calm(0));
            is("texts", x.count(9), 4);
            is("acts", x.count(10), 5);
            is("notes", x.count(11), 1);
            is("a text without a fault", read(x, "zip 1 to 1;"), 0);
            is("texts", x.count(9), 4);
        });
    }

    private static void images() {
        sentence("AN IMAGE keeps all that DAYS and ACTS change, ACTS that are kept, what is NOTED, STATUS", () -> {
            SlideZips x = of("zip 9 5 0 1 to 9 5 5 1;coil 1 2 3 4 to 0 9 9 9;strain 1 5 9;");
            read(x, "?");
            x.days(4);
            x.slide(0, 3);
            x.note(0, 0, 0, true);
            x.note(1, 0, 0, false);
            x.note(0, 0, 21, true);
            x.slide(0, 9);
            x.slide(0, 9);
            x.image();
            String kept = state(x);
            x.swap(0, 1);
            x.days(3);
            x.set(0, 0, 2, 4);
            x.slide(1, 4);
            x.pinch(1, 0, 0);
            x.note(0, 1, 1, true);
            x.note(0, 1, 99, true);
            read(x, "?");
            x.days(0);
            is("restored", x.restore(), true);
            is("all that changes", state(x), kept);
            int[] due = {2, 2, 0, 1, 2, 1};
            for (int i = 0; i < due.length; i++) {
                is("count " + (6 + i), x.count(6 + i), due[i]);
            }
            x.undo();
            is("its acts", x.zip(0, 1), 4);
            x.undo();
            is("its acts", x.count(1), 0);
            is("no more of them", x.undo(), NONE);
            // Other acts and notes in place of those that the image has.
            for (int i = 0; i < 4; i++) {
                x.slide(1, i);
            }
            x.forget();
            x.note(0, 0, 0, false);
            x.note(1, 0, 0, true);
            is("it isn't so", x.forced(2), 0);
            is("restored", x.restore(), true);
            is("all that changes", state(x), kept);
            is("its notes", x.forced(2), 1);
            is("its acts", x.undo(), 1);
            is("its acts", x.zip(0, 1) * 10 + x.zip(1, 1), 44);
            is("its acts", x.undo(), 0);
            is("its acts", x.count(1), 0);
            SlideZips held = of("zip 5 5 to 5 5;strain 4;");
            held.slide(0, 1);
            held.image();
            held.slide(0, 2);
            held.days(1);
            held.restore();
            is("an open neighbour again", held.then(0, 1, 4), 1);
        });
        sentence("AN IMAGE is kept, in place of another one", () -> {
            SlideZips x = of(even(16, 9) + "zip 1 to 1;");
            for (int i = 0; i < 45; i++) {
                x.slide(0, i % 17);
            }
            for (int i = 0; i < 8; i++) {
                x.note(0, 15, i, true);
            }
            x.image();
            is("an image is no act", x.count(6), 40);
            while (x.undo() != NONE) {
                x.forget();
            }
            is("restored", x.restore(), true);
            is("40 acts", x.count(6), 40);
            is("8 notes", x.count(7), 8);
            is("height", x.zip(0, 1), 44 % 17);
            for (int i = 39; i >= 0; i--) {
                is("undone", x.undo(), i);
            }
            is("as far as they go", x.zip(0, 1), 4);
            x.image();
            x.slide(0, 9);
            is("the other one", x.restore(), true);
            is("height", x.zip(0, 1), 4);
            is("no acts", x.count(6), 0);
        });
        sentence("It is as the IMAGE again: true. False: there is none", () -> {
            SlideZips x = of("zip 9 to 9;");
            is("none", x.restore(), false);
            x.slide(0, 0);
            is("none", x.restore(), false);
            is("nothing is changed", x.zip(0, 1), 0);
            x.image();
            for (int i = 0; i < 3; i++) {
                x.slide(0, 1);
                x.note(0, 0, 0, true);
                is("as often as one likes", x.restore(), true);
                is("height", x.zip(0, 1), 0);
                is("acts", x.count(6), 1);
                is("notes", x.count(7), 0);
            }
            is("without zips, too", read(x, ""), 0);
            is("gone", x.restore(), false);
            x.days(7);
            x.image();
            x.days(7);
            is("restored", x.restore(), true);
            is("day", x.count(1), 7);
        });
        sentence("All that is NOTED is forgotten", () -> {
            SlideZips x = of("zip 9 to 9;");
            x.forget();
            is("nothing to forget", x.count(7), 0);
            for (int i = 0; i < 9; i++) {
                x.note(0, 0, 0, false);
            }
            is("it isn't so", x.forced(2), 0);
            x.forget();
            is("none", x.count(7), 0);
            is("nothing is noted", x.forced(2), 1);
            is("status stays", x.count(11), 1);
            is("room again", x.note(0, 0, 0, true), 1);
        });
    }
}
