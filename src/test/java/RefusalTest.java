import java.lang.reflect.InvocationTargetException;
import java.lang.reflect.Method;
import java.util.ArrayList;
import java.util.Arrays;
import java.util.List;
import java.util.Set;

/**
 * For every method and every mixture of allowed and wrong arguments at their edges: which exception comes ahead, what a
 * refused call answers, what STATUS says then, and that all else stays as it was; also behind a call that only asks.
 */
public final class RefusalTest extends Checks {
    private static final String NO_SUCH = "NoSuchElementException";
    private static final String ILLEGAL = "IllegalArgumentException";
    private static final String REFUSED = "refused";
    private static final String FINE = "fine";

    /**
     * What each argument may be. Z a zip, z a zip or NONE, P a place of the first zip, p one or NONE, T a tape, Wn a what
     * below n, R from..to (else an IllegalArgumentException), A and N from..to (else refused), H a height, * any int, b a
     * boolean.
     */
    private static final String[][] METHODS = {
        {"drawer R0..20", "IllegalArgumentException: the tape has not so many, n below 0 (nothing changes)"},
        {"count W12", "9 to 11 STATUS 0 to 2. NoSuchElementException: another what"},
        {"zip Z W10", "9 BEARS (NONE). NoSuchElementException: no such ZIP (as everywhere), what"},
        {"place Z P W5", "NoSuchElementException: no such ZIP, PLACE (as everywhere), what"},
        {"days A1..20", "DAYS go by: the DAY. NONE (STATUS 1): not 1 to 20"},
        {"slide Z H", "NONE (STATUS 1): the HEIGHT isn't 0 to how many PLACES"},
        {"pinch Z T P", "NONE (STATUS 1): there is none, it has 9. NoSuchElementException (ahead): also no such tape"},
        {"set Z T P A1..9", "False (STATUS 1): there is one, grip not 1 to 9. NoSuchElementException (ahead): also no such tape"},
        {"swap Z Z", "False (STATUS 1): both are one, have not as many PLACES"},
        {"then Z R0..60 W5", "how often it BURST (4). NoSuchElementException: also another what. IllegalArgumentException (behind that): not 0 to 60"},
        {"when Z W3", "GONE (2); NONE: none. NoSuchElementException: also another what"},
        {"bursts Z P", "`int bursts(int zip, int place) throws NoSuchElementException`"},
        {"later R0..60 W2", "the BEST ZIP (1; NONE). NoSuchElementException: another what. IllegalArgumentException (behind that): not 0 to 60"},
        {"daily Z R0..60", "WORN DAILY: how often it BURSTS. IllegalArgumentException (behind NoSuchElementException): not 0 to 60"},
        {"lasts Z", "`int lasts(int zip) throws NoSuchElementException`"},
        {"tear Z P R0..99", "TEAR, as bits. IllegalArgumentException (behind NoSuchElementException): not 0 to 99"},
        {"offset Z Z W2", "OFFSET: which (what 0), how much (1). NoSuchElementException: also another what"},
        {"mesh Z Z p", "with which RIGHT PLACE (NONE: none). NoSuchElementException: no such ZIP, PLACE of the first one"},
        {"cut Z W2", "how much (1; 0: none). NoSuchElementException: also another what"},
        {"mates z", "MATES: how much (zip NONE), which RIGHT one. NoSuchElementException: no such ZIP"},
        {"toPinch Z R1..60", "TO PINCH; NONE: none. IllegalArgumentException (behind NoSuchElementException): not 1 to 60"},
        {"toSlide Z R1..60 W2", "how many (1). NoSuchElementException: also another what. IllegalArgumentException (behind that): not 1 to 60"},
        {"toSet Z R1..60", "TO SET; NONE: none. IllegalArgumentException (behind NoSuchElementException): not 1 to 60"},
        {"note Z P N0..20 b", "NONE (STATUS 2): there are 8, not 0 to 20. NoSuchElementException (ahead): no such ZIP, PLACE"},
        {"forced W3", "whether without (2). NoSuchElementException: another what"},
        {"look W2", "how many (1; 0: none). NoSuchElementException: another what"},
        {"wind Z P R1..5 R0..10", "WIND. IllegalArgumentException (behind NoSuchElementException): days, tenths"},
        {"game Z Z W2", "NoSuchElementException: also another what. IllegalArgumentException (behind that): both are one"},
        {"years * R0..60 W3", "GRIPS (2). NoSuchElementException: another what. IllegalArgumentException (behind that): n"},
        {"calm R1..60", "nothing BURSTS anywhere. IllegalArgumentException: not 1 to 60"},
        {"worst R1..60 W2", "how many (1). NoSuchElementException: another what. IllegalArgumentException (behind that): not 1 to 60"},
        {"most Z R0..60", "if only these go by. IllegalArgumentException (behind NoSuchElementException): not 0 to 60"},
        {"gap Z", "`int gap(int zip) throws NoSuchElementException`"},
        {"unlike Z Z", "`int unlike(int zip, int other) throws NoSuchElementException`"},
        {"fault", "`int fault()`"}};
    private static final Set<String> CHANGES = Set.of("drawer", "days", "slide", "pinch", "set", "swap", "note");

    private static final String[] TEXTS = {
        "zip 5 0 9 to 5 5 9;coil 1 to 9;zip 9 8 7 6 5 4 3 2 1 0 9 8 7 6 5 4 to 9 9 9 9 9 9 9 9 9 0 9 9 9 9 9 9;"
            + "zip 3 3 3 to 0 9 4;strain 3 6;wears 1+bursts;",
        "zip 8 to 9;strain 1 2 3 4 5 6 7 8;pulls strain+(day=4)*9;",
        "strain 4 5;",
        "coil 9 9 to 9 1;zip 9 1 to 8 8;"};

    private static String text;

    public static void main(String[] args) {
        for (String each : TEXTS) {
            text = each;
            for (String[] line : METHODS) {
                sentence(line[1], () -> tryAll(line[0].split(" ")));
            }
        }
        sentence("`NONE = -1`: There is none.", RefusalTest::withNothing);
        end("RefusalTest");
    }

    /** An object with acts, notes, an image, a tape, a fault's place, and unlike numbers of STATUS. */
    private static SlideZips made() {
        SlideZips x = new SlideZips();
        read(x, text);
        read(x, "  ?");
        x.days(0);
        x.days(0);
        x.days(1);
        if (x.count(0) > 0) {
            x.slide(0, x.zip(0, 0));
            x.pinch(0, 0, 0);
            for (int i = 0; i < 3; i++) {
                x.note(0, 0, 21, true);
            }
            x.note(0, 0, 2, true);
        }
        x.image();
        x.days(1);
        if (x.count(0) > 1) {
            x.slide(1, 1);
            x.note(1, 0, 1, false);
        }
        x.feed(0x3b3b3b3b, 0x3b3b3b3b, 0x3b3b3b3b, 0x3b3b3b3b, 0x3b3b3b3b);
        return x;
    }

    // ---- all that can be seen ----

    private static String status(SlideZips x) {
        return x.count(9) + " " + x.count(10) + " " + x.count(11);
    }

    private static void show(SlideZips x, StringBuilder s) {
        s.append("\n day ").append(x.count(1)).append(" acts ").append(x.count(6)).append(" noted ").append(x.count(7));
        for (int zip = 0; zip < x.count(0); zip++) {
            s.append(" | ").append(x.zip(zip, 1)).append(' ').append(x.zip(zip, 2)).append(' ').append(x.then(zip, 0, 2));
        }
    }

    /** All but STATUS as it is now; acts are undone and the image restored for it. */
    private static String seen(SlideZips x) {
        StringBuilder s = new StringBuilder("fault " + x.fault() + " tape " + x.count(8) + " zips " + x.count(0) + " strain " + x.count(2));
        s.append(" later ").append(x.later(6, 0)).append(" forced ").append(x.forced(0)).append(' ').append(x.forced(1));
        s.append(' ').append(x.forced(2)).append(" look ").append(x.look(1)).append(" years ").append(x.years(3, 20, 2));
        for (int zip = 0; zip < x.count(0); zip++) {
            for (int at = 0; at < x.zip(zip, 0); at++) {
                s.append(' ').append(x.place(zip, at, 0)).append(x.place(zip, at, 1)).append(x.place(zip, at, 3));
            }
        }
        show(x, s);
        while (x.undo() != NONE) {
            show(x, s);
        }
        s.append("\n restored ").append(x.restore()).append(' ').append(status(x)).append(' ').append(x.forced(0));
        show(x, s);
        while (x.undo() != NONE) {
            show(x, s);
        }
        return s.toString();
    }

    // ---- every mixture ----

    private static void tryAll(String[] line) {
        List<int[]> rows = new ArrayList<>();
        rows.add(new int[0]);
        SlideZips x = made();
        for (int i = 1; i < line.length; i++) {
            List<int[]> longer = new ArrayList<>();
            for (int[] row : rows) {
                for (int choice : choices(x, line[i], row)) {
                    int[] more = Arrays.copyOf(row, row.length + 1);
                    more[row.length] = choice;
                    longer.add(more);
                }
            }
            rows = longer;
        }
        for (int[] row : rows) {
            tryOne(line, row);
        }
    }

    private static int least(String kind) {
        switch (kind.charAt(0)) {
            case 'z': case 'p': return NONE;
            case 'R': case 'A': case 'N': return Integer.parseInt(kind.substring(1, kind.indexOf('.')));
            default: return 0;
        }
    }

    private static int greatest(SlideZips x, String kind, int[] row) {
        int size = row.length > 0 && row[0] >= 0 && row[0] < x.count(0) ? x.zip(row[0], 0) : 1;
        switch (kind.charAt(0)) {
            case 'Z': case 'z': return x.count(0) - 1;
            case 'P': case 'p': return size - 1;
            case 'H': return size;
            case 'T': case 'b': return 1;
            case 'W': return Integer.parseInt(kind.substring(1)) - 1;
            default: return Integer.parseInt(kind.substring(kind.indexOf('.') + 2));
        }
    }

    private static int[] choices(SlideZips x, String kind, int[] row) {
        if (kind.equals("*")) {
            return new int[] {0, LEAST, GREATEST};
        }
        int least = least(kind);
        int greatest = greatest(x, kind, row);
        if (kind.equals("b")) {
            return new int[] {0, 1};
        }
        return new int[] {LEAST, least - 1, least, (least + greatest + 1) / 2, greatest, greatest + 1, GREATEST};
    }

    private static boolean within(SlideZips x, String kind, int[] row, int i) {
        return kind.equals("*") || row[i] >= least(kind) && row[i] <= greatest(x, kind, row);
    }

    /** What is due by the document's order: no such one, then a wrong number, then a refusal. */
    private static String due(SlideZips x, String[] line, int[] row) {
        String due = FINE;
        for (int i = 0; i < row.length; i++) {
            if (!within(x, line[i + 1], row, i)) {
                char kind = line[i + 1].charAt(0);
                String now = kind == 'R' ? ILLEGAL : "AHN".indexOf(kind) >= 0 ? REFUSED : NO_SUCH;
                due = due.equals(NO_SUCH) || now.equals(NO_SUCH) ? NO_SUCH : due.equals(ILLEGAL) || now.equals(ILLEGAL) ? ILLEGAL : now;
            }
        }
        return due.equals(FINE) ? dueByState(x, line[0], row) : due;
    }

    private static String dueByState(SlideZips x, String name, int[] row) {
        switch (name) {
            case "game": return row[0] == row[1] ? ILLEGAL : FINE;
            case "swap": return row[0] == row[1] || x.zip(row[0], 0) != x.zip(row[1], 0) ? REFUSED : FINE;
            case "pinch": {
                int grip = x.place(row[0], row[2], row[1]);
                return grip == 0 || grip == 9 ? REFUSED : FINE;
            }
            case "set": return x.place(row[0], row[2], row[1]) != 0 ? REFUSED : FINE;
            default: return FINE;
        }
    }

    private static void tryOne(String[] line, int[] row) {
        SlideZips x = made();
        String call = line[0] + Arrays.toString(row) + " of " + text;
        String due = due(made(), line, row);
        String got = invoke(x, line[0], row);
        String refusal = line[0].equals("set") || line[0].equals("swap") ? "false" : "-1";
        if (due.equals(FINE)) {
            is(call + " answers", got.contains("Exception"), false);
        } else {
            is(call, got, due.equals(REFUSED) ? refusal : due);
        }
        if (due.equals(FINE) && CHANGES.contains(line[0])) {
            return;
        }
        SlideZips same = made();
        int[] more = {0, due.equals(REFUSED) && !line[0].equals("note") ? 1 : 0, due.equals(REFUSED) && line[0].equals("note") ? 1 : 0};
        is(call + ": status", status(x), same.count(9) + " " + (same.count(10) + more[1]) + " " + (same.count(11) + more[2]));
        is(call + ": all else", seen(x), seen(same));
    }

    private static String invoke(SlideZips x, String name, int[] row) {
        for (Method m : SlideZips.class.getMethods()) {
            if (m.getName().equals(name)) {
                Object[] args = new Object[row.length];
                for (int i = 0; i < args.length; i++) {
                    args[i] = m.getParameterTypes()[i] == boolean.class ? (Object) (row[i] == 1) : (Object) row[i];
                }
                try {
                    return String.valueOf(m.invoke(x, args));
                } catch (InvocationTargetException e) {
                    return e.getCause().getClass().getSimpleName();
                } catch (IllegalAccessException e) {
                    throw new IllegalStateException(e);
                }
            }
        }
        throw new IllegalStateException("no such method: " + name);
    }

    // ---- where there is nothing ----

    private static void withNothing() {
        for (String each : TEXTS) {
            SlideZips x = of(each);
            is("nothing to undo", x.undo(), NONE);
            is("no image", x.restore(), false);
            x.forget();
            is("status", status(x), "0 0 0");
            is("all else", seen(x), seen(of(each)));
            SlideZips full = of(each);
            SlideZips same = of(each);
            for (int i = 0; i < 36; i++) {
                is("feed", full.feed(i, i, i, i, i), i < 35 ? 20 * i + 20 : NONE);
                if (i < 35) {
                    same.feed(i, i, i, i, i);
                }
            }
            is("status", status(full), "0 0 0");
            is("all else", seen(full), seen(same));
        }
    }
}
