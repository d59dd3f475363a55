import java.lang.reflect.InvocationTargetException;
import java.lang.reflect.Method;
import java.util.ArrayList;
import java.util.Arrays;
import java.util.Comparator;
import java.util.List;
import java.util.Random;

/** Runs of calls by fixed seeds, each answer compared with the model's. */
public final class ModelTest {
    private static final int RUNS = 1500;
    private final Random random;
    private final SlideZips program = new SlideZips();
    private final Model model = new Model();
    private final List<String> calls = new ArrayList<>();
    private final List<Method> often = new ArrayList<>();
    private static final List<Method> FACE = face();

    private ModelTest(long seed) {
        random = new Random(seed);
        // Runs of unlike mixtures reach what an even one never does: 40 acts, 8 notes, the last day.
        for (Method m : FACE) {
            int times = random.nextInt(3) == 0 ? 6 : random.nextInt(3);
            for (int i = 0; i < times; i++) {
                often.add(m);
            }
        }
    }

    private static List<Method> face() {
        List<Method> all = new ArrayList<>(Arrays.asList(SlideZips.class.getDeclaredMethods()));
        all.removeIf(m -> !java.lang.reflect.Modifier.isPublic(m.getModifiers()));
        all.removeIf(m -> m.getName().equals("feed") || m.getName().equals("drawer"));
        all.sort(Comparator.comparing(Method::getName));
        return all;
    }

    public static void main(String[] args) throws Exception {
        int runs = args.length > 0 ? Integer.parseInt(args[0]) : RUNS;
        int from = args.length > 1 ? Integer.parseInt(args[1]) : 0;
        int wrong = 0;
        int calls = 0;
        for (int i = from; i < from + runs && wrong < 5; i++) {
            ModelTest test = new ModelTest(i);
            if (!test.run() || !test.readTexts()) {
                wrong++;
                System.out.println("seed " + i);
            }
            calls += test.calls.size();
        }
        System.out.println("model: " + calls + " calls, " + wrong + " runs are wrong");
        if (wrong > 0) {
            System.exit(1);
        }
    }

    private int upTo(int n) {
        return random.nextInt(n + 1);
    }

    private boolean run() throws Exception {
        int texts = 1 + upTo(3);
        boolean late = random.nextInt(10) == 0;
        for (int t = 0; t < texts; t++) {
            if (!feedText(t > 0 || random.nextInt(3) == 0 ? text() : validText())) {
                return false;
            }
            for (int i = 0; late && i < 50; i++) {
                if (!same("days", i < 49 ? 20 : upTo(20))) {
                    return false;
                }
            }
            int many = 20 + upTo(random.nextInt(4) == 0 ? 300 : 60);
            for (int i = 0; i < many; i++) {
                Method m = often.get(random.nextInt(often.size()));
                if (!same(m.getName(), arguments(m))) {
                    return false;
                }
            }
        }
        return true;
    }

    private boolean readTexts() throws Exception {
        for (int i = 0; i < 30; i++) {
            if (!feedText(random.nextInt(3) == 0 ? nested() : text())) {
                return false;
            }
        }
        return same("count", 9);
    }

    private boolean feedText(String text) throws Exception {
        for (int i = 0; i < text.length(); i += 20) {
            Object[] five = new Object[5];
            for (int w = 0; w < 5; w++) {
                int x = 0;
                for (int b = 0; b < 4; b++) {
                    int at = i + 4 * w + b;
                    x = x << 8 | (at < text.length() ? text.charAt(at) & 255 : random.nextInt(256));
                }
                five[w] = x;
            }
            if (!same("feed", five)) {
                return false;
            }
        }
        if (random.nextInt(40) == 0) {
            for (int i = 0; i < 36; i++) {
                if (!same("feed", random.nextInt(), i, 0, -1, random.nextInt())) {
                    return false;
                }
            }
        }
        int n = random.nextInt(30) == 0 ? random.nextInt(800) - 20 : Math.min(text.length(), 700);
        return same("drawer", n) && same("fault") && same("count", 8);
    }

    // -- texts --

    private String validText() {
        StringBuilder s = new StringBuilder();
        int zips = random.nextInt(12) == 0 ? 0 : 1 + upTo(3);
        int size = 1 + upTo(15);
        String last = null;
        for (int i = 0; i < zips; i++) {
            size = random.nextInt(2) == 0 ? size : 1 + upTo(15);
            s.append(random.nextInt(4) == 0 ? "coil " : "zip ");
            int least = upTo(6);
            String tapes = numbers(size, least) + "to " + numbers(size, least) + ";";
            last = last != null && random.nextInt(5) == 0 ? last : tapes;
            s.append(last);
        }
        if (random.nextInt(4) != 0) {
            s.append(random.nextBoolean() ? "\n" : " ").append("strain ");
            int many = 1 + upTo(7);
            for (int i = 0; i < many; i++) {
                s.append(random.nextInt(3) == 0 ? upTo(9) : upTo(4)).append(' ');
            }
            s.append(";");
        }
        if (random.nextInt(3) == 0) {
            s.append("pulls ").append(usefulPull()).append(";");
        } else if (random.nextInt(3) == 0) {
            s.append("pulls ").append(expr(true, upTo(3))).append(";");
        }
        if (random.nextInt(2) == 0) {
            s.append("wears ").append(expr(false, upTo(3))).append(";");
        }
        return s.length() <= 700 ? s.toString() : validText();
    }

    private String numbers(int size, int least) {
        StringBuilder s = new StringBuilder();
        for (int i = 0; i < size; i++) {
            s.append(random.nextInt(8) == 0 ? 0 : least + upTo(9 - least)).append(' ');
        }
        return s.toString();
    }

    private String usefulPull() {
        String[] some = {"strain+open*3-place", "strain*open", "(day/3)+open", "strain + open * (hold < 4)",
            "strain+(day=5)*9", "(place<4 and not day<2)*strain + open", "strain*2/(open+1)", "hold+open-1",
            "open*open+strain/2", "strain+open+day/7", "(day-day/4*4=3 or strain<2)*7"};
        return some[random.nextInt(some.length)];
    }

    private String expr(boolean pulls, int depth) {
        int kind = depth == 0 ? upTo(1) : upTo(12);
        switch (kind) {
            case 0: return String.valueOf(random.nextInt(4) == 0 ? upTo(9999) : upTo(9));
            case 1: case 2: {
                String[] values = {"strain", "place", "hold", "day", pulls ? "open" : "bursts"};
                return values[random.nextInt(values.length)];
            }
            case 3: return "(" + expr(pulls, depth - 1) + ")";
            case 4: return "(not " + expr(pulls, depth - 1) + ")";
            default: {
                String[] ops = {" + ", "-", "*", "/", "<", "=", " or ", " and ", " and not "};
                String e = expr(pulls, depth - 1) + ops[random.nextInt(ops.length)] + expr(pulls, depth - 1);
                return random.nextBoolean() ? e : "(" + e + ")";
            }
        }
    }

    /** Rules with parentheses and nots about as many as may be. */
    private String nested() {
        boolean pulls = random.nextBoolean();
        StringBuilder s = new StringBuilder(pulls ? "pulls " : "wears ");
        int open = 0;
        int rounds = 1 + upTo(3);
        for (int r = 0; r < rounds; r++) {
            for (int i = upTo(3); i > 0; i--) {
                if (random.nextBoolean()) {
                    s.append("not ".repeat(random.nextInt(4) == 0 ? 5 + upTo(2) : upTo(1)));
                }
                int more = upTo(3);
                s.append("(".repeat(more));
                open += more;
            }
            s.append(random.nextInt(12) == 0 ? "to" : expr(random.nextInt(12) == 0 ? !pulls : pulls, upTo(1)));
            for (int i = upTo(open); i > 0; i--) {
                s.append(")");
                open--;
            }
            String[] ops = {" or ", " and ", "<", "=", "+", "-", "*", "/", " ", ";"};
            s.append(r < rounds - 1 ? ops[random.nextInt(ops.length)] : "");
        }
        s.append(")".repeat(random.nextInt(4) == 0 ? upTo(6) : open));
        return s.append(random.nextInt(6) == 0 ? "" : ";").toString();
    }

    /** A valid text, one with something put wrong, or a heap of tokens. */
    private String text() {
        int kind = upTo(5);
        if (kind <= 1) {
            return validText();
        }
        StringBuilder s = new StringBuilder(validText());
        if (kind == 5) {
            s.setLength(0);
            s.append(random.nextBoolean() ? "pulls " : "wears ");
        }
        String[] bits = {"zip ", "coil", " to ", "strain", "pulls ", "wears ", " or ", " and ", " not ", "not not not ",
            "place", "hold", "day", "open", "bursts", ";", "(", ")", "((((", "))))", "+", "-", "*", "/", "<", "=", " ", "\n", "\t",
            "Z", "\u00e9", "0", "7", "10", "9999", "10000", "00005", "00000", ">", "\0", "zip 1 to 1;", "strain 1;", "pulls 1;", "wears 1;",
            "zip 1 1 1 1 1 1 1 1 1 1 1 1 1 1 1 1 1 to 1;", "strain 1 2 3 4 5 6 7 8 9;", "not not not not not not not 1"};
        int changes = kind == 5 ? 1 + upTo(20) : 1 + upTo(2);
        for (int i = 0; i < changes; i++) {
            int at = kind == 5 ? s.length() : upTo(s.length());
            if (kind == 4) {
                at = s.indexOf(";", at) + 1;
            }
            int how = kind == 5 ? 0 : upTo(3);
            if (how <= 1) {
                s.insert(at, bits[random.nextInt(bits.length)]);
            } else if (how == 2 && at < s.length()) {
                s.delete(at, Math.min(s.length(), at + 1 + upTo(3)));
            } else {
                s.setLength(at);
            }
        }
        if (s.length() > 700) {
            s.setLength(700);
        }
        return s.toString();
    }

    // -- calls --

    private Object[] arguments(Method m) {
        String name = m.getName();
        Class<?>[] types = m.getParameterTypes();
        Object[] args = new Object[types.length];
        for (int i = 0; i < args.length; i++) {
            args[i] = types[i] == boolean.class ? (Object) random.nextBoolean() : (Object) argument(name, i);
            boolean aPlace = i == (name.equals("pinch") || name.equals("set") || name.equals("mesh") ? 2 : 1)
                && List.of("place", "bursts", "tear", "note", "wind", "pinch", "set", "mesh").contains(name);
            if (aPlace && random.nextInt(12) != 0) {
                args[i] = placeOf((Integer) args[0]);
            }
        }
        if (random.nextInt(25) == 0 && args.length > 0) {
            int i = random.nextInt(args.length);
            int[] odd = {-1, -2, 4, 5, 16, 17, 60, 61, 100, 1000, Integer.MAX_VALUE, Integer.MIN_VALUE};
            if (args[i] instanceof Integer) {
                args[i] = odd[random.nextInt(odd.length)];
            }
        }
        return args;
    }

    private int placeOf(int zip) {
        return zip < 0 || zip >= model.count(0) ? 0 : random.nextInt(model.zip(zip, 0));
    }

    private int zipNumber() {
        int zips = model.count(0);
        return zips == 0 || random.nextInt(20) == 0 ? upTo(4) : random.nextInt(zips);
    }

    private int argument(String name, int i) {
        boolean aboutDays = i == 1 && List.of("then", "daily", "toPinch", "toSlide", "toSet", "years", "most").contains(name);
        if (name.equals("count")) return upTo(11);
        if (List.of("zip").contains(name)) return i == 0 ? zipNumber() : upTo(9);
        if (name.equals("days")) return upTo(random.nextInt(4) == 0 ? 21 : 3);
        if (List.of("forced", "look").contains(name)) return upTo(2);
        if (List.of("calm", "later", "worst").contains(name)) return i == 0 ? upTo(60) : upTo(1);
        if (name.equals("years")) return i == 0 ? random.nextInt() : i == 1 ? upTo(60) : upTo(2);
        if (aboutDays) return random.nextBoolean() ? upTo(6) : upTo(60);
        if (i == 0) return name.equals("mates") && random.nextInt(3) == 0 ? -1 : zipNumber();
        switch (name) {
            case "then": case "place": return i == 1 ? upTo(15) : upTo(4);
            case "toSlide": case "offset": case "game": case "cut": return i == 1 && !name.equals("cut") ? zipNumber() : upTo(1);
            case "when": return upTo(2);
            case "slide": return upTo(17);
            case "pinch": case "set": return i == 1 ? upTo(1) : i == 2 ? upTo(15) : upTo(10);
            case "swap": case "unlike": return zipNumber();
            case "mesh": return i == 1 ? zipNumber() : upTo(16) - 1;
            case "tear": return i == 1 ? upTo(15) : random.nextBoolean() ? upTo(10) : upTo(99);
            case "note": return i == 1 ? upTo(15) : i == 2 ? upTo(random.nextBoolean() ? 3 : 21) : 0;
            case "wind": return i == 1 ? upTo(15) : i == 2 ? upTo(5) : upTo(10);
            default: return upTo(15);
        }
    }

    private boolean same(String name, Object... args) throws Exception {
        String call = name + Arrays.toString(args);
        String got = answer(program, name, args);
        String want = answer(model, name, args);
        calls.add(call + " " + got);
        if (got.equals(want)) {
            return true;
        }
        calls.forEach(System.out::println);
        System.out.println("due is " + want);
        return false;
    }

    private static String answer(Object on, String name, Object... args) throws Exception {
        Class<?>[] types = new Class<?>[args.length];
        for (int i = 0; i < args.length; i++) {
            types[i] = args[i] instanceof Boolean ? boolean.class : int.class;
        }
        Method m = on.getClass().getMethod(name, types);
        try {
            return String.valueOf(m.invoke(on, args));
        } catch (InvocationTargetException e) {
            return "throws " + e.getCause().getClass().getName();
        }
    }
}
