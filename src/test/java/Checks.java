import java.io.IOException;
import java.nio.charset.StandardCharsets;
import java.nio.file.Files;
import java.nio.file.Path;
import java.util.NoSuchElementException;

/** What tests share: checks that are counted, texts that are fed, and the document's words. */
class Checks {
    static final int NONE = SlideZips.NONE;
    static final int LEAST = Integer.MIN_VALUE;
    static final int GREATEST = Integer.MAX_VALUE;
    private static final String DOCUMENT = document();
    private static String about = "";
    private static int sentences = 0;
    private static int checks = 0;
    private static int wrong = 0;

    interface Call { int on(SlideZips x); }

    interface Part { void run(); }

    private static String document() {
        Path file = Path.of(System.getProperty("project.root", "."), "../shared/DOC.md");
        try {
            return Files.readString(file, StandardCharsets.UTF_8);
        } catch (IOException e) {
            return "";
        }
    }

    /** One sentence of the document, or the piece of it that names an edge, with its own test. */
    static void sentence(String words, Part test) {
        about = words;
        sentences++;
        if (!DOCUMENT.isEmpty() && !DOCUMENT.contains(words)) {
            System.out.println("the document no longer says: " + words);
        }
        try {
            test.run();
        } catch (RuntimeException e) {
            fail("threw " + e);
        }
    }

    static void fail(String what) {
        wrong++;
        System.out.println((about.isEmpty() ? "" : "\"" + about + "\": ") + what);
    }

    static void is(String what, int got, int want) {
        checks++;
        if (got != want) {
            fail(what + ": " + got + ", due is " + want);
        }
    }

    static void is(String what, boolean got, boolean want) {
        is(what, got ? 1 : 0, want ? 1 : 0);
    }

    static void is(String what, String got, String want) {
        checks++;
        if (!got.equals(want)) {
            fail(what + ":\n  " + got + "\n  due is\n  " + want);
        }
    }

    /** What a call answers, or the simple name of what it throws. */
    static String answer(SlideZips x, Call call) {
        try {
            return String.valueOf(call.on(x));
        } catch (RuntimeException e) {
            return e.getClass().getSimpleName();
        }
    }

    static void noSuch(String what, SlideZips x, Call call) {
        is(what, answer(x, call), NoSuchElementException.class.getSimpleName());
    }

    static void illegal(String what, SlideZips x, Call call) {
        is(what, answer(x, call), IllegalArgumentException.class.getSimpleName());
    }

    static int bit(boolean is) {
        return is ? 1 : 0;
    }

    /** Feeds a text, its last twenty filled up with a sign that is no token. */
    static void feed(SlideZips x, String text) {
        for (int i = 0; i < text.length(); i += 20) {
            int[] five = new int[5];
            for (int k = 0; k < 20; k++) {
                five[k / 4] = five[k / 4] << 8 | (i + k < text.length() ? text.charAt(i + k) & 255 : '?');
            }
            x.feed(five[0], five[1], five[2], five[3], five[4]);
        }
    }

    static int read(SlideZips x, String text) {
        feed(x, text);
        return x.drawer(text.length());
    }

    static SlideZips of(String text) {
        SlideZips x = new SlideZips();
        is("drawer of " + text, read(x, text), 0);
        return x;
    }

    static void fine(String text) {
        faulty(text, 0, NONE);
    }

    static void faulty(String text, int fault, int at) {
        SlideZips x = new SlideZips();
        is("drawer of " + text, read(x, text), fault);
        is("place of the fault of " + text, x.fault(), at);
        is("texts refused behind " + text, x.count(9), fault == 0 ? 0 : 1);
    }

    /** A text with the fault at its sign '@', which is taken out. */
    static void faultyAt(String marked, int fault) {
        int at = marked.indexOf('@');
        faulty(marked.substring(0, at) + marked.substring(at + 1), fault, at);
    }

    /** So many of a part, a blank between them. */
    static String times(int many, String part) {
        return (part + " ").repeat(many).trim();
    }

    /** A zip of so many places, all teeth of one grip. */
    static String even(int places, int grip) {
        return "zip " + times(places, "" + grip) + " to " + times(places, "" + grip) + ";";
    }

    static void end(String name) {
        System.out.println(name + ": " + (sentences > 0 ? sentences + " sentences, " : "") + checks + " checks, " + wrong + " wrong");
        if (wrong > 0) {
            System.exit(1);
        }
    }
}
