import java.io.IOException;
import java.nio.charset.StandardCharsets;
import java.nio.file.Files;
import java.nio.file.Path;

/** What the tests share: answers that are due, and texts as calls of feed, end and program. */
final class Due {
    private static final Path DOCUMENT = Path.of("../shared/DOC.md");
    // An object has 512 calls in all, so that a look at it must cost few of them.
    private static final int[] OUTPUTS_SHOWN = {0, 1, 2, 499};

    private final String title;
    private String document;
    private String sentence = "";
    private int asked;
    private int wrong;

    /** A call of an object that is made already. */
    interface Call {
        int answer();
    }

    Due(String title) {
        this.title = title;
    }

    void is(String what, long got, long want) {
        asked++;
        if (got != want) {
            wrong++;
            System.out.println(title + ": " + what + " answered " + got + ", due is " + want + sentence);
        }
    }

    /** The answers from here on are about these words, which must stand in the document, if it is there. */
    void sentence(String words) {
        if (document == null) {
            document = document();
        }
        is("the document has: " + words, document.isEmpty() || document.contains(words) ? 1 : 0, 1);
        sentence = " by: " + words;
    }

    /** The document with one blank between words, or an empty text. */
    static String document() {
        try {
            return Files.readString(DOCUMENT).replaceAll("\\s+", " ");
        } catch (IOException e) {
            return "";
        }
    }

    /** The call must be refused with this answer, and nothing that other calls show may change. */
    void refused(String what, ClassHouse x, Call call, int answer) {
        int[] ahead = shown(x);
        is(what, call.answer(), answer);
        int[] behind = shown(x);
        for (int i = 0; i < ahead.length; i++) {
            is("look " + i + " behind " + what, behind[i], ahead[i]);
        }
    }

    /** What the calls show that change nothing themselves. */
    private static int[] shown(ClassHouse x) {
        int[] seen = new int[10 + OUTPUTS_SHOWN.length];
        for (int what = 0; what < 8; what++) {
            seen[what] = x.count(what);
        }
        seen[8] = x.result();
        seen[9] = x.step(0);
        for (int i = 0; i < OUTPUTS_SHOWN.length; i++) {
            seen[10 + i] = x.output(OUTPUTS_SHOWN[i]);
        }
        return seen;
    }

    /** The answers of count(0), count(1) and so on. */
    void counts(String when, ClassHouse x, int... wanted) {
        for (int what = 0; what < wanted.length; what++) {
            is("count(" + what + ") " + when, x.count(what), wanted[what]);
        }
    }

    void close() {
        if (asked == 0) {
            System.out.println(title + ": nothing was asked");
        }
        if (wrong != 0 || asked == 0) {
            System.exit(1);
        }
        System.out.println(title + ": " + asked + " answers are as due");
    }

    static void feed(ClassHouse x, byte[] bytes) {
        for (int from = 0; from < bytes.length; from += 20) {
            int[] five = new int[5];
            for (int i = 0; i < 20; i++) {
                int b = from + i < bytes.length ? bytes[from + i] & 255 : 0;
                five[i / 4] = five[i / 4] << 8 | b;
            }
            x.feed(five[0], five[1], five[2], five[3], five[4]);
        }
        x.end(bytes.length);
    }

    static int load(ClassHouse x, String text) {
        feed(x, text.getBytes(StandardCharsets.ISO_8859_1));
        return x.program();
    }

    /** The text with its mark ^ taken out must be WRONG where the mark stood. */
    void wrongAt(String marked) {
        int place = marked.indexOf('^');
        is("WRONG: " + marked, load(new ClassHouse(), unmarked(marked)), -1 - place);
    }

    /** The text with its mark ^ taken out must be BAD where the mark stood. */
    void badAt(String marked) {
        int place = marked.indexOf('^');
        is("BAD: " + marked, load(new ClassHouse(), unmarked(marked)), -10000 - place);
    }

    void fine(String text, int classes) {
        is("fine: " + text, load(new ClassHouse(), text), classes);
    }

    private static String unmarked(String marked) {
        return marked.replace("^", "");
    }

    static String main(String body) {
        return "class Main { int main() { " + body + " } }";
    }

    /** A house whose run of the text, which must be a program, has begun. */
    ClassHouse begun(String text) {
        ClassHouse x = new ClassHouse();
        if (load(x, text) < 0) {
            is("program: " + text, 0, 1);
        }
        x.start();
        return x;
    }

    /** A house in whose run so many STEPS are done. */
    ClassHouse stepped(String text, int steps) {
        ClassHouse x = begun(text);
        x.step(steps);
        return x;
    }

    /** Runs the text to its end. */
    ClassHouse ended(String text, int how) {
        ClassHouse x = begun(text);
        is("step(20000) of " + text, x.step(20000), how);
        return x;
    }

    void prints(String text, int... wanted) {
        ClassHouse x = begun(text);
        x.step(20000);
        is("count(4) of " + text, x.count(4), wanted.length);
        for (int i = 0; i < wanted.length; i++) {
            is("output(" + i + ") of " + text, x.output(i), wanted[i]);
        }
    }

    static String repeat(String part, int times) {
        return part.repeat(times);
    }
}
