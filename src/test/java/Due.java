import java.nio.charset.StandardCharsets;

/** What the tests share: answers that are due, and texts as calls of feed, end and program. */
final class Due {
    private final String title;
    private int asked;
    private int wrong;

    Due(String title) {
        this.title = title;
    }

    void is(String what, long got, long want) {
        asked++;
        if (got != want) {
            wrong++;
            System.out.println(title + ": " + what + " answered " + got + ", due is " + want);
        }
    }

    void close() {
        if (asked == 0) {
            System.out.println(title + ": nothing was asked");
        }
        if (wrong != 0 || asked == 0) {
            System.exit(1);
        }
        System.out.println(title + ": " + asked + " answers are as due");
    }

    static void feed(ClassHouse x, byte[] bytes) {
        for (int from = 0; from < bytes.length; from += 20) {
            int[] five = new int[5];
            for (int i = 0; i < 20; i++) {
                int b = from + i < bytes.length ? bytes[from + i] & 255 : 0;
                five[i / 4] = five[i / 4] << 8 | b;
            }
            x.feed(five[0], five[1], five[2], five[3], five[4]);
        }
        x.end(bytes.length);
    }

    static int load(ClassHouse x, String text) {
        feed(x, text.getBytes(StandardCharsets.ISO_8859_1));
        return x.program();
    }

    /** The text with its mark ^ taken out must be WRONG where the mark stood. */
    void wrongAt(String marked) {
        int place = marked.indexOf('^');
        is("WRONG: " + marked, load(new ClassHouse(), unmarked(marked)), -1 - place);
    }

    /** The text with its mark ^ taken out must be BAD where the mark stood. */
    void badAt(String marked) {
        int place = marked.indexOf('^');
        is("BAD: " + marked, load(new ClassHouse(), unmarked(marked)), -10000 - place);
    }

    void fine(String text, int classes) {
        is("fine: " + text, load(new ClassHouse(), text), classes);
    }

    private static String unmarked(String marked) {
        return marked.replace("^", "");
    }

    static String main(String body) {
        return "class Main { int main() { " + body + " } }";
    }

    /** A house whose run of the text, which must be a program, has begun. */
    ClassHouse begun(String text) {
        ClassHouse x = new ClassHouse();
        if (load(x, text) < 0) {
            is("program: " + text, 0, 1);
        }
        x.start();
        return x;
    }

    /** Runs the text to its end. */
    ClassHouse ended(String text, int how) {
        ClassHouse x = begun(text);
        is("step(20000) of " + text, x.step(20000), how);
        return x;
    }

    void prints(String text, int... wanted) {
        ClassHouse x = begun(text);
        x.step(20000);
        is("count(4) of " + text, x.count(4), wanted.length);
        for (int i = 0; i < wanted.length; i++) {
            is("output(" + i + ") of " + text, x.output(i), wanted[i]);
        }
    }

    static String repeat(String part, int times) {
        return part.repeat(times);
    }
}
