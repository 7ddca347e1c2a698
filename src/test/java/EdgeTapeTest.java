/** Boundaries of the TAPE: a new object, feed, end, program. */
public final class EdgeTapeTest {
    private static final Due DUE = new Due("edges of the TAPE");
    private static final int BLANKS = 0x20202020;
    private static final String PROGRAM = Due.main("return 5;");

    public static void main(String[] args) {
        newObject();
        orderOfBytes();
        fullTape();
        refusedFeeds();
        ends();
        cutWords();
        refusedEnds();
        places();
        classes();
        withoutProgram();
        heapAndInputStay();
        calls();
        DUE.close();
    }

    private static void newObject() {
        DUE.sentence("No program; HEAP 1000; an empty TAPE, no INPUT.");
        ClassHouse x = new ClassHouse();
        DUE.counts("of a new object", x, 0, 0, 0, 0, 0, 0, 0, 0);
        DUE.refused("start() of a new object", x, () -> x.start(), 0);
        DUE.refused("step(1) of a new object", x, () -> x.step(1), -1);
        DUE.is("end(1)", x.end(1), -1);
        DUE.is("end(0)", x.end(0), 0);
        DUE.is("the first feed", x.feed(0, 0, 0, 0, 0), 20);
        DUE.is("the first input", x.input(0, 0, 0), 3);
        int[] rows = {995, 996, 997};
        int[] hows = {1, 1, 3};
        for (int i = 0; i < rows.length; i++) {
            DUE.ended(Due.main("ints r = new ints[" + rows[i] + "]; return 1;"), hows[i]);
        }
        DUE.is("read of no INPUT", DUE.ended(Due.main("return read;"), 1).result(), 0);
    }

    /** One # among blanks is WRONG where it stands, whichever of the twenty bytes it is. */
    private static void orderOfBytes() {
        DUE.sentence("Twenty bytes more of the TAPE, the highest of each number first: how many it has.");
        ClassHouse x = new ClassHouse();
        for (int at = 0; at < 20; at++) {
            feedWith(x, at, '#');
            DUE.is("# as byte " + at, x.program(), -1 - at);
            feedWith(x, at, 255);
            DUE.is("255 as byte " + at, x.program(), -1 - at);
        }
        feedWith(x, 20, ' ');
        DUE.is("twenty blanks", x.program(), -1 - 20);
        DUE.is("all bits", x.feed(-1, -1, -1, -1, -1), 20);
        DUE.is("the least numbers", x.feed(Integer.MIN_VALUE, Integer.MIN_VALUE, 0, 0, Integer.MIN_VALUE), 40);
        DUE.is("the greatest numbers", x.feed(Integer.MAX_VALUE, 0, 0, 0, Integer.MAX_VALUE), 60);
        DUE.is("count(7)", x.count(7), 60);
    }

    /** Feeds twenty blanks, but for the byte at this place. */
    private static int feedWith(ClassHouse x, int at, int value) {
        int[] five = {BLANKS, BLANKS, BLANKS, BLANKS, BLANKS};
        if (at < 20) {
            int shift = 24 - 8 * (at % 4);
            five[at / 4] = five[at / 4] & ~(255 << shift) | value << shift;
        }
        return x.feed(five[0], five[1], five[2], five[3], five[4]);
    }

    private static void fullTape() {
        DUE.sentence("The TAPE has at most 3000 bytes.");
        for (int length = 2998; length <= 3000; length++) {
            String text = " ".repeat(length - PROGRAM.length()) + PROGRAM;
            ClassHouse x = new ClassHouse();
            DUE.is("a program of " + length + " bytes", Due.load(x, text), 1);
            x.start();
            DUE.is("its end", x.step(2), 1);
            DUE.is("its result", x.result(), 5);
        }
        ClassHouse x = new ClassHouse();
        for (int fed = 20; fed <= 3000; fed += 20) {
            DUE.is("feed to " + fed, feedWith(x, 20, ' '), fed);
        }
        DUE.is("count(7)", x.count(7), 3000);
        DUE.is("end(3001)", x.end(3001), -1);
        DUE.is("end(3000)", x.end(3000), 3000);
        DUE.is("end(2999)", x.end(2999), 2999);
    }

    private static void refusedFeeds() {
        DUE.sentence("-1, and nothing is done: they would be more than 3000.");
        int[] lengths = {2979, 2980, 2981, 2982, 2999, 3000};
        for (int length : lengths) {
            ClassHouse x = new ClassHouse();
            Due.feed(x, (PROGRAM + " ".repeat(length - PROGRAM.length())).getBytes());
            if (length <= 2980) {
                DUE.is("feed behind " + length, feedWith(x, 19, '#'), length + 20);
                DUE.is("program() of it", x.program(), -1 - (length + 19));
            } else {
                DUE.refused("feed behind " + length, x, () -> feedWith(x, 0, '#'), -1);
                DUE.is("end behind the TAPE", x.end(length + 1), -1);
                DUE.is("program() of what was there", x.program(), 1);
            }
        }
        emptyAgain();
    }

    private static void emptyAgain() {
        ClassHouse x = new ClassHouse();
        Due.feed(x, " ".repeat(3000).getBytes());
        DUE.refused("feed behind 3000", x, () -> feedWith(x, 20, ' '), -1);
        DUE.is("program()", x.program(), -1 - 3000);
        DUE.is("feed of an empty TAPE", feedWith(x, 20, ' '), 20);
    }

    private static void ends() {
        DUE.sentence("The TAPE keeps its first n bytes: n.");
        ClassHouse x = new ClassHouse();
        feedWith(x, 10, '#');
        DUE.is("end(20) of 20", x.end(20), 20);
        DUE.is("end(11)", x.end(11), 11);
        DUE.is("count(7)", x.count(7), 11);
        DUE.is("program(): byte 10 was kept", x.program(), -1 - 10);
        feedWith(x, 10, '#');
        DUE.is("end(10)", x.end(10), 10);
        DUE.is("feed behind it", feedWith(x, 3, '#'), 30);
        DUE.is("program(): byte 10 was not", x.program(), -1 - 13);
        feedWith(x, 10, '#');
        DUE.is("end(0)", x.end(0), 0);
        DUE.is("end(0) again", x.end(0), 0);
        DUE.is("program() of none", x.program(), -1);
    }

    /** What end() cut off belongs to no word, though it would make the last one longer. */
    private static void cutWords() {
        cut("class Main { int main() { return 123456789", "0", -1 - 42);
        cut("class Main { int main() { return 1 <", "= 2", -1 - 36);
        cut("class Main { int main() { return 1 =", "= 2", -1 - 35);
        cut("class Main { int main() { print true ", "&& true", -1 - 37);
        cut("class Main { int main() { print true &", "& true", -1 - 37);
        cut(PROGRAM + "class", "es", -1 - (PROGRAM.length() + 5));
        cut(PROGRAM + "classe", "s", -1 - PROGRAM.length());
        cut(PROGRAM, "x", 1);
        cut(PROGRAM.substring(0, PROGRAM.length() - 1), "}", -1 - (PROGRAM.length() - 1));
    }

    private static void cut(String kept, String rest, int wanted) {
        ClassHouse x = new ClassHouse();
        Due.feed(x, (kept + rest).getBytes());
        DUE.is("end() of " + kept, x.end(kept.length()), kept.length());
        DUE.is("program() of " + kept, x.program(), wanted);
    }

    private static void refusedEnds() {
        DUE.sentence("-1, and nothing is done: it has not so many, or n is below 0.");
        ClassHouse x = new ClassHouse();
        DUE.refused("end(1) of none", x, () -> x.end(1), -1);
        Due.feed(x, PROGRAM.getBytes());
        int[] numbers = {PROGRAM.length() + 1, -1, 3000, 3001, Integer.MAX_VALUE, Integer.MIN_VALUE};
        for (int n : numbers) {
            DUE.refused("end(" + n + ")", x, () -> x.end(n), -1);
        }
        DUE.is("end of what it has", x.end(PROGRAM.length()), PROGRAM.length());
        DUE.is("program() of it", x.program(), 1);
    }

    private static void places() {
        DUE.sentence("-1 less the place where it is WRONG; -10000 less the place that is BAD.");
        DUE.is("the first place", Due.load(new ClassHouse(), "#"), -1);
        DUE.is("the second place", Due.load(new ClassHouse(), " #"), -2);
        DUE.is("the last byte", Due.load(new ClassHouse(), " ".repeat(2999) + "#"), -1 - 2999);
        DUE.is("the greatest length", Due.load(new ClassHouse(), "class A {" + " ".repeat(2991)), -1 - 3000);
        DUE.is("the first NAME", Due.load(new ClassHouse(), "class Null{}"), -10000 - 6);
        DUE.is("the greatest length", Due.load(new ClassHouse(), "class A{}" + " ".repeat(2991)), -10000 - 3000);
        String late = " ".repeat(3000 - 29) + "class Main { int main() { } }";
        DUE.is("a late } that is BAD", Due.load(new ClassHouse(), late), -10000 - 2997);
    }

    private static void classes() {
        DUE.sentence("Answers how many classes it tells;");
        DUE.is("one", Due.load(new ClassHouse(), PROGRAM), 1);
        DUE.is("two", Due.load(new ClassHouse(), "class A{}" + PROGRAM), 2);
        StringBuilder text = new StringBuilder("class Main{int main(){throw new zz;}}class zz{}");
        int told = 2;
        for (int i = 0; text.length() <= 3000 - 10; i++) {
            text.append("class ").append(shortName(i)).append("{}");
            told++;
        }
        ClassHouse x = new ClassHouse();
        DUE.is("as many as there can be", Due.load(x, text.toString()), told);
        DUE.is("which are more than 300", told > 300 ? 1 : 0, 1);
        DUE.is("start()", x.start(), 1);
        DUE.is("step(2)", x.step(2), 2);
        DUE.is("the number of the second", x.result(), 6);
    }

    private static String shortName(int i) {
        String letters = "abcdefghijklmnopqrstuvwxyzABCDEFGHIJKLMNOPQRSTUVWXYZ";
        String letter = letters.substring(i % 52, i % 52 + 1);
        return i < 52 ? letter : letter + i / 52;
    }

    private static void withoutProgram() {
        DUE.sentence("With these there is no program. No run is under way.");
        String[] texts = {"", "class", "class Main { }", PROGRAM};
        int[] answers = {-1, -6, -10014, 1};
        for (int i = 0; i < texts.length; i++) {
            ClassHouse x = DUE.begun(Due.main("print 7; print 8; while (true) { } return 1;"));
            x.input(1, 2, 3);
            x.step(10);
            DUE.is("the run is under way", x.step(0), 0);
            DUE.is("program() of '" + texts[i] + "'", Due.load(x, texts[i]), answers[i]);
            DUE.is("step(0)", x.step(0), -1);
            DUE.is("step(1)", x.step(1), -1);
            DUE.counts("behind program()", x, 0, 0, 0, 0, 0, 0, 3, 0);
            DUE.is("result()", x.result(), 0);
            DUE.is("output(0)", x.output(0), 0);
            boolean fine = answers[i] > 0;
            DUE.is("start()", x.start(), fine ? 1 : 0);
            DUE.is("step(2)", x.step(2), fine ? 1 : -1);
        }
    }

    private static void heapAndInputStay() {
        String[] texts = {"class", "class Main { }", PROGRAM};
        for (String text : texts) {
            ClassHouse x = new ClassHouse();
            x.heap(20);
            x.input(16, 17, 5);
            Due.load(x, text);
            DUE.is("INPUT behind '" + text + "'", x.count(6), 3);
            Due.load(x, Due.main("ints r = new ints[read]; return 1;"));
            x.start();
            DUE.is("a row that just fits behind '" + text + "'", x.step(10), 1);
            x.start();
            DUE.is("one that is too long", x.step(10), 3);
        }
    }

    /** 1 of feed for each twenty bytes, then the others up to the 512th. */
    private static void calls() {
        DUE.sentence("An object is used for at most 512 calls after it has been made;");
        String text = Due.main("int n = 0; while (true) { n = n + 1; print n; } return 1;");
        ClassHouse x = DUE.begun(text);
        int used = (text.length() + 19) / 20 + 3;
        for (; used < 510; used++) {
            x.step(20000);
        }
        int steps = (510 - ((text.length() + 19) / 20 + 3)) * 20000;
        DUE.is("call 511", x.count(0), steps);
        // 2 STEPS ahead of the loop and 8 each time, the eighth of which prints.
        DUE.is("call 512", x.count(4), (steps - 2) / 8);
    }
}
