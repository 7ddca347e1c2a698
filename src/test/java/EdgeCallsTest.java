/** Boundaries of the calls around a run: heap, input, start, step, result, output, count. */
public final class EdgeCallsTest {
    private static final Due DUE = new Due("edges of the calls");
    private static final int MIN = Integer.MIN_VALUE;
    private static final int MAX = Integer.MAX_VALUE;
    private static final String ROW = Due.main("ints r = new ints[read]; return r.size;");

    public static void main(String[] args) {
        heaps();
        heapOfTheNextRun();
        inputs();
        refusedInputs();
        starts();
        roomForMain();
        steps();
        refusedSteps();
        returned();
        thrownClasses();
        outputs();
        counts();
        countsOfARun();
        DUE.close();
    }

    private static void heaps() {
        DUE.sentence("Answers 1. -1: it is not 10 .. 10000.");
        ClassHouse x = new ClassHouse();
        Due.load(x, ROW);
        DUE.is("heap(77)", x.heap(77), 1);
        int[] wrong = {9, 10001, 0, -1, -10, MIN, MAX};
        for (int n : wrong) {
            DUE.refused("heap(" + n + ")", x, () -> x.heap(n), -1);
        }
        fills(x, 77);
        int[] right = {10, 11, 9999, 10000};
        for (int n : right) {
            DUE.is("heap(" + n + ")", x.heap(n), 1);
            fills(x, n);
        }
    }

    /** Main's object takes 2 cells and the row 2 and its numbers, so n - 4 numbers fit and n - 3 do not. */
    private static void fills(ClassHouse x, int n) {
        x.input(n - 4, n - 3, MAX);
        int[] hows = {1, 3, 3};
        for (int how : hows) {
            x.start();
            DUE.is("a run in a HEAP of " + n, x.step(10), how);
        }
    }

    private static void heapOfTheNextRun() {
        DUE.sentence("HEAP's size from the next start() on.");
        ClassHouse x = DUE.begun(Due.main("ints r = new ints[100]; r = new ints[100]; return 1;"));
        DUE.is("heap(10) in a run", x.heap(10), 1);
        DUE.is("a new that 1000 have room for", x.step(3), 0);
        DUE.is("one more", x.step(20), 1);
        x.start();
        DUE.is("the next run", x.step(20), 3);
        x.heap(10000);
        DUE.is("a run that has ended stays so", x.step(20), 3);
        x.start();
        DUE.is("the one behind it", x.step(20), 1);
        Due.load(x, ROW);
        fills(x, 10000);
    }

    private static void inputs() {
        DUE.sentence("Three numbers behind the INPUT. Answers how many are to be read.");
        ClassHouse x = DUE.begun(Due.main("while (true) { print read; } return 0;"));
        DUE.is("input(MIN, MAX, -1)", x.input(MIN, MAX, -1), 3);
        DUE.is("input(0, 1, 2)", x.input(0, 1, 2), 6);
        x.step(4);
        DUE.is("count(6) behind one read", x.count(6), 5);
        DUE.is("input(3, 4, 5)", x.input(3, 4, 5), 8);
        x.step(4 * 8);
        DUE.is("count(6)", x.count(6), 0);
        int[] wanted = {MIN, MAX, -1, 0, 1, 2, 3, 4, 5};
        for (int i = 0; i < wanted.length; i++) {
            DUE.is("read " + i, x.output(i), wanted[i]);
        }
        x.step(4);
        DUE.is("read of none", x.output(9), 0);
        DUE.is("count(6) stays", x.count(6), 0);
        DUE.is("input(7, 8, 9)", x.input(7, 8, 9), 3);
        x.step(4);
        DUE.is("read behind none", x.output(10), 7);
        x.start();
        DUE.is("INPUT stays with start()", x.count(6), 2);
    }

    private static void refusedInputs() {
        DUE.sentence("-1: they would be more than 300.");
        ClassHouse x = DUE.begun(Due.main("while (true) { print read; } return 0;"));
        for (int size = 3; size <= 300; size += 3) {
            DUE.is("input to " + size, x.input(size - 2, size - 1, size), size);
        }
        DUE.refused("input behind 300", x, () -> x.input(-1, -2, -3), -1);
        x.step(4);
        DUE.refused("input behind 299", x, () -> x.input(-1, -2, -3), -1);
        x.step(4);
        DUE.refused("input behind 298", x, () -> x.input(-1, -2, -3), -1);
        x.step(4);
        DUE.is("input behind 297", x.input(301, 302, 303), 300);
        DUE.refused("input behind 300", x, () -> x.input(-1, -2, -3), -1);
        x.step(4 * 301);
        DUE.is("all are read", x.count(6), 0);
        for (int i = 0; i < 303; i += i < 290 ? 29 : 1) {
            DUE.is("read " + i, x.output(i), i + 1);
        }
        DUE.is("read of none", x.output(303), 0);
    }

    private static void starts() {
        DUE.sentence("A run begins (no outputs, no STEPS). Answers 1; 0: there is no program.");
        ClassHouse x = new ClassHouse();
        x.input(5, 6, 7);
        DUE.refused("start() without a program", x, () -> x.start(), 0);
        Due.load(x, "class A { } class Main { int k; A a; int main() { k = k + 1; print k; a = new A; try { throw a; } catch (A b) { throw b; } } }");
        for (int taken = 0; taken <= 14; taken++) {
            DUE.is("start()", x.start(), 1);
            DUE.counts("as it begins", x, 0, 4, 4, 1, 0, 0, 3, 0);
            DUE.is("output(0)", x.output(0), 0);
            DUE.is("result()", x.result(), 0);
            DUE.is("step(" + taken + ")", x.step(taken), taken < 12 ? 0 : 2);
        }
        DUE.is("output(0): k was 0 at first each time", x.output(0), 1);
    }

    /** In a HEAP of 10 and with 7, 8, 9, 10 fields and so on; an object of A takes 2 cells. */
    private static void roomForMain() {
        DUE.sentence("(HEAP has always room for Main's object: if not, it is as large.)");
        int[] fields = {5, 6, 7, 8, 9, 10, 400};
        for (int count : fields) {
            ClassHouse x = new ClassHouse();
            x.heap(10);
            StringBuilder told = new StringBuilder();
            for (int i = 0; i < count; i++) {
                told.append("A ").append((char) ('a' + i % 26)).append(i / 26).append(";");
            }
            Due.load(x, "class Main{" + told + "int main(){a0=new A;return 1;}}class A{}");
            DUE.is("start() with " + count + " FIELDS", x.start(), 1);
            DUE.is("count(1)", x.count(1), 2 + count);
            DUE.is("count(2)", x.count(2), 2 + count);
            DUE.is("step(9)", x.step(9), count <= 6 ? 1 : 3);
            x.heap(2 + count + 1 < 10 ? 10 : 2 + count + 1);
            x.start();
            DUE.is("one cell more", x.step(9), count <= 6 ? 1 : 3);
            x.heap(2 + count + 2 < 10 ? 10 : 2 + count + 2);
            x.start();
            DUE.is("two cells more", x.step(9), 1);
        }
    }

    private static void steps() {
        DUE.sentence("n STEPS, or so many as there are. Answers 0 or how the run ended;");
        ClassHouse x = DUE.begun(Due.main("while (true) { } return 1;"));
        int[] numbers = {0, 1, 2, 19999, 20000};
        int sum = 0;
        for (int n : numbers) {
            sum += n;
            DUE.is("step(" + n + ")", x.step(n), 0);
            DUE.is("count(0)", x.count(0), sum);
        }
        for (int n = 0; n <= 5; n++) {
            ClassHouse y = DUE.begun(Due.main("return 1 + 2;"));
            DUE.is("step(" + n + ") of 4", y.step(n), n < 4 ? 0 : 1);
            DUE.is("count(0)", y.count(0), Math.min(n, 4));
            DUE.is("result()", y.result(), n < 4 ? 0 : 3);
            DUE.is("the rest", y.step(20000), 1);
            DUE.is("no more STEPS behind the end", y.step(20000), 1);
            DUE.is("count(0)", y.count(0), 4);
        }
    }

    private static void refusedSteps() {
        DUE.sentence("-1: none was begun, or n is not 0 .. 20000.");
        ClassHouse x = new ClassHouse();
        DUE.refused("step(0) without a program", x, () -> x.step(0), -1);
        Due.load(x, Due.main("print read; return 4;"));
        x.input(1, 2, 3);
        DUE.refused("step(0) ahead of a run", x, () -> x.step(0), -1);
        DUE.refused("step(1) ahead of a run", x, () -> x.step(1), -1);
        DUE.refused("step(20000) ahead of a run", x, () -> x.step(20000), -1);
        x.start();
        refuseWrongSteps(x, -1, 20001, -20000, MIN, MAX);
        DUE.is("step(1)", x.step(1), 0);
        refuseWrongSteps(x, -1, 20001);
        DUE.is("step(20000)", x.step(20000), 1);
        refuseWrongSteps(x, -1, 20001);
        DUE.is("STEPS", x.count(0), 4);
        DUE.is("result()", x.result(), 4);
    }

    private static void refuseWrongSteps(ClassHouse x, int... wrong) {
        for (int n : wrong) {
            DUE.refused("step(" + n + ")", x, () -> x.step(n), -1);
        }
    }

    private static void returned() {
        DUE.sentence("What main returned (0: it did not),");
        ClassHouse x = new ClassHouse();
        Due.load(x, Due.main("return read;"));
        int[] values = {MIN, MAX, -1, 0, 1, 2};
        x.input(values[0], values[1], values[2]);
        x.input(values[3], values[4], values[5]);
        for (int value : values) {
            x.start();
            x.step(1);
            DUE.is("ahead of return", x.result(), 0);
            x.step(1);
            DUE.is("behind return", x.result(), value);
        }
        DUE.is("no ROOM", DUE.ended(Due.main("ints r = new ints[999]; return 4;"), 3).result(), 0);
        DUE.is("too many METHODS", DUE.ended("class Main { int f() { return f(); } int main() { int a = f(); return 4; } }", 4).result(), 0);
        DUE.is("another METHOD's return", DUE.stepped("class Main { int f() { return 9; } int main() { int a = f(); return a; } }", 3).result(), 0);
    }

    private static void thrownClasses() {
        DUE.sentence("or of an OVER run the number of the class of what was thrown (0 to 4 Null Bounds Zero Cast Size, 5 and so on those of the text).");
        String[] names = {"Null", "Bounds", "Zero", "Cast", "Size", "F", "Main", "C", "D"};
        for (int i = 0; i < names.length; i++) {
            DUE.is("new " + names[i], DUE.ended("class F : C { } class Main { int main() { throw new " + names[i] + "; } } class C { } class D : Zero { }",
                2).result(), i);
        }
        String[] faults = {"Main m = null; throw m;", "print new ints[0][0];", "print 1 / 0;", "Zero z = this as Zero;", "print new ints[-1].size;"};
        for (int i = 0; i < faults.length; i++) {
            DUE.is(faults[i], DUE.ended(Due.main(faults[i] + " return 1;"), 2).result(), i);
        }
    }

    private static void outputs() {
        DUE.sentence("The i-th number that was printed (from 0; 500 are kept); 0 if there is none.");
        int[] totals = {0, 1, 499, 500, 501};
        for (int total : totals) {
            ClassHouse x = DUE.ended(Due.main("int n = 0; while (n < " + total + ") { n = n + 1; print n + 5; } return 1;"), 1);
            DUE.is("count(4)", x.count(4), total);
            int[] at = {-1, MIN, 0, 1, 498, 499, 500, 501, MAX};
            for (int i : at) {
                boolean kept = i >= 0 && i < total && i < 500;
                DUE.is("output(" + i + ") of " + total, x.output(i), kept ? i + 6 : 0);
            }
            x.start();
            DUE.is("output(0) of a new run", x.output(0), 0);
            DUE.is("output(499) of a new run", x.output(499), 0);
        }
    }

    private static void counts() {
        DUE.sentence("-1: no such what. (0 to 5: 0 ahead of a run.)");
        ClassHouse x = new ClassHouse();
        int[] wrong = {-1, 8, 9, MIN, MAX};
        for (int what : wrong) {
            DUE.refused("count(" + what + ")", x, () -> x.count(what), -1);
        }
        x.input(1, 2, 3);
        Due.load(x, Due.main("return 1;"));
        x.feed(1, 2, 3, 4, 5);
        DUE.counts("ahead of a run", x, 0, 0, 0, 0, 0, 0, 3, 20);
        DUE.is("count(8)", x.count(8), -1);
    }

    /** Each STEP of a run that makes, prints, reads, throws, calls and ends; a Main takes 3 cells, an A 4. */
    private static void countsOfARun() {
        DUE.sentence("what = 0 STEPS; 1 cells of all objects that were made; 2 cells of what can be reached now (0, if the run has ended);"
            + " 3 METHODS that are open (0, if it has ended); 4 numbers that were printed; 5 what was thrown so far (FAULTS, too);"
            + " 6 INPUT to be read; 7 bytes of the TAPE.");
        ClassHouse x = DUE.begun("class A { int i; int j; } class Main { A a; void f() { a = new A; throw a; }"
            + " int main() { try { f(); } catch (A b) { print read; } a = null; return 1 / read; } }");
        x.input(9, 0, 3);
        x.feed(1, 2, 3, 4, 5);
        x.end(7);
        int[][] wanted = {
            {0, 3, 3, 1, 0, 0, 3, 7},
            {1, 3, 3, 2, 0, 0, 3, 7},   // f()
            {2, 7, 7, 2, 0, 0, 3, 7},   // new A
            {3, 7, 7, 2, 0, 0, 3, 7},   // given
            {4, 7, 7, 2, 0, 0, 3, 7},   // a
            {5, 7, 7, 1, 0, 1, 3, 7},   // throw
            {6, 7, 7, 1, 0, 1, 2, 7},   // read
            {7, 7, 7, 1, 1, 1, 2, 7},   // print
            {8, 7, 7, 1, 1, 1, 2, 7},   // null
            {9, 7, 3, 1, 1, 1, 2, 7},   // given
            {10, 7, 3, 1, 1, 1, 2, 7},  // 1
            {11, 7, 3, 1, 1, 1, 1, 7},  // read
            {12, 7, 0, 0, 1, 2, 1, 7}}; // the FAULT, by which it is OVER
        for (int i = 0; i < wanted.length; i++) {
            DUE.counts("behind STEP " + i, x, wanted[i]);
            DUE.is("step(1)", x.step(1), i < wanted.length - 2 ? 0 : 2);
        }
        DUE.counts("behind the end", x, wanted[wanted.length - 1]);
    }
}
