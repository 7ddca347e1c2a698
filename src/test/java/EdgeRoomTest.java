/** Boundaries of ROOM and of the ways in which a run ends: the HEAP that just does, and one cell less. */
public final class EdgeRoomTest {
    private static final Due DUE = new Due("edges of ROOM and ENDS");
    // Main's object takes 12 cells, one of A 3, of B 5, of Z 2.
    private static final String HEAD = "class Z { } class A { A n; int size() { return new ints[20].size; } A more() { return new A; } int with(A p) { A q = p; p = null; return new ints[20].size; } }"
        + " class B : A { int y; ints r; } class Main { A a; B b; ints r; bool t; int i; int j; int k; int l; int m; int o; A id(A p) { return p; }"
        + " int row() { return new ints[20].size; } int keep(ints p) { return new ints[20].size; } int drop(ints p) { p = null; return new ints[20].size; }"
        + " int deep(A p, int n) { A q = new A; if (n == 0) { return new ints[20].size; } return deep(q, n - 1); } int main() { ";
    private static final int MAIN = 12;

    public static void main(String[] args) {
        cells();
        wholeHeap();
        variables();
        blocksAndLoops();
        partsNotUsedYet();
        methodsThatAreOpen();
        partsOfWaitingMethods();
        thrownObjects();
        noRoomDoesNoMore();
        reachedNow();
        reachedAgain();
        hundredMethods();
        tooManyDoNoMore();
        ends();
        DUE.close();
    }

    /** The run of the statements just ends in a HEAP of Main's cells and these. */
    private static void least(String statements, int more) {
        ClassHouse x = new ClassHouse();
        Due.load(x, HEAD + statements + " return 1; } }");
        int[] sizes = {MAIN + more + 1, MAIN + more, MAIN + more - 1};
        int[] hows = {1, 1, 3};
        for (int i = 0; i < sizes.length; i++) {
            x.heap(sizes[i]);
            x.start();
            DUE.is("a HEAP of " + sizes[i] + " for " + statements, x.step(20000), hows[i]);
        }
    }

    private static void cells() {
        DUE.sentence("ROOM: an object of a class takes 2 cells and 1 for each FIELD, ints 2 and 1 for each number.");
        String[] made = {"Z", "A", "B", "Main", "Null", "Zero", "ints[0]", "ints[1]", "ints[2]", "ints[500]"};
        int[] wanted = {2, 3, 5, 12, 2, 2, 2, 3, 4, 502};
        for (int i = 0; i < made.length; i++) {
            String type = made[i].startsWith("ints") ? "ints" : made[i];
            ClassHouse x = DUE.begun(HEAD + type + " v = new " + made[i] + "; while (true) { } return 1; } }");
            DUE.is("Main's cells", x.count(1), MAIN);
            x.step(10);
            DUE.is("cells made by new " + made[i], x.count(1) - MAIN, wanted[i]);
            DUE.is("cells reached behind new " + made[i], x.count(2) - MAIN, wanted[i]);
            least(type + " v = new " + made[i] + ";", wanted[i]);
            least(type + " v = new " + made[i] + "; " + type + " w = new " + made[i] + ";", 2 * wanted[i]);
        }
    }

    private static void wholeHeap() {
        DUE.sentence("A STEP new finds room, if what can be reached as it begins, and it, are not more than the HEAP's size:");
        int[] sizes = {12, 13, 14, 15, 100, 9999, 10000};
        for (int size : sizes) {
            ClassHouse x = new ClassHouse();
            Due.load(x, HEAD + "r = new ints[read]; return 1; } }");
            x.heap(size);
            x.input(size - 14, size - 13, 2147483647);
            for (int i = 0; i < 3; i++) {
                x.start();
                int fault = i == 0 && size < 14 || i == 1 && size < 13 ? 2 : 3;
                DUE.is("read " + i + " in a HEAP of " + size, x.step(10), i == 0 && size >= 14 ? 1 : fault);
            }
        }
        // What is made does not count as reached while it is made, and what it takes the place of does.
        least("r = new ints[10]; r = new ints[10];", 24);
        least("r = new ints[10]; r = null; r = new ints[10];", 12);
        least("while (i < 50) { i = i + 1; r = null; r = new ints[i]; }", 52);
        least("while (i < 50) { i = i + 1; r = new ints[i]; }", 51 + 52);
    }

    private static void variables() {
        DUE.sentence("from this and all variables that are there (what they were given last; one that is told without a value has none),");
        least("A v = new A; v = new A;", 6);
        least("A v = new A; v = null; v = new A;", 3);
        least("A v = new A; A w = v; v = null; w = new A;", 6);
        least("A v = new A; A w = v; v = null; w = null; w = new A;", 3);
        least("A v; v = new A; v = new B;", 8);
        least("ints v = new ints[9]; v = new ints[0]; r = new ints[9];", 2 + 11);
        least("a = new A; a = new A;", 6);
        least("a = new B; a.n = new A; a.n.n = a; a = null; r = new ints[9];", 11);
        least("a = new B; a.n = new A; a = a.n; r = new ints[9];", 3 + 11);
        least("a = new A; a.n = new A; a.n.n = new A; a.n.n.n = a; r = new ints[9];", 9 + 11);
        least("b = new B; b.r = new ints[9]; b.r = null; r = new ints[9];", 5 + 11);
        least("b = new B; b.r = new ints[9]; r = b.r; b = null; b = new B;", 11 + 5);
        least("b = new B; b.r = new ints[9]; r = b.r; a = b; b = new B;", 5 + 11 + 5);
        least("Main v = new Main; v.a = new A; v = new Main;", MAIN + 3 + MAIN);
        // A number that looks like a cell's is none.
        least("i = 6; j = 18; k = 20; r = new ints[9]; r[0] = 6; r[1] = 7; r = null; r = new ints[9];", 11);
    }

    private static void blocksAndLoops() {
        DUE.sentence("A BLOCK's variables are gone behind it.");
        least("if (true) { ints v = new ints[9]; } r = new ints[9];", 11);
        least("if (true) { ints v = new ints[9]; r = new ints[9]; }", 22);
        least("if (false) { } else { ints v = new ints[9]; } r = new ints[9];", 11);
        least("try { ints v = new ints[9]; } catch (Zero z) { } r = new ints[9];", 11);
        least("while (i < 3) { i = i + 1; ints v = new ints[9]; }", 11);
        least("while (i < 3) { i = i + 1; ints v; v = new ints[9]; }", 11);
        least("ints v; while (i < 3) { i = i + 1; v = new ints[9]; }", 22);
        DUE.sentence("one that is told without a value has none");
        least("if (true) { ints v = new ints[9]; } ints w; r = new ints[9];", 11);
        least("if (true) { ints v = new ints[9]; } if (true) { ints w; r = new ints[9]; }", 11);
        least("while (i < 3) { i = i + 1; ints v; r = new ints[9]; v = r; r = null; }", 11);
        least("while (i < 3) { i = i + 1; ints v; if (i == 1) { v = new ints[9]; } }", 11);
    }

    private static void partsNotUsedYet() {
        DUE.sentence("and all words of parts that are there and not used yet.");
        least("print new A == new A;", 6);
        least("print new ints[9].size + new ints[9].size;", 11);
        least("print new ints[9] == new ints[9];", 22);
        least("print new ints[9][new ints[8].size];", 11 + 10);
        least("new A.n = new B;", 3 + 5);
        least("new ints[9][0] = new ints[9].size;", 22);
        least("new ints[9][new ints[9].size - 1] = new ints[9].size;", 22);
        least("id(new A).n = id(new B);", 3 + 5);
        least("id(id(id(new A)));", 3);
        least("id(new A); id(new A);", 3);
        least("print id(new A) == id(new A) && id(new A) == id(new A);", 6);
        least("print (new A as A) == new A;", 6);
        least("print new A is A; print new A is A;", 3);
        least("print keep(new ints[9]) + new ints[3].size;", 11 + 22);
        least("a = id(new A); A v = id(new A);", 6);
        least("if (new A == null) { } r = new ints[9];", 11);
        least("deep(new A, 0);", 3 + 3 + 22);
    }

    private static void methodsThatAreOpen() {
        DUE.sentence("of all METHODS that are open,");
        least("row(); row();", 22);
        least("r = new ints[9]; row();", 11 + 22);
        least("ints v = new ints[9]; row();", 11 + 22);
        least("ints v; row(); v = new ints[9];", 22);
        least("keep(new ints[9]);", 11 + 22);
        least("drop(new ints[9]);", 22);
        least("ints v = new ints[9]; drop(v);", 11 + 22);
        least("ints v = new ints[9]; keep(v);", 11 + 22);
        least("new A.size();", 3 + 22);
        least("new B.size();", 5 + 22);
        least("new A.with(new A);", 3 + 3 + 22);
        least("new A.with(null);", 3 + 22);
        least("print new A == id(new A) || new A.size() == 20;", 3 + 22);
        // Each of the METHODS holds its q; main's argument is the first one's p.
        for (int n = 0; n <= 98; n += 14) {
            least("deep(new A, " + n + ");", 3 + 3 * (n + 1) + 22);
        }
        least("deep(null, 98);", 3 * 99 + 22);
    }

    /** What a METHOD has there for its own parts is held while it waits for another one. */
    private static void partsOfWaitingMethods() {
        least("print new A == new A.more();", 9);
        least("print new A == id(new A.more());", 9);
        least("new B.n = new A.more();", 5 + 6);
        least("print new ints[9].size + row();", 22);
        least("print new ints[9][row() - 12];", 11 + 22);
        least("new ints[9][row() - 12] = row();", 11 + 22);
        DUE.prints(HEAD.replace("int row() {", "ints fill(int n) { ints p = new ints[n]; p[n - 1] = n; return p; } int many(int n) { while (0 < n) { n = n - 1; ints p = new ints[90]; } return 2; } int row() {")
            + "print fill(3)[many(30)] + fill(4)[many(30) + 1]; b = new B; b.r = fill(6); b.r[many(30)] = many(30); print b.r[2]; print b.r[5]; print id(b) == id(b) && many(30) == 2; return 0; } }", 7, 2, 6, 1);
    }

    private static void thrownObjects() {
        DUE.sentence("all within is left, the variable is set");
        least("try { throw new B; } catch (B v) { r = new ints[9]; }", 5 + 11);
        least("try { throw new B; } catch (B v) { v = null; r = new ints[9]; }", 11);
        least("try { throw new B; } catch (B v) { } r = new ints[9];", 11);
        least("try { ints v = new ints[9]; throw new Z; } catch (Z z) { r = new ints[9]; }", 2 + 11);
        least("try { print new ints[9][9]; } catch (Bounds c) { r = new ints[9]; }", 11);
        least("try { r = new ints[-1]; } catch (Size s) { r = new ints[9]; }", 11);
    }

    private static void noRoomDoesNoMore() {
        DUE.sentence("(3, 4: the STEP is counted and does no more.)");
        ClassHouse x = DUE.begun(Due.main("print 5; ints r = new ints[997]; print 6; return 1;"));
        DUE.is("step(3)", x.step(3), 0);
        DUE.counts("ahead of it", x, 3, 2, 2, 1, 1, 0);
        DUE.is("step(1)", x.step(1), 3);
        DUE.counts("behind it", x, 4, 2, 0, 0, 1, 0);
        DUE.is("step(20000)", x.step(20000), 3);
        DUE.counts("behind the end", x, 4, 2, 0, 0, 1, 0);
        DUE.is("result()", x.result(), 0);
        DUE.is("no try takes it", DUE.ended(Due.main("try { ints r = new ints[997]; } catch (Size s) { return 5; } return 6;"), 3).count(5), 0);
    }

    private static void reachedNow() {
        DUE.sentence("2 cells of what can be reached now (0, if the run has ended);");
        ClassHouse x = DUE.begun("class A { A n; } class Main { A h; int main() { A v = new A; v.n = new A; h = v; v = null; h = h.n; ints r; r = new ints[4]; print new A == null; return 1; } }");
        // new; told; v; new; given; v; given; null; given; h; .n; given; 4; new; given; new; null; ==; print; 1; return
        int[] wanted = {3, 6, 6, 6, 9, 9, 9, 9, 9, 9, 9, 9, 6, 6, 12, 12, 15, 15, 12, 12, 12, 0};
        for (int i = 0; i < wanted.length; i++) {
            DUE.is("count(2) behind STEP " + i, x.count(2), wanted[i]);
            x.step(1);
        }
    }

    /** Objects of 3 and of 2 cells in turn, with a look behind each STEP: nothing old may be reached. */
    private static void reachedAgain() {
        ClassHouse x = DUE.begun("class A { A n; } class Z { } class Main { int main() { while (true) { A a = new A; a.n = new A; a.n.n = a; a = null; Z z = new Z; z = null; } return 1; } }");
        // true; while; new; told; a; new; given; a; .n; a; given; null; given; new; told; null; given
        int[] wanted = {2, 2, 5, 5, 5, 8, 8, 8, 8, 8, 8, 8, 2, 4, 4, 4, 2};
        for (int i = 0; i < 10 * wanted.length; i++) {
            x.step(1);
            DUE.is("count(2) behind STEP " + (i + 1), x.count(2), wanted[i % wanted.length]);
        }
    }

    private static String calls(int open) {
        // main, then f so many times less one.
        return "class Main { int i; void e() { i = i + 1; } int f(int n) { if (n == 1) { return i; } return f(n - 1); } int main() { return f(" + (open - 1) + "); } }";
    }

    private static void hundredMethods() {
        DUE.sentence("4 a CALL would open a 101st METHOD.");
        DUE.ended(calls(98), 1);
        DUE.ended(calls(99), 1);
        DUE.ended(calls(100), 1);
        DUE.ended(calls(101), 4);
        DUE.ended(calls(102), 4);
        String head = "class Main { int i; void e() { i = i + 1; } int f(int n) { if (n == 1) { e(); return i; } return f(n - 1); } int main() { ";
        DUE.is("e is the 100th", DUE.ended(head + "return f(98); } }", 1).result(), 1);
        DUE.is("e is the 101st", DUE.ended(head + "return f(99); } }", 4).result(), 0);
        DUE.is("one behind the other", DUE.ended(head + "f(98); f(98); f(98); return f(98); } }", 1).result(), 4);
        DUE.is("as arguments", DUE.ended(head + "return f(98) + f(f(98) + 96); } }", 1).result(), 1 + 3);
        String thrower = "class Main { int f(int n) { if (n == 1) { throw this; } return f(n - 1); } int main() { int k = 0; while (k < 5) { try { f(99); } catch (Main m) { k = k + 1; } } return k; } }";
        DUE.is("what is left is not open", DUE.ended(thrower, 1).result(), 5);
        DUE.is("no try takes it", DUE.ended(thrower.replace("99", "100"), 4).count(5), 0);
        // A FAULT opens none.
        String fault = "class Main { Main m; int f(int n) { if (n == 1) { return m.f(1); } return f(n - 1); } int main() { return f(99); } }";
        DUE.is("of null", DUE.ended(fault, 2).result(), 0);
    }

    private static void tooManyDoNoMore() {
        DUE.sentence("(3, 4: the STEP is counted and does no more.)");
        ClassHouse x = DUE.begun("class Main { int f() { return f(); } int main() { print 3; return f(); } }");
        DUE.is("step(101)", x.step(101), 0);
        DUE.counts("ahead of it", x, 101, 2, 2, 100, 1, 0);
        DUE.is("step(1)", x.step(1), 4);
        DUE.counts("behind it", x, 102, 2, 0, 0, 1, 0);
        DUE.is("step(20000)", x.step(20000), 4);
        DUE.counts("behind the end", x, 102, 2, 0, 0, 1, 0);
        DUE.is("result()", x.result(), 0);
        DUE.is("start() again", x.start(), 1);
        DUE.is("step(101)", x.step(101), 0);
    }

    private static void ends() {
        DUE.sentence("ENDS: 1 main returned; 2 OVER by what was thrown; 3 no ROOM; 4 a CALL would open a 101st METHOD.");
        String[] bodies = {"return 4;", "throw new Size;", "ints r = new ints[5000]; return 4;", "return main();"};
        int[] results = {4, 4, 0, 0};
        for (int i = 0; i < bodies.length; i++) {
            ClassHouse x = DUE.ended(Due.main("print 8; " + bodies[i]), i + 1);
            DUE.is("result()", x.result(), results[i]);
            DUE.is("output(0) stays", x.output(0), 8);
            DUE.is("count(2)", x.count(2), 0);
            DUE.is("count(3)", x.count(3), 0);
            int steps = x.count(0);
            DUE.is("step(5)", x.step(5), i + 1);
            DUE.is("count(0)", x.count(0), steps);
        }
        DUE.is("main's main", DUE.ended("class Main { int n; int main() { n = n + 1; if (n == 3) { return 7; } return main() + 1; } }", 1).result(), 9);
    }
}
