public final class P11CountTest {
    private static final Due DUE = new Due("promise 11, count");

    public static void main(String[] args) {
        ClassHouse x = new ClassHouse();
        for (int what : new int[] {-1, 8, 9, 100, Integer.MIN_VALUE, Integer.MAX_VALUE}) {
            DUE.is("count(" + what + ")", x.count(what), -1);
        }
        aheadOfARun();
        cells();
        reached();
        open();
        thrown();
        DUE.close();
    }

    private static void all(String when, ClassHouse x, int... wanted) {
        for (int what = 0; what < wanted.length; what++) {
            DUE.is("count(" + what + ") " + when, x.count(what), wanted[what]);
        }
    }

    private static void aheadOfARun() {
        ClassHouse x = new ClassHouse();
        x.feed(1, 2, 3, 4, 5);
        x.input(1, 2, 3);
        all("without a program", x, 0, 0, 0, 0, 0, 0, 3, 20);
        x.end(0);
        Due.load(x, Due.main("print read; throw new Zero;"));
        all("ahead of a run", x, 0, 0, 0, 0, 0, 0, 3, 0);
        x.start();
        all("as it begins", x, 0, 2, 2, 1, 0, 0, 3, 0);
        x.step(1);
        all("behind read", x, 1, 2, 2, 1, 0, 0, 2, 0);
        x.step(1);
        all("behind print", x, 2, 2, 2, 1, 1, 0, 2, 0);
        x.step(1);
        all("behind new", x, 3, 4, 4, 1, 1, 0, 2, 0);
        x.step(1);
        all("behind the throw", x, 4, 4, 0, 0, 1, 1, 2, 0);
        Due.load(x, "#");
        all("behind program()", x, 0, 0, 0, 0, 0, 0, 2, 0);
    }

    private static void cells() {
        ClassHouse x = DUE.ended("class A { int x; } class B : A { int y; ints z; } class Main { bool b; int main() {"
            + " A a = new A; a = new B; ints r = new ints[7]; r = new ints[0]; a = new A; return 1; } }", 1);
        DUE.is("cells of all that was made", x.count(1), 3 + 3 + 5 + 9 + 2 + 3);
        DUE.is("nothing is reached behind the end", x.count(2), 0);
    }

    /** STEP by STEP: what is reached between them. */
    private static void reached() {
        ClassHouse x = DUE.begun("class A { A n; } class Main { A f(A p) { return p; } void g() { A q = new A; } int main() {"
            + " A a = new A; a.n = new A; a = a.n; f(new A); g(); if (true) { A b = a; a = null; } new A.n = new A; return 1; } }");
        int[] wanted = {
            5, 5,          // new A; told
            5, 8, 8,       // a; new A; given
            8, 8, 5,       // a; .n; given: the first is gone
            8, 8, 8, 5,    // new A; the CALL; p; return, and the result is dropped
            5, 8, 5,       // g(); new A; told, and gone at the end of g
            5, 5, 5, 5,    // true; if; a; told
            5, 2,          // null; given, and b is gone at the end of its block
            5, 8, 2,       // new A; new A; given
            2, 0};         // 1; return
        for (int i = 0; i < wanted.length; i++) {
            x.step(1);
            DUE.is("count(2) behind STEP " + (i + 1), x.count(2), wanted[i]);
        }
        DUE.is("the run has ended", x.step(0), 1);
    }

    private static void open() {
        ClassHouse x = DUE.begun("class Main { void e() { } void d() { e(); } int f(int n) { if (n == 0) { return 0; } return f(n - 1); }"
            + " int main() { d(); e(); return f(1); } }");
        int[] wanted = {
            2, 1,               // d(); e(), and both have ended
            1,                  // e()
            1, 2,               // 1; f
            2, 2, 2, 2,         // n; 0; ==; if
            2, 2, 2, 3,         // n; 1; -; f
            3, 3, 3, 3, 3, 2,   // n; 0; ==; if; 0; return
            1, 0};              // return; return
        for (int i = 0; i < wanted.length; i++) {
            x.step(1);
            DUE.is("count(3) behind STEP " + (i + 1), x.count(3), wanted[i]);
        }
        DUE.is("the run has ended", x.step(0), 1);
        x = DUE.begun("class Main { int f() { return f(); } int main() { return f(); } }");
        x.step(99);
        DUE.is("all METHODS are open", x.count(3), 100);
        x.step(1);
        DUE.is("none is", x.count(3), 0);
    }

    private static void thrown() {
        ClassHouse x = DUE.ended("class Main { Main m; int main() { int n = 0; while (n < 5) { n = n + 1; try { try { m.m = null; } catch (Null a) { throw a; } }"
            + " catch (Null b) { print n; } } try { throw m; } catch (Null c) { } return n / 0; } }", 2);
        DUE.is("thrown", x.count(5), 12);
        DUE.is("printed", x.count(4), 5);
    }
}
