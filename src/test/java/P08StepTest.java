public final class P08StepTest {
    private static final Due DUE = new Due("promise 8, step");

    public static void main(String[] args) {
        arguments();
        stepsOfExpressions();
        stepsOfStatements();
        results();
        methods();
        oneByOne();
        ends();
        DUE.close();
    }

    private static void arguments() {
        ClassHouse x = new ClassHouse();
        DUE.is("step(0) without a run", x.step(0), -1);
        Due.load(x, Due.main("while (true) { } return 1;"));
        DUE.is("step(1) ahead of start", x.step(1), -1);
        x.start();
        DUE.is("step(-1)", x.step(-1), -1);
        DUE.is("step(20001)", x.step(20001), -1);
        DUE.is("step(MIN)", x.step(Integer.MIN_VALUE), -1);
        DUE.is("step(MAX)", x.step(Integer.MAX_VALUE), -1);
        DUE.is("count(0)", x.count(0), 0);
        DUE.is("step(0)", x.step(0), 0);
        DUE.is("count(0)", x.count(0), 0);
        DUE.is("step(20000)", x.step(20000), 0);
        DUE.is("count(0)", x.count(0), 20000);
        x = DUE.ended(Due.main("return 1;"), 1);
        DUE.is("count(0)", x.count(0), 2);
        DUE.is("step(0) behind the end", x.step(0), 1);
        DUE.is("step(5) behind the end", x.step(5), 1);
        DUE.is("step(-1) behind the end", x.step(-1), -1);
        DUE.is("count(0) stays", x.count(0), 2);
    }

    /** print E and return 0 are three STEPS besides those of E. */
    private static void steps(String expression, int wanted) {
        String text = "class Main { int i; bool t; ints r; Main m; int f(int a, int b) { return a; } int main() { r = new ints[3]; print "
            + expression + "; return 0; } }";
        ClassHouse x = DUE.ended(text, 1);
        DUE.is("STEPS of " + expression, x.count(0) - 6, wanted);
    }

    private static void stepsOfExpressions() {
        steps("1", 1);
        steps("true", 1);
        steps("read", 1);
        steps("i", 1);
        steps("(((1)))", 1);
        steps("this.i", 2);
        steps("r.size", 2);
        steps("r[1]", 3);
        steps("null is Main", 2);
        steps("(null as Main) is Main", 3);
        steps("-1", 2);
        steps("- -1", 3);
        steps("!!true", 3);
        steps("1 + 2", 3);
        steps("1 + 2 * 3 - 4 / 5 % 6", 11);
        steps("1 < 2", 3);
        steps("this == null", 3);
        steps("new Main == m", 3);
        steps("new ints[2].size", 3);
        steps("true && false", 3);
        steps("false && true", 2);
        steps("true || false", 2);
        steps("false || true", 3);
        steps("true || true || true", 3);
        steps("false || false || true", 5);
        steps("false && true && true", 3);
        steps("true || true && true", 2);
        steps("false && true || true", 4);
        steps("true && (false || true)", 5);
        steps("f(1, 2)", 5);
        steps("this.f(1, 2)", 6);
        steps("f(f(1, 2), 3)", 9);
    }

    private static void work(String body, int wanted) {
        String text = "class Main { int i; bool t; ints r; Main m; void v() { } void w() { return; } int k() { return 1; } int main() { "
            + body + " return 0; } }";
        ClassHouse x = DUE.begun(text);
        x.step(20000);
        DUE.is("STEPS of " + body, x.count(0) - 2, wanted);
    }

    private static void stepsOfStatements() {
        work("", 0);
        work("int a;", 0);
        work("int a = 1;", 2);
        work("int a; a = 1;", 2);
        work("i = 1;", 2);
        work("this.i = 1;", 3);
        work("r = new ints[2]; r[1] = 1;", 7);
        work("print 1;", 2);
        work("if (true) { }", 2);
        work("if (true) { print 1; } else { print 1; print 2; }", 4);
        work("if (false) { print 1; } else { print 1; print 2; }", 6);
        work("while (false) { print 1; }", 2);
        work("int a = 0; while (a < 2) { a = a + 1; }", 2 + 3 * 4 + 2 * 4);
        work("v();", 1);
        work("w();", 2);
        work("this.v();", 2);
        work("k();", 3);
        work("try { } catch (Zero z) { }", 0);
        work("try { throw new Zero; } catch (Zero z) { }", 2);
        work("try { throw new Zero; } catch (Zero z) { print 1; }", 4);
        work("try { i = 1 / 0; } catch (Zero z) { }", 3);
        work("try { m.i = 1; } catch (Null z) { }", 3);
        work("try { r[0] = 1; } catch (Null z) { }", 4);
        work("try { print r[0]; } catch (Null z) { }", 3);
        work("try { m.v(); } catch (Null z) { }", 2);
    }

    private static void value(String expression, int wanted) {
        DUE.is(expression, DUE.ended(Due.main("return " + expression + ";"), 1).result(), wanted);
    }

    private static void results() {
        value("7 - -2", 9);
        value("1 - 2 - 3", -4);
        value("100 / 5 / 2", 10);
        value("2 + 3 * 4", 14);
        value("(2 + 3) * 4", 20);
        value("17 % 5 * 2", 4);
        value("-7 / 2", -3);
        value("-7 % 2", -1);
        value("7 / -2", -3);
        value("7 % -2", 1);
        value("-2 * 3", -6);
        value("999999999 * 10", 1410065398);
        value("-(999999999 * 2 + 147483649) - 2", Integer.MAX_VALUE);
        value("(-(999999999 * 2 + 147483649) - 1) / -1", Integer.MIN_VALUE);
        value("(-(999999999 * 2 + 147483649) - 1) % -1", 0);
        value("-(-(999999999 * 2 + 147483649) - 1)", Integer.MIN_VALUE);
        DUE.prints(Due.main("print 1 < 2; print 2 < 2; print 2 <= 2; print 3 <= 2; print 1 == 1; print 1 != 1; print -1 < 0; return 0;"),
            1, 0, 1, 0, 1, 0, 1);
        DUE.prints(Due.main("print !true; print !false; print true == false; print true != false; print null == null; return 0;"),
            0, 1, 0, 1, 1);
        DUE.prints(Due.main("ints a = new ints[2]; ints b = a; print a == b; print a == new ints[2]; print a != null; a[1] = 5; print b[1]; print b[0]; return 0;"),
            1, 0, 1, 5, 0);
        DUE.prints("class Main { int i; bool t; ints r; Main m; int main() { print i; print t; print r == null; print m == null; return 0; } }",
            0, 0, 1, 1);
        DUE.prints(Due.main("print true || 1 / 0 == 0; print false && 1 / 0 == 0; return 0;"), 1, 0);
        DUE.prints("class Main { int x; int main() { x = 3; int x = x + 1; x = x + 1; print x; print this.x; return 0; } }", 5, 3);
    }

    private static void methods() {
        DUE.prints("class A { int x; int f() { return 1; } int g() { return f(); } } class B : A { int f() { return 2; } }"
            + " class C : B { int y; } class Main { int main() { A a = new A; print a.f(); print a.g(); a = new B; print a.f(); print a.g();"
            + " C c = new C; a = c; print a.g(); c.x = 3; c.y = 4; print a.x; print (a as C).y; return 0; } }",
            1, 1, 2, 2, 2, 3, 4);
        // What stands first is worked first.
        DUE.prints("class Main { ints r; int p(int v) { print v; return v; } ints q() { print 8; return r; } Main m() { print 9; return this; }"
            + " int f(int a, int b) { return a; } int main() { r = new ints[9]; q()[p(1)] = p(2); m().r[p(3)] = p(4) + p(5);"
            + " int x = m().f(p(6), p(7)); return 0; } }",
            8, 1, 2, 9, 3, 4, 5, 9, 6, 7);
        DUE.is("recursion", DUE.ended("class Main { int fac(int n) { if (n <= 1) { return 1; } return n * fac(n - 1); } int main() { return fac(10); } }",
            1).result(), 3628800);
        DUE.is("parameters are variables of their own", DUE.ended("class Main { int f(int n) { n = n + 1; return n; } int main() { int n = 5; f(n); return n; } }",
            1).result(), 5);
        DUE.is("main of a parent", DUE.ended("class Main : A { int x() { return 4; } } class A { int x() { return 3; } int main() { return x(); } }",
            1).result(), 4);
    }

    /** STEPS taken one by one do what they do at once. */
    private static void oneByOne() {
        ClassHouse x = DUE.begun(Due.main("int a = 0; while (a < 3) { a = a + 1; print a * a; } return a;"));
        int steps = 0;
        while (x.step(1) == 0 && steps < 200) {
            steps++;
            DUE.is("count(0)", x.count(0), steps);
        }
        DUE.is("STEPS", x.count(0), 2 + 4 * 4 + 3 * 8 + 2);
        DUE.is("result()", x.result(), 3);
        DUE.is("output(2)", x.output(2), 9);
    }

    private static void ends() {
        ClassHouse x = DUE.ended(Due.main("return 5;"), 1);
        DUE.is("result", x.result(), 5);
        x = DUE.ended(Due.main("throw new Cast;"), 2);
        DUE.is("result", x.result(), 3);
        x = DUE.ended(Due.main("ints r = new ints[1000]; return 5;"), 3);
        DUE.is("result", x.result(), 0);
        DUE.is("the STEP is counted", x.count(0), 2);
        DUE.is("and makes nothing", x.count(1), 2);
        x = DUE.ended("class Main { int f(int n) { if (n == 0) { return 7; } return f(n - 1); } int main() { return f(98); } }", 1);
        DUE.is("100 METHODS", x.result(), 7);
        x = DUE.ended("class Main { int f(int n) { if (n == 0) { return 7; } return f(n - 1); } int main() { return f(99); } }", 4);
        DUE.is("101 METHODS", x.result(), 0);
        x = DUE.ended("class Main { void e() { } int f(int n) { if (n == 0) { e(); return 7; } return f(n - 1); } int main() { return f(98); } }", 4);
        DUE.is("a 101st that would end at once", x.result(), 0);
        x = DUE.ended("class Main { int f(int n) { if (n == 0) { Main m = null; return m.f(1); } return f(n - 1); } int main() { return f(98); } }", 2);
        DUE.is("a FAULT opens none", x.result(), 0);
        DUE.ended("class Main { int f() { try { return f(); } catch (Null z) { return 1; } } int main() { return f(); } }", 4);
    }
}
