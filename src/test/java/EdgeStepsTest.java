/** Boundaries of running: what is a STEP and what is none, when it is done, and numbers that wrap. */
public final class EdgeStepsTest {
    private static final Due DUE = new Due("edges of STEPS");
    private static final String HEAD = "class Main { int i; bool t; ints r; Main m; int f(int a, int b) { return a; } Main k() { return this; } void v() { } void w() { return; } int main() { ";
    // 2147483647 and -2147483648, which no NUMBER tells.
    private static final String MAX = "(999999999 * 2 + 147483649)";
    private static final String MIN = "(-999999999 * 2 - 147483650)";

    public static void main(String[] args) {
        begins();
        firstWords();
        stepsOfValues();
        stepsOfSigns();
        joins();
        calls();
        gifts();
        branches();
        returns();
        silent();
        doneAtTheStep();
        fromTheLeft();
        reads();
        wrapping();
        cutTowardsZero();
        comparing();
        DUE.close();
    }

    /** STEPS that main's statements take besides its last return. */
    private static void work(String statements, int wanted) {
        ClassHouse x = DUE.begun(HEAD + statements + " return 0; } }");
        DUE.is("it ends: " + statements, x.step(20000), 1);
        DUE.is("STEPS of " + statements, x.count(0) - 2, wanted);
    }

    private static void steps(String expression, int wanted) {
        work("m = this; r = new ints[3]; print " + expression + ";", 2 + 3 + wanted + 1);
    }

    private static void value(String expression, int wanted) {
        DUE.is(expression, DUE.ended(Due.main("return " + expression + ";"), 1).result(), wanted);
    }

    private static void truth(String expression, int wanted) {
        DUE.prints(Due.main("print " + expression + "; return 0;"), wanted);
    }

    private static void begins() {
        DUE.sentence("A run begins with a new object of Main whose main is called.");
        ClassHouse x = DUE.begun("class A { int q; } class Main : A { int w; int main() { return 1; } }");
        DUE.counts("as it begins", x, 0, 4, 4, 1, 0, 0);
        x.step(2);
        DUE.counts("as it ends", x, 2, 4, 0, 0, 0, 0);
        x = DUE.ended("class A { int e() { return 3; } int main() { return e(); } } class Main : A { int e() { return 4; } }", 1);
        DUE.is("main is A's, its object Main's", x.result(), 4);
    }

    private static void firstWords() {
        DUE.sentence("Words: numbers (ints that wrap; bool 1, 0), null, objects (of a class, with a word for each FIELD that it has; ints with numbers), all 0, false, null at first.");
        DUE.prints("class A { int a; bool b; ints c; A d; } class B : A { int e; bool f; ints g; A h; } class Main { B z; int main() { print z == null; z = new B;"
            + " print z.a; print z.b; print z.c == null; print z.d == null; print z.e; print z.f; print z.g == null; print z.h == null;"
            + " ints r = new ints[3]; print r[0]; print r[1]; print r[2]; print r.size; return 0; } }",
            1, 0, 0, 1, 1, 0, 0, 1, 1, 0, 0, 0, 3);
        cellsUsedAgain();
    }

    /** What was there before in the same cells must not be seen. */
    private static void cellsUsedAgain() {
        ClassHouse x = new ClassHouse();
        Due.load(x, "class A { int a; A d; } class Main { int main() { int n = 0; int bad = 0; while (n < 150) { n = n + 1; ints r = new ints[n % 9]; int k = 0;"
            + " while (k < r.size) { if (r[k] != 0) { bad = bad + 1; } r[k] = -1; k = k + 1; } A a = new A; if (a.a != 0 || a.d != null) { bad = bad + 1; }"
            + " a.a = 7; a.d = a; } return bad; } }");
        x.heap(30);
        x.start();
        DUE.is("150 times in a HEAP of 30", x.step(20000), 1);
        DUE.is("words that are not 0 or null at first", x.result(), 0);
    }

    private static void stepsOfValues() {
        DUE.sentence("NUMBER, true, false, null, this, read (the next INPUT, 0 without one), a NAME, and . NAME, [ ], size, new, as, is, - ! and all signs with two sides (/ % cut towards 0);");
        steps("1", 1);
        steps("true", 1);
        steps("false", 1);
        steps("null == null", 3);
        steps("this == this", 3);
        steps("read", 1);
        steps("i", 1);
        steps("(((i)))", 1);
        steps("m.i", 2);
        steps("m.m.m.i", 4);
        steps("r[0]", 3);
        steps("m.r[i]", 4);
        steps("r.size", 2);
        steps("m.r.size", 3);
        steps("new Main.i", 2);
        steps("new ints[2].size", 3);
        steps("new ints[2][1]", 4);
        steps("m as Main.i", 3);
        steps("m is Main", 2);
        steps("null is Main", 2);
        work("int a = 5; print a;", 4);
    }

    private static void stepsOfSigns() {
        steps("-1", 2);
        steps("- - -1", 4);
        steps("!t", 2);
        steps("!!!t", 4);
        for (String sign : new String[] {"*", "/", "%", "+", "-", "<", "<=", "==", "!="}) {
            steps("2 " + sign + " 1", 3);
        }
        steps("1 + 2 + 3", 5);
        steps("1 + (2 + 3)", 5);
        steps("1 + 2 * 3 < 4 == true", 9);
        steps("t == false", 3);
        steps("m == this", 3);
        steps("r != null", 3);
    }

    private static void joins() {
        DUE.sentence("&& || when the left side is there (the right one is worked if it is wanted, no further step);");
        steps("false && true", 2);
        steps("true && true", 3);
        steps("true && false", 3);
        steps("true || false", 2);
        steps("false || false", 3);
        steps("false || true", 3);
        steps("false && 1 / 0 == 1", 2);
        steps("true || 1 / 0 == 1", 2);
        steps("true && 1 < 2", 5);
        steps("true && true && true", 5);
        steps("false && true && true", 3);
        steps("false || false || false", 5);
        steps("true || true || true", 3);
        steps("true || true && true", 2);
        steps("false && true || true", 4);
        steps("(true || true) && true", 4);
        steps("!(true && false)", 4);
        truth("true && true", 1);
        truth("true && false", 0);
        truth("false && true", 0);
        truth("false && false", 0);
        truth("true || true", 1);
        truth("true || false", 1);
        truth("false || true", 1);
        truth("false || false", 0);
        // The STEP is done when the left side is there: the right side's STEPS follow it.
        ClassHouse x = DUE.stepped(Due.main("print true && read == 0; return 0;"), 2);
        x.input(5, 6, 7);
        DUE.is("read is not worked yet", x.count(6), 3);
        x.step(1);
        DUE.is("it is now", x.count(6), 2);
    }

    private static void calls() {
        DUE.sentence("a CALL, when what it is of and all ARGUMENTS are there;");
        work("v();", 1);
        work("this.v();", 2);
        work("m = this; m.v();", 4);
        work("w();", 2);
        work("f(1, 2);", 2 + 1 + 2);
        work("this.f(1, 2);", 3 + 1 + 2);
        work("f(f(1, 2), f(3, 4));", 5 + 5 + 1 + 2);
        work("k().k().v();", 3 + 3 + 1);
        work("(v());", 1);
        DUE.sentence("The METHOD that is called is that which the object's class has.");
        DUE.prints("class A { int o() { return 1; } int p() { return o(); } int q() { return this.o(); } } class B : A { int o() { return 2; } } class C : B { } class D : C { int o() { return 3; } }"
            + " class Main { int main() { A a = new A; print a.o(); print a.p(); print a.q(); a = new B; print a.o(); print a.p(); print a.q();"
            + " a = new C; print a.o(); print a.p(); a = new D; print a.o(); print a.q(); B b = new D; print b.o(); print (a as A).o(); return 0; } }",
            1, 1, 1, 2, 2, 2, 2, 2, 3, 3, 3, 3);
    }

    private static void gifts() {
        DUE.sentence("= (a PLACE's parts first, then the value), a variable told with a value;");
        work("i = 1;", 2);
        work("(i) = 1;", 2);
        work("this.i = 1;", 3);
        work("m = this; m.m.i = 1;", 2 + 4);
        work("r = new ints[2]; r[1] = 5;", 3 + 4);
        work("r = new ints[2]; this.r[0 + 1] = 5;", 3 + 7);
        work("int a = 1;", 2);
        work("int a;", 0);
        work("int a; int b; a = 1;", 2);
    }

    private static void branches() {
        DUE.sentence("if, while (each time), when the EXPRESSION is there; return, throw, print.");
        work("if (true) { }", 2);
        work("if (false) { }", 2);
        work("if (true) { i = 1; } else { i = 1; i = 2; }", 4);
        work("if (false) { i = 1; } else { i = 1; i = 2; }", 6);
        work("while (false) { i = 1; }", 2);
        for (int times = 0; times < 4; times++) {
            work("while (i < " + times + ") { i = i + 1; }", 4 * (times + 1) + 4 * times);
        }
        work("print 1;", 2);
        work("try { throw new Zero; } catch (Zero z) { }", 2);
        work("try { throw this; } catch (Main z) { print 1; }", 4);
        DUE.is("return", DUE.ended(Due.main("return 1;"), 1).count(0), 2);
        DUE.is("return behind what is not reached", DUE.ended(Due.main("return 1; print 2; return 3;"), 1).count(0), 2);
    }

    /** return leaves its METHOD wherever it stands, with a value and without one. */
    private static void returns() {
        DUE.prints("class Main { void f(int n) { if (n == 1) { return; } print n; while (true) { n = n + 1; if (n == 5) { return; } } print 9; }"
            + " void g() { try { return; } catch (Zero z) { print 9; } print 9; } int h(int n) { while (true) { if (n == 3) { return n; } n = n + 1; } return 9; }"
            + " int k() { try { return 1 / 0; } catch (Zero z) { return 6; } } int main() { f(1); f(2); f(1); g(); print h(0) + h(3); print k(); return 0; } }", 2, 6, 6);
        work("w(); w();", 4);
        DUE.is("STEPS of an early return", DUE.ended("class Main { void f() { if (true) { return; } print 1; } int main() { f(); return 0; } }", 1).count(0), 1 + 3 + 2);
    }

    private static void silent() {
        DUE.sentence("What is no STEP (a BLOCK's end, a void METHOD's without return, going on in a catch) is done at once behind the STEP ahead of it.");
        work("try { } catch (Zero z) { }", 0);
        work("try { try { } catch (Zero z) { } } catch (Zero z) { }", 0);
        work("try { int a; } catch (Zero z) { i = 1; }", 0);
        work("if (true) { if (true) { } } else { }", 4);
        work("try { i = 1 / 0; } catch (Zero z) { }", 3);
        work("try { i = 1 / 0; } catch (Zero z) { int a; }", 3);
        // A METHOD whose last STEP is done is not open any more, and neither are those that wait for its end alone.
        ClassHouse x = DUE.begun("class Main { int i; void a() { b(); } void b() { if (true) { c(); } } void c() { i = 1; } int main() { a(); return 1; } }");
        // none; a(); b(); true; if; c(); 1; given; 1; return
        int[] open = {1, 2, 3, 3, 3, 4, 4, 1, 1, 0};
        for (int i = 0; i < open.length; i++) {
            DUE.is("METHODS behind STEP " + i, x.count(3), open[i]);
            x.step(1);
        }
        x = DUE.begun("class Main { void e() { } int main() { e(); return 1; } }");
        x.step(1);
        DUE.is("a METHOD without a STATEMENT ends with its CALL", x.count(3), 1);
        x = DUE.begun("class A { int q; } class Main { int main() { if (true) { A a = new A; } return 1; } }");
        x.step(3);
        DUE.is("reached behind new", x.count(2), 5);
        x.step(1);
        DUE.is("the BLOCK's end is done with the last STEP in it", x.count(2), 2);
    }

    /** What a STEP does is seen behind it and not ahead of it. */
    private static void doneAtTheStep() {
        DUE.sentence("STEPS: each of these, when all its parts are there (worked from the left), is one:");
        ClassHouse x = DUE.begun("class Main { int i; int main() { print 5; i = 7; print i; return i + 1; } }");
        int[] printed = {0, 0, 1, 1, 1, 1, 2, 2, 2, 2};
        for (int i = 0; i < printed.length; i++) {
            DUE.is("printed behind STEP " + i, x.count(4), printed[i]);
            DUE.is("result behind STEP " + i, x.result(), 0);
            DUE.is("step(1)", x.step(1), i < 9 ? 0 : 1);
        }
        DUE.is("result()", x.result(), 8);
        DUE.is("output(1)", x.output(1), 7);
    }

    private static void fromTheLeft() {
        String head = "class Main { ints r; int i; int p(int n) { print n; return n; } ints q() { print 8; return r; } Main m() { print 9; return this; } int f(int a, int b) { print 7; return a; }"
            + " bool b(int n) { print n; return n == 1; } int main() { r = new ints[5]; ";
        DUE.prints(head + "int x = p(1) + p(2) * p(3) - p(4); return 0; } }", 1, 2, 3, 4);
        DUE.prints(head + "int x = (p(1) - p(2)) / (p(3) + p(4)); return 0; } }", 1, 2, 3, 4);
        DUE.prints(head + "q()[p(1)] = p(2); return 0; } }", 8, 1, 2);
        DUE.prints(head + "m().i = p(2); return 0; } }", 9, 2);
        DUE.prints(head + "m().f(p(1), p(2)); return 0; } }", 9, 1, 2, 7);
        DUE.prints(head + "print q()[p(3)] + q()[p(4)]; return 0; } }", 8, 3, 8, 4, 0);
        DUE.prints(head + "print b(1) && b(2) || b(1) && b(1); return 0; } }", 1, 2, 1, 1, 1);
        DUE.prints(head + "print p(1) < p(2) == (p(3) <= p(4)); return 0; } }", 1, 2, 3, 4, 1);
        // A NAME's word is taken when it is worked, not later.
        DUE.prints("class Main { int i; int up() { i = i + 1; return i; } int main() { print i + up(); print up() + i; return 0; } }", 1, 4);
        DUE.prints("class Main { ints r; int swap() { r = null; return 4; } int main() { r = new ints[2]; ints s = r; r[1] = swap(); print s[1]; print r == null; return 0; } }", 4, 1);
    }

    private static void reads() {
        DUE.sentence("read (the next INPUT, 0 without one)");
        ClassHouse x = new ClassHouse();
        Due.load(x, Due.main("print read; print read; print read; print read; return read;"));
        x.input(4, 5, 6);
        x.start();
        x.step(100);
        int[] wanted = {4, 5, 6, 0};
        for (int i = 0; i < wanted.length; i++) {
            DUE.is("read " + i, x.output(i), wanted[i]);
        }
        DUE.is("the last read", x.result(), 0);
        DUE.is("count(6)", x.count(6), 0);
    }

    private static void wrapping() {
        DUE.sentence("numbers (ints that wrap; bool 1, 0)");
        int max = Integer.MAX_VALUE;
        int min = Integer.MIN_VALUE;
        value(MAX, max);
        value(MIN, min);
        value(MAX + " + 1", min);
        value(MAX + " + 0", max);
        value(MAX + " - 1", max - 1);
        value(MIN + " - 1", max);
        value(MIN + " + 1", min + 1);
        value("-" + MIN, min);
        value("-" + MAX, -max);
        value(MIN + " * -1", min);
        value(MIN + " / -1", min);
        value(MIN + " % -1", 0);
        value(MIN + " / 1", min);
        value(MAX + " / -1", -max);
        value(MIN + " + " + MIN, 0);
        value(MAX + " * " + MAX, 1);
        value(MAX + " * 2", -2);
        value("999999999 * 999999999", 999999999 * 999999999);
        value("65536 * 65536", 0);
        value("65536 * 32768", min);
        value("46341 * 46341", 46341 * 46341);
    }

    private static void cutTowardsZero() {
        DUE.sentence("all signs with two sides (/ % cut towards 0);");
        int[] numbers = {-7, -6, -1, 0, 1, 6, 7};
        int[] divisors = {-3, -2, -1, 1, 2, 3};
        for (int n : numbers) {
            for (int d : divisors) {
                int quotient = (n < 0 == d < 0 ? 1 : -1) * (Math.abs(n) / Math.abs(d));
                value("(" + n + ") / (" + d + ")", quotient);
                value("(" + n + ") % (" + d + ")", n - quotient * d);
            }
        }
        value(MIN + " / 2", -1073741824);
        value(MAX + " / " + MIN, 0);
        value(MAX + " % " + MIN, Integer.MAX_VALUE);
        value(MIN + " / " + MAX, -1);
        value(MIN + " % " + MAX, -1);
    }

    private static void comparing() {
        String[] numbers = {MIN, "-1", "0", "1", MAX};
        for (int i = 0; i < numbers.length; i++) {
            for (int j = 0; j < numbers.length; j++) {
                truth(numbers[i] + " < " + numbers[j], i < j ? 1 : 0);
                truth(numbers[i] + " <= " + numbers[j], i <= j ? 1 : 0);
                truth(numbers[i] + " == " + numbers[j], i == j ? 1 : 0);
                truth(numbers[i] + " != " + numbers[j], i != j ? 1 : 0);
            }
        }
        truth("true == true", 1);
        truth("true == false", 0);
        truth("false != false", 0);
        truth("this == this", 1);
        truth("this == new Main", 0);
        truth("new Main != new Main", 1);
        truth("this == null", 0);
        truth("null != this", 1);
        truth("new ints[0] == new ints[0]", 0);
        truth("new ints[0] == null", 0);
        truth("!true", 0);
        truth("!false", 1);
    }
}
