/** FAULTS, what is thrown, and where it goes. */
public final class P08FaultsTest {
    private static final Due DUE = new Due("promise 8, FAULTS");
    private static final String HEAD = "class E : Zero { int n; } class F : E { } class Main { int i; ints r; Main m; int f(int a) { return a; } int g() { throw new F; } void h() { h2(); } void h2() { print 1 / i; } int main() { ";

    public static void main(String[] args) {
        kinds();
        order();
        oneObject();
        ways();
        leaving();
        DUE.close();
    }

    private static void over(String statement, int wanted) {
        ClassHouse x = DUE.ended(HEAD + statement + " return 1; } }", 2);
        DUE.is("class of " + statement, x.result(), wanted);
        DUE.is("count(5) of " + statement, x.count(5), 1);
        DUE.is("count(2)", x.count(2), 0);
        DUE.is("count(3)", x.count(3), 0);
    }

    private static void prints(String body, int... wanted) {
        DUE.prints(HEAD + body + " return 0; } }", wanted);
    }

    private static void kinds() {
        over("print m.i;", 0);
        over("m.i = 1;", 0);
        over("print r[0];", 0);
        over("r[0] = 1;", 0);
        over("print r.size;", 0);
        over("print m.f(1);", 0);
        over("throw m;", 0);
        over("r = new ints[2]; print r[2];", 1);
        over("r = new ints[2]; print r[-1];", 1);
        over("r = new ints[2]; r[2] = 1;", 1);
        over("r = new ints[0]; r[0] = 1;", 1);
        over("r = new ints[2]; print r[999999999 * 2 + 147483649];", 1);
        over("print 1 / 0;", 2);
        over("print 1 % 0;", 2);
        over("print 0 / i;", 2);
        over("E e = this as E;", 3);
        over("Zero z = new Zero; E e = z as E;", 3);
        over("E e = new E; e = e as F;", 3);
        over("r = new ints[-1];", 4);
        over("r = new ints[-999999999];", 4);
        over("throw new E;", 5);
        over("throw new F;", 6);
        over("throw this;", 7);
        over("throw new Null;", 0);
        over("Zero z = new F; throw z;", 6);
        prints("print (m as E) == null; print m is Main; print this is Main; print (new F as Zero) is E; r = new ints[0]; print r.size;",
            1, 0, 1, 1, 0);
    }

    private static void order() {
        over("print r[-1];", 0);
        over("r[-1] = 1 / 0;", 2);
        over("m.i = 1 / 0;", 2);
        over("print m.f(1 / 0);", 2);
        over("print r[1 / 0];", 2);
        over("print m.i + 1 / 0;", 0);
        prints("try { i = 5 / 0; } catch (Zero z) { print i; } r = new ints[1]; try { r[1] = 7; } catch (Bounds b) { print r[0]; }", 0, 0);
    }

    private static void oneObject() {
        prints("Zero a = null; Zero b = null; try { print 1 / 0; } catch (Zero z) { a = z; } try { print 2 % 0; } catch (Zero z) { b = z; }"
            + " print a == b; print a == new Zero; print a is E; print a == null;", 1, 0, 0, 0);
        ClassHouse x = DUE.begun(HEAD + "Zero a = null; try { print 1 / 0; } catch (Zero z) { a = z; } while (true) { } return 0; } }");
        x.step(20);
        DUE.is("it takes no cells when it is reached", x.count(2), 5);
        DUE.is("nor when it is made", x.count(1), 5);
    }

    private static void ways() {
        prints("try { throw new E; } catch (E e) { print 1; }", 1);
        prints("try { throw new F; } catch (E e) { print e is F; }", 1);
        prints("try { throw new F; } catch (Zero e) { print 1; }", 1);
        prints("try { try { throw new Zero; } catch (E e) { print 1; } } catch (Zero z) { print 2; }", 2);
        prints("try { try { throw new E; } catch (E e) { print 1; throw new F; } } catch (F f) { print 2; }", 1, 2);
        prints("try { try { throw new E; } catch (E e) { print 1; throw e; } } catch (E e) { print 2; throw e; }", 1, 2);
        prints("try { print g(); print 9; } catch (E e) { print 1; } print 2;", 1, 2);
        prints("try { h(); print 9; } catch (Zero e) { print 1; } print 2;", 1, 2);
        prints("try { } catch (Zero e) { print 9; } print 1;", 1);
        prints("try { print 1; } catch (Zero e) { print 9; } try { h(); } catch (Zero z) { print 2; } h(); print 9;", 1, 2);
        prints("int a = 0; while (a < 3) { a = a + 1; try { if (a == 2) { print 1 / 0; } print a; } catch (Zero z) { print 20; } }", 1, 20, 3);
        prints("try { try { print 1 / 0; } catch (Null n) { print 9; } print 9; } catch (Cast c) { print 9; }");
        ClassHouse x = DUE.ended(HEAD + "try { h(); } catch (Cast c) { print 1; } return 1; } }", 2);
        DUE.is("what nobody catches", x.result(), 2);
        DUE.prints("class Main { int f() { try { return g(); } catch (Null n) { return 9; } } int g() { try { throw new Zero; } catch (Cast c) { return 8; } }"
            + " int main() { try { return f(); } catch (Zero z) { print 1; } return 0; } }", 1);
    }

    /** All within is left: words of parts, variables, methods. */
    private static void leaving() {
        prints("print 100 + f(200 + f(3));", 303);
        ClassHouse x = DUE.begun("class A { int a; int b; } class Main { A k(A x, int n) { A y = new A; if (n == 0) { throw new Zero; } return k(new A, n - 1); }"
            + " int main() { try { A q = new A; k(new A, 5).a = 1; } catch (Zero z) { while (true) { } } return 1; } }");
        x.step(500);
        DUE.is("METHODS that are open", x.count(3), 1);
        DUE.is("reached: Main's object and the Zero", x.count(2), 4);
        DUE.is("thrown", x.count(5), 1);
        prints("try { int a = 1; int b = 2; print 1 / 0; } catch (Zero z) { int c; c = 5; print c; int d = 6; print d; }", 5, 6);
    }
}
