/** Where a text is WRONG; the mark ^ stands at the place. */
public final class P04WrongTest {
    private static final Due DUE = new Due("promise 4, WRONG");

    public static void main(String[] args) {
        DUE.fine(Due.main("return 1;"), 1);
        words();
        classesAndMembers();
        statements();
        expressions();
        placesAndCalls();
        nesting();
        ahead();
        DUE.close();
    }

    private static void in(String marked) {
        DUE.wrongAt(Due.main(marked));
    }

    private static void fine(String body) {
        DUE.fine(Due.main(body), 1);
    }

    private static void words() {
        DUE.wrongAt("^");
        DUE.wrongAt("  \n ^");
        DUE.wrongAt("^#");
        DUE.wrongAt("^\tclass Main { }");
        DUE.wrongAt("^\rclass Main { }");
        DUE.wrongAt("^\u00e9");
        DUE.wrongAt("class ^1A { }");
        DUE.wrongAt("class A^_b { }");
        DUE.fine("class\nMain{int\nmain(){return\n1;}}", 1);
        DUE.fine("class class1 { } class Main { int main() { return 1; } }", 2);
        fine("return 999999999;");
        fine("return 000000001;");
        in("return ^1234567890;");
        in("return ^0000000001;");
        in("return 1 ^& 2;");
        in("return 1 ^| 2;");
        in("return 1 ^> 2;");
        in("return 1 ==^= 2;");
        in("print 1 <^<= 2;");
        fine("print 1<=2; print 1!=2; print 1==2; print !!true; print 1- -1; return 1;");
        in("print 1 != ^= 2;");
        in("return 12^ab;");
        fine("bool a1b2 = true&&false||true; return 1;");
        fine("int returned = 1; int iff = 2; return returned;");
        in("int ^if = 1;");
        in("int size1if^.x;");
        DUE.wrongAt("class ^class { }");
        DUE.wrongAt("class ^read { }");
    }

    private static void classesAndMembers() {
        DUE.wrongAt("class^");
        DUE.wrongAt("class A^");
        DUE.wrongAt("class A  \n^");
        DUE.wrongAt("class A {^");
        DUE.wrongAt("class A { } ^A");
        DUE.wrongAt("class A { } ^;");
        DUE.wrongAt("class A { } ^}");
        DUE.wrongAt("class A : ^{ }");
        DUE.wrongAt("class A : ^int { }");
        DUE.wrongAt("class A : B ^: C { }");
        DUE.wrongAt("^int x;");
        DUE.wrongAt("class A { x^; }");
        DUE.wrongAt("class A { int ^; }");
        DUE.wrongAt("class A { int x ^= 1; }");
        DUE.wrongAt("class A { int x ^, y; }");
        DUE.wrongAt("class A { int x ^} ");
        DUE.wrongAt("class A { void x^; }");
        DUE.wrongAt("class A { void ^int x; }");
        DUE.wrongAt("class A { ^class B { } }");
        DUE.wrongAt("class A { ^; }");
        DUE.wrongAt("class A { void f(^void x) { } }");
        DUE.wrongAt("class A { void f(int^) { } }");
        DUE.wrongAt("class A { void f(int x ^int y) { } }");
        DUE.wrongAt("class A { void f(int x, ^) { } }");
        DUE.wrongAt("class A { void f(^, int x) { } }");
        DUE.wrongAt("class A { void f()^; }");
        DUE.wrongAt("class A { void f() { ^");
        DUE.wrongAt("class A { void f() { } ^");
        DUE.wrongAt("class A { void f() { } } ^return");
        DUE.fine("class A { int int1; bool b; ints r; A a; void f(int x, bool y, ints z, A a) { } }"
            + Due.main("return 1;"), 2);
    }

    private static void statements() {
        in("^{ } return 1;");
        in("^; return 1;");
        in("^else { }");
        in("^catch (Zero z) { }");
        in("^void x;");
        in("^class A { }");
        in("int ^;");
        in("int x ^y;");
        in("int x = ^; return 1;");
        in("int x = 1 ^y;");
        in("Main m ^[");
        in("if ^true { } return 1;");
        in("if (^) { } return 1;");
        in("if (true ^{ } return 1;");
        in("if (true) ^return 1;");
        in("if (true) { } else ^if (true) { } return 1;");
        in("while (true) ^; return 1;");
        in("while ^; return 1;");
        in("return 1 ^}");
        in("return 1 ^2;");
        in("throw^;");
        in("print^;");
        in("print 1^, 2;");
        in("try ^; return 1;");
        in("try { } ^return 1;");
        in("try { } catch ^Zero z { } return 1;");
        in("try { } catch (^) { } return 1;");
        in("try { } catch (Zero^) { } return 1;");
        in("try { } catch (^int z) { } return 1;");
        in("try { } catch (Zero z ^{ }");
        in("try { } catch (Zero z) ^; return 1;");
        fine("if (true) { } else { } while (false) { } try { } catch (Zero z) { } return 1;");
        fine("int x; int y = 1; bool b; ints r = null; Main m; Zero z = null; return 1;");
    }

    private static void expressions() {
        in("print 1 + ^;");
        in("print ^+ 1;");
        in("print 1 < 2 ^< 3;");
        in("print 1 < 2 ^<= 3;");
        in("print 1 == 2 ^== 3;");
        in("print 1 == 2 ^!= 3;");
        fine("print 1 < 2 == 3 < 4 && 1 + 2 * 3 - 4 <= 5 || false != true; return 1;");
        in("print this is Main ^is Main;");
        in("print this is Main ^< 1;");
        in("print 1 < 2 ^is Main;");
        in("print this is Main ^+ 1;");
        in("print this is Main ^* 1;");
        in("print this is Main^.x;");
        in("print this is Main ^as Main;");
        in("print this is ^ints;");
        in("print this as ^int;");
        in("print this as ^;");
        fine("print this as Main is Main == true; print this as Main as Main == this; return 1;");
        in("print new ^int;");
        in("print new ints^;");
        in("print new ints ^(3);");
        in("print new ints[^];");
        in("print new Main^();");
        fine("print new ints[3][2]; return new ints[3].size;");
        in("print (^);");
        in("print (1^;");
        in("print 1^);");
        in("print this.^1;");
        in("print this.x(^;");
        in("print f(1, ^);");
        in("print f(^, 1);");
        in("print f(1 ^2);");
        in("print r[1^;");
        in("print r[^];");
        in("print - ^;");
        in("print ^!=;");
        in("print ^return;");
        in("print ^int;");
        in("print 1 ^2;");
        in("print true ^! false;");
    }

    private static void placesAndCalls() {
        in("1^;");
        in("read^;");
        in("this^;");
        in("x^;");
        in("this.x^;");
        in("r[1]^;");
        in("main() + 1^;");
        in("-main()^;");
        in("main() as Main^;");
        in("new Main^;");
        in("true && main()^;");
        in("1 ^= 2;");
        in("main() ^= 2;");
        in("-x ^= 2;");
        in("x + y ^= 2;");
        in("true && x ^= 2;");
        in("false || this.x ^= 2;");
        in("x as Main ^= 2;");
        in("this ^= 2;");
        in("x ^}");
        in("main() ^}");
        in("x ^, y;");
        in("x = y ^= 2;");
        in("x = ^; return 1;");
        in("x == y^;");
        fine("main(); this.main(); (main()); (this).main(); return 1;");
        fine("int x; (x) = 1; ((x)) = 2; ints r = null; (r)[1] = 2; (r[1]) = 3; return 1;");
    }

    /** The class' and the method's { are the first two in one another, so 28 more may open. */
    private static void nesting() {
        fine("return " + Due.repeat("(", 28) + "1" + Due.repeat(")", 28) + ";");
        in("return " + Due.repeat("(", 28) + "^(1" + Due.repeat(")", 29) + ";");
        fine("return " + Due.repeat("-", 28) + "1;");
        in("return " + Due.repeat("-", 28) + "^-1;");
        fine("print " + Due.repeat("!", 28) + "true; return 1;");
        in("print " + Due.repeat("!", 28) + "^!true; return 1;");
        fine("return " + Due.repeat("-(", 14) + "1" + Due.repeat(")", 14) + ";");
        in("return " + Due.repeat("-(", 14) + "^-1" + Due.repeat(")", 14) + ";");
        in("return " + Due.repeat("-(", 14) + "^(1)" + Due.repeat(")", 14) + ";");
        fine(Due.repeat("if (true) { ", 28) + Due.repeat("} ", 28) + "return 1;");
        in(Due.repeat("if (true) { ", 28) + "if ^(true) { " + Due.repeat("} ", 29));
        in(Due.repeat("if (true) { ", 27) + "if (^(true)) { " + Due.repeat("} ", 29));
        fine("ints r = null; return " + Due.repeat("r[", 28) + "0" + Due.repeat("]", 28) + ";");
        in("ints r = null; return " + Due.repeat("r[", 28) + "r^[0" + Due.repeat("]", 29) + ";");
        in("main" + Due.repeat("(main", 28) + "^()" + Due.repeat(")", 28) + ";");
        // What is closed again, or ends, does not count.
        fine("return " + Due.repeat("-1 - (1) - ", 40) + Due.repeat("(", 28) + "1" + Due.repeat(")", 28) + ";");
        fine("return 1" + Due.repeat(" - -1", 200) + ";");
        fine("print " + Due.repeat("!true && ", 100) + "true; return 1;");
    }

    /** What is WRONG is told ahead of all that is BAD. */
    private static void ahead() {
        DUE.wrongAt("class A { } class A : B { int x; bool x; int f() { return true; } } ^x");
        DUE.wrongAt("class Main { int main() { return true; } int main() ^; }");
    }
}
