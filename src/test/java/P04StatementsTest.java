/** Where a program is BAD in its statements; the mark ^ stands at the place. */
public final class P04StatementsTest {
    private static final Due DUE = new Due("promise 4, BAD: D");
    private static final String HEAD = "class A { int x; bool y; ints z; A a; int f(int p, A q) { return p; } void g() { } }"
        + " class B : A { B b; } class Main { int i; bool t; ints r; A o; B u; void v() { } A w(B k) { return k; } int main() { ";
    private static final String TAIL = " return 1; } }";

    public static void main(String[] args) {
        variables();
        workers();
        catches();
        gifts();
        names();
        calls();
        casts();
        signs();
        ends();
        sets();
        deadEnds();
        DUE.close();
    }

    private static void bad(String marked) {
        DUE.badAt(HEAD + marked + TAIL);
    }

    private static void fine(String body) {
        DUE.fine(HEAD + body + TAIL, 3);
    }

    private static void variables() {
        fine("int a = 1; bool b = true; ints c = null; A d = null; A e = new B; Zero f = null; ints g = r;");
        bad("^Nope a;");
        bad("^Nope a = null;");
        bad("int a; ^int a;");
        bad("int a; if (t) { ^bool a; }");
        bad("int a; while (t) { if (t) { ^int a = 1; } }");
        fine("if (t) { int a; } else { bool a; } while (t) { ints a; } try { A a; } catch (Zero z) { B a; } int a;");
        bad("^int a = true;");
        bad("^bool a = 1;");
        bad("^ints a = 1;");
        bad("^A a = r;");
        bad("^B a = new A;");
        bad("^int a = null;");
        bad("^bool a = null;");
        bad("^int a = v();");
        bad("^int a = b;");
        bad("^int a = a;");
        fine("int i = i; bool t = !t;");
        fine("int i = 1; bool o = t; int A = 2; int main = 3;");
        DUE.badAt("class Main { int f(int a) { ^int a; return 1; } int main() { return 1; } }");
        DUE.fine("class Main { int f(int a) { return a; } int main() { int a; return 1; } }", 1);
    }

    private static void workers() {
        bad("^if (1) { }");
        bad("^if (null) { }");
        bad("^while (o) { }");
        bad("^while (v()) { }");
        bad("^if (1) { print null; }");
        bad("if (t) { ^print null; } else { print null; }");
        bad("if (t) { } else { ^print null; }");
        bad("while (t) { ^print null; }");
        bad("^print null;");
        bad("^print r;");
        bad("^print o;");
        bad("^print v();");
        fine("print 1; print true; print i; print t;");
        bad("^throw 1;");
        bad("^throw true;");
        bad("^throw r;");
        bad("^throw null;");
        bad("if (t) { ^throw v(); }");
        fine("if (t) { throw new Zero; } if (t) { throw o; } if (t) { throw this; } if (t) { throw null as A; }");
        bad("^return true;");
        bad("^return null;");
        bad("^return;");
        bad("^return v();");
        DUE.badAt("class Main { void f() { ^return 1; } int main() { return 1; } }");
        DUE.badAt("class Main { void f() { ^return f(); } int main() { return 1; } }");
        DUE.fine("class Main { void f() { return; } Zero g() { return null; } ints h() { return null; }"
            + " Main k() { return this; } int main() { return 1; } }", 1);
        DUE.badAt("class Main { Zero f() { ^return this; } int main() { return 1; } }");
    }

    private static void catches() {
        fine("try { } catch (Zero z) { A a = null; z = null; Zero y = z; }");
        bad("^try { } catch (Nope z) { }");
        bad("^try { } catch (Nope z) { print null; }");
        bad("try { ^print null; } catch (Nope z) { }");
        bad("try { } catch (Zero z) { ^print null; }");
        bad("int z; ^try { } catch (Zero z) { }");
        bad("try { } catch (Zero z) { ^int z; }");
        bad("try { } catch (Zero z) { } ^o = z;");
        bad("try { ^o = z; } catch (Zero z) { }");
        bad("print 1; try { ^try { } catch (Nope a) { } } catch (Nope b) { }");
        fine("try { int z; } catch (Zero z) { } try { } catch (Zero z) { } int z;");
        fine("try { } catch (Zero i) { }");
    }

    private static void gifts() {
        fine("i = 1; t = false; r = null; o = u; o = null; u = o as B; this.i = 2; o.x = 3; o.a.a.z[1] = 4; r[i] = r[r.size];");
        bad("^i = true;");
        bad("^t = 1;");
        bad("^r = 1;");
        bad("^o = r;");
        bad("^u = o;");
        bad("^r = o;");
        bad("^nope = 1;");
        bad("^this.nope = 1;");
        bad("^o.b = null;");
        bad("^o.y = 1;");
        bad("^r.size = 1;");
        bad("^r.x = 1;");
        bad("^i.x = 1;");
        bad("^null.x = 1;");
        bad("^r[true] = 1;");
        bad("^r[1] = true;");
        bad("^r[1] = null;");
        bad("^o[1] = 1;");
        bad("^null[1] = 1;");
        bad("^i = v();");
        bad("int a; ^a = a;");
        bad("ints a; ^a[1] = 1;");
        bad("A a; ^a.x = 1;");
        bad("^main = 1;");
    }

    private static void names() {
        fine("print i + o.x + u.x + u.b.b.a.x + r.size + o.z.size + r[0]; print t == o.y;");
        bad("^print nope;");
        bad("^print main;");
        bad("^print A;");
        bad("^print o.nope;");
        bad("^print o.f;");
        bad("^print o.b == null;");
        bad("^print r.length;");
        bad("^print i.size;");
        bad("^print null.x;");
        bad("^print true.x;");
        bad("^print o.size;");
        bad("^print r[true];");
        bad("^print o[1];");
        bad("^print null[1];");
        bad("^print v().x;");
        DUE.fine("class Main { int size; int main() { return size + this.size; } }", 1);
        bad("^o = new Nope;");
        bad("^o = new main;");
        fine("o = new A; Zero z = new Zero; Main m = new Main;");
        bad("^r = new ints[true];");
        bad("^r = new ints[null];");
        fine("print new ints[r.size][new ints[2].size] + new A.x;");
    }

    private static void calls() {
        fine("v(); w(null); w(new B); this.v(); print o.f(1, u); print new B.f(2, null); o.g(); u.g(); w(u).g();");
        bad("^nope();");
        bad("^i();");
        bad("^f(1, u);");
        bad("^o.nope();");
        bad("^o.v();");
        bad("^o.f(1);");
        bad("^o.f(1, u, u);");
        bad("^o.f();");
        bad("^o.f(true, u);");
        bad("^o.f(1, r);");
        bad("^o.f(null, u);");
        bad("^w(new A);");
        bad("^w(v());");
        bad("^i.f(1, u);");
        bad("^r.size();");
        bad("^r.f(1, u);");
        bad("^null.g();");
        bad("^v(1);");
        bad("^v().v();");
        DUE.fine("class A { void f() { } } class B : A { } class Main : B { int main() { f(); this.f(); return 1; } }", 3);
    }

    private static void casts() {
        fine("o = o as B; u = o as B; o = null as A; print null is B; print this is Zero; Zero z = o as Zero;");
        bad("^print r is A;");
        bad("^print 1 is A;");
        bad("^print true is A;");
        bad("^print o is Nope;");
        bad("^o = r as A;");
        bad("^o = o as Nope;");
        bad("^u = u as A;");
        bad("^o = v() as A;");
        bad("^print v() is A;");
    }

    private static void signs() {
        fine("print -1 + 2 * 3 / 4 % 5 - 6; print 1 < 2; print 1 <= 2; print !t && t || !(t == t);");
        bad("^print -true;");
        bad("^print !1;");
        bad("^print -null;");
        bad("^print !null;");
        for (String sign : new String[] {"+", "-", "*", "/", "%", "<", "<="}) {
            bad("^print 1 " + sign + " true;");
            bad("^print true " + sign + " 1;");
            bad("^print null " + sign + " 1;");
            bad("^print true " + sign + " true;");
        }
        for (String sign : new String[] {"&&", "||"}) {
            bad("^print 1 " + sign + " true;");
            bad("^print true " + sign + " 1;");
            bad("^print true " + sign + " null;");
        }
        for (String sign : new String[] {"==", "!="}) {
            fine("print 1 " + sign + " 2; print t " + sign + " false; print o " + sign + " u; print u " + sign + " o; print r "
                + sign + " r; print r " + sign + " null; print null " + sign + " o; print null " + sign + " null;");
            bad("^print 1 " + sign + " true;");
            bad("^print 1 " + sign + " null;");
            bad("^print t " + sign + " o;");
            bad("^print o " + sign + " r;");
            bad("^print o " + sign + " this;");
            bad("^print v() " + sign + " v();");
            bad("^print new Zero " + sign + " new Null;");
        }
    }

    private static void ends() {
        String main = " int main() { return 1; } }";
        DUE.badAt("class Main { int f() { ^}" + main);
        DUE.badAt("class Main { int f() { print 1; ^}" + main);
        DUE.badAt("class Main { int f() { if (true) { return 1; } ^}" + main);
        DUE.badAt("class Main { int f() { if (true) { return 1; } else { } ^}" + main);
        DUE.badAt("class Main { int f() { if (true) { } else { return 1; } ^}" + main);
        DUE.badAt("class Main { int f() { while (true) { return 1; } ^}" + main);
        DUE.badAt("class Main { int f() { try { return 1; } catch (Zero z) { } ^}" + main);
        DUE.badAt("class Main { int f() { try { } catch (Zero z) { return 1; } ^}" + main);
        DUE.fine("class Main { int f() { if (true) { return 1; } else { throw new Zero; } }" + main, 1);
        DUE.fine("class Main { int f() { try { return 1; } catch (Zero z) { throw z; } }" + main, 1);
        DUE.fine("class Main { int f() { return 1; print 2; }" + main, 1);
        DUE.fine("class Main { int f() { return 1; while (true) { } }" + main, 1);
        DUE.fine("class Main { int f() { return 1; if (true) { } else { } }" + main, 1);
        DUE.fine("class Main { int f() { if (true) { if (true) { return 1; } else { return 2; } } else { return 3; } }" + main, 1);
        DUE.fine("class Main { void f() { } void g() { return; } void h() { throw new Zero; }" + main, 1);
        DUE.badAt("class Main { int f() { return 1; ^print null; }" + main);
    }

    private static void sets() {
        bad("int a; ^print a;");
        fine("int a; a = 1; print a;");
        bad("int a; if (t) { a = 1; } ^print a;");
        fine("int a; if (t) { a = 1; print a; } else { a = 2; } print a;");
        bad("int a; if (t) { a = 1; } else { } ^print a;");
        bad("int a; if (t) { a = 1; } else { ^print a; }");
        fine("int a; if (t) { a = 1; } else { return 2; } print a;");
        fine("int a; if (t) { throw new Zero; } else { a = 2; } print a;");
        bad("int a; if (t) { return 1; } ^print a;");
        bad("int a; while (t) { a = 1; } ^print a;");
        fine("int a; while (t) { a = 1; print a; }");
        bad("int a; while (t) { ^print a; a = 1; }");
        bad("int a; ^while (a < 1) { a = 1; }");
        bad("int a; ^while (t && a < 1) { a = 1; }");
        bad("int a; try { a = 1; } catch (Zero z) { } ^print a;");
        bad("int a; try { } catch (Zero z) { a = 1; } ^print a;");
        fine("int a; try { a = 1; } catch (Zero z) { a = 2; } print a;");
        fine("int a; try { a = 1; } catch (Zero z) { return 1; } print a;");
        fine("int a; try { return 1; } catch (Zero z) { a = 1; } print a;");
        bad("int a; try { a = 1; } catch (Zero z) { ^print a; }");
        fine("int a = 1; try { } catch (Zero z) { print a; print z == null; }");
        bad("int a; ^int b = a;");
        bad("A a; ^o.f(1, a);");
        bad("int a; ^return a;");
        bad("A a; ^throw a;");
        bad("int a; ^if (t || a == 1) { }");
        bad("if (t) { int a = 1; } if (t) { int a; ^print a; }");
        bad("int a; if (t) { int b; b = 1; a = 1; } else { int c; a = 2; } int d; ^print d;");
        DUE.fine("class Main { int f(int a, Main b) { return a + b.f(a, b); } int main() { return 1; } }", 1);
        DUE.badAt("class Main { int main() { int k; while (true) { try { k = 1 / 0; } catch (Zero z) { ^print k; } } return 1; } }");
    }

    private static void deadEnds() {
        fine("int a; if (t) { return 1; print a; }");
        fine("int a; if (t) { return 1; } else { return 2; } print a;");
        fine("int a; if (t) { throw o; if (t) { print a; } while (a < 1) { print a; } }");
        fine("int a; if (t) { try { return 1; } catch (Zero z) { return 2; } print a; }");
        fine("if (t) { return 1; int a; print a; }");
        bad("int a; if (t) { return 1; } else { } ^print a;");
        bad("int a; try { return 1; } catch (Zero z) { } ^print a;");
        bad("int a; while (t) { return 1; } ^print a;");
    }
}
