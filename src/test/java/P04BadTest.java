/** Where a program is BAD in its classes and members; the mark ^ stands at the place. */
public final class P04BadTest {
    private static final Due DUE = new Due("promise 4, BAD: A, B, C");
    private static final String MAIN = " class Main { int main() { return 1; } }";

    public static void main(String[] args) {
        classes();
        fields();
        methods();
        mains();
        order();
        answers();
        DUE.close();
    }

    private static void bad(String marked) {
        DUE.badAt(marked + MAIN);
    }

    private static void fine(String text, int classes) {
        DUE.fine(text + MAIN, classes);
    }

    private static void classes() {
        bad("class A { } class ^A { }");
        bad("class A { } class B { } class ^A { } class B { }");
        for (String name : new String[] {"Null", "Bounds", "Zero", "Cast", "Size"}) {
            bad("class ^" + name + " { }");
            fine("class A : " + name + " { }", 2);
        }
        bad("class ^A : B { }");
        bad("class ^A : A { }");
        bad("class ^A : B { } class B : A { }");
        bad("class A : B { } class ^B : B { }");
        bad("class A : B { } class ^B : C { } class C : D { } class D : B { }");
        fine("class A : B { } class B : C { } class C { }", 4);
        // Of these rules the first that is broken is told.
        bad("class A : Nope { } class B { } class ^B { }");
        bad("class A : A { } class B { } class ^B { }");
        bad("class A : A { } class ^B : Nope { }");
        bad("class ^A : A { } class B { int x; int x; }");
    }

    private static void fields() {
        fine("class A { int a; bool b; ints c; A d; B e; Zero f; Main g; } class B { }", 3);
        bad("class A { Nope ^a; }");
        bad("class A { int a; bool ^a; }");
        bad("class A { int a; int b; int ^a; int b; }");
        bad("class A { int x; } class B : A { int ^x; }");
        bad("class B : A { int ^x; } class A { int x; }");
        bad("class A { int x; } class B : A { } class C : B { int y; int ^x; }");
        fine("class A { int x; } class B { int x; }", 3);
        fine("class A { int f; int f() { return f; } int g() { return f(); } }", 2);
        fine("class A { int A; int size; int main; }", 2);
    }

    private static void methods() {
        bad("class A { Nope ^f() { } }");
        bad("class A { void ^f(Nope x) { } }");
        bad("class A { void ^f(int a, Nope x) { } }");
        bad("class A { void ^f(int a, bool a) { } }");
        bad("class A { void ^f(int a, int b, int c, int b) { } }");
        bad("class A { void f() { } int ^f() { return 1; } }");
        bad("class A { void f() { } int x; void ^f(int a) { } }");
        bad("class A { void f() { } } class B : A { int ^f() { return 1; } }");
        bad("class A { void f() { } } class B : A { void ^f(int a) { } }");
        bad("class A { void f(int a) { } } class B : A { void ^f() { } }");
        bad("class A { void f(int a) { } } class B : A { void ^f(bool a) { } }");
        bad("class A { void f(A a) { } } class B : A { void ^f(B a) { } }");
        bad("class A { A f() { return null; } } class B : A { B ^f() { return null; } }");
        bad("class A { void f() { } } class B : A { } class C : B { int ^f() { return 1; } }");
        bad("class B : A { int ^f() { return 1; } } class A { void f() { } }");
        fine("class A { A f(int a, B b) { return b; } }"
            + " class B : A { A f(int x, B y) { return this; } }", 3);
        fine("class A { void f() { } } class B { int f(int a) { return a; } }", 3);
        fine("class A { int x; void f(int x, A f) { } }", 2);
    }

    private static void mains() {
        DUE.badAt("class A { } ^");
        DUE.badAt("class A { int main() { return 1; } }  \n^");
        DUE.badAt("class Main { }^");
        DUE.badAt("class Main { int main; }^");
        DUE.badAt("class Main { void main() { } }^");
        DUE.badAt("class Main { bool main() { return true; } }^");
        DUE.badAt("class Main { int main(int x) { return x; } }^");
        DUE.badAt("class Main { int Main() { return 1; } }^");
        DUE.fine("class Main : A { } class A { int main() { return 1; } }", 2);
        DUE.fine("class Main : A { } class A : B { } class B { int main() { return 1; } }", 3);
    }

    /** A, B, C, D in this order, and of each what stands first in the text. */
    private static void order() {
        DUE.badAt("class Main { int main() { return true; } int x; bool x; } class ^Main { }");
        DUE.badAt("class Main { int f() { return true; } int x; bool ^x; }");
        DUE.badAt("class Main { int f() { return true; } }^");
        DUE.badAt("class A { Nope ^f() { } } class B { Nope x; }" + MAIN);
        DUE.badAt("class A { Nope ^f() { } Nope x; }" + MAIN);
        DUE.badAt("class A { Nope ^x; Nope f() { } }" + MAIN);
        DUE.badAt("class A { int f() { ^} int g() { return true; } }" + MAIN);
        DUE.badAt("class A { int f() { ^return true; } int g() { } }" + MAIN);
        DUE.badAt("class A { int f() { ^print null; } }" + MAIN);
        DUE.badAt("class Main { int main() { return 1; } int f() { ^return true; } } class A { void g() { print null; } }");
    }

    private static void answers() {
        ClassHouse x = new ClassHouse();
        DUE.is("program of seven", Due.load(x, "class A { } class B { } class C { } class D { } class E { } class F { }" + MAIN), 7);
        DUE.is("TAPE is empty", x.count(7), 0);
        DUE.is("start", x.start(), 1);
        x.step(1);
        DUE.is("a WRONG one", Due.load(x, "class A"), -8);
        DUE.is("TAPE is empty", x.count(7), 0);
        DUE.is("start without a program", x.start(), 0);
        DUE.is("step without a run", x.step(1), -1);
        DUE.is("the same again", Due.load(x, MAIN), 1);
        DUE.is("step ahead of start", x.step(1), -1);
        x.start();
        x.step(1);
        DUE.is("a BAD one", Due.load(x, "class A { }"), -10011);
        DUE.is("start without a program", x.start(), 0);
        DUE.is("step without a run", x.step(1), -1);
        DUE.is("count(0)", x.count(0), 0);
        DUE.is("another", Due.load(x, MAIN), 1);
        DUE.is("an empty TAPE", x.program(), -1);
        DUE.is("start without a program", x.start(), 0);
    }
}
