/** Boundaries of checking classes and members: which place is told, and in which order. */
public final class EdgeClassesTest {
    private static final Due DUE = new Due("edges of classes");
    private static final String[] BUILT_IN = {"Null", "Bounds", "Zero", "Cast", "Size"};
    private static final String MAIN = " class Main { int main() { return 1; } }";

    public static void main(String[] args) {
        builtIn();
        has();
        names();
        parents();
        rings();
        fieldTypes();
        fieldNames();
        methodTypes();
        parameterNames();
        methodNames();
        sameTypes();
        mains();
        order();
        orderOfTheText();
        DUE.close();
    }

    private static void bad(String marked) {
        DUE.badAt(marked + MAIN);
    }

    private static void fine(String text, int told) {
        DUE.fine(text + MAIN, told + 1);
    }

    private static void builtIn() {
        DUE.sentence("There are classes Null, Bounds, Zero, Cast, Size, without a PARENT and members, besides.");
        for (String name : BUILT_IN) {
            bad("class ^" + name + " { }");
            fine("class " + name + "s { }", 1);
            fine("class A : " + name + " { " + name + " x; void f(" + name + " p) { x = new " + name + "; x = p; x = this; print p is " + name + "; x = p as " + name + "; } }", 1);
            bad("class A { void f() { ^print new " + name + ".x; } }");
            bad("class A { void f() { ^print new " + name + ".size; } }");
            bad("class A { void f() { ^new " + name + ".f(); } }");
            for (String other : BUILT_IN) {
                String text = "class A { void f() { ^" + name + " x = new " + other + "; } }";
                if (name.equals(other)) {
                    fine(text.replace("^", ""), 1);
                } else {
                    bad(text);
                }
            }
            ClassHouse x = DUE.ended(Due.main(name + " n = new " + name + "; return 1;"), 1);
            DUE.is("cells of " + name, x.count(1), 4);
        }
        for (String none : new String[] {"Object", "Fault", "zero", "Room"}) {
            bad("class ^A : " + none + " { }");
        }
    }

    private static void has() {
        DUE.sentence("A class HAS its own members and those of its PARENT (and so on) that it does not tell itself.");
        String classes = "class A { int a; int f() { return 1; } int o() { return 2; } } class B : A { int b; int g() { return 3; } int o() { return 4; } }"
            + " class C : B { int c; int h() { return 5; } } class D { int d; int k() { return 6; } } ";
        String[] holders = {"A", "B", "C", "D"};
        String[] fields = {"a", "ab", "abc", "d"};
        String[] methods = {"fo", "fog", "fogh", "k"};
        for (int i = 0; i < holders.length; i++) {
            for (String field : new String[] {"a", "b", "c", "d"}) {
                hasOrNot(classes, "print new " + holders[i] + "." + field + ";", fields[i].contains(field));
                hasOrNot(classes, "new " + holders[i] + "." + field + " = 1;", fields[i].contains(field));
            }
            for (String method : new String[] {"f", "g", "h", "k", "o"}) {
                hasOrNot(classes, "print new " + holders[i] + "." + method + "();", methods[i].contains(method));
            }
        }
        DUE.prints(classes + Due.main("print new A.o(); print new B.o(); print new C.o(); print new C.f(); print new C.g(); A x = new C; print x.o(); x = new B; print x.f(); return 1;"),
            2, 4, 4, 1, 3, 4, 1);
        DUE.fine("class Main : C { int main() { a = b + c; return f() + g() + o() + this.a + this.f(); } } " + classes, 5);
        DUE.badAt("class Main : B { int main() { ^print c; return 1; } } " + classes);
        DUE.badAt("class Main : B { int main() { ^h(); return 1; } } " + classes);
    }

    private static void hasOrNot(String classes, String statement, boolean has) {
        if (has) {
            DUE.fine(classes + Due.main(statement + " return 1;"), 5);
        } else {
            DUE.badAt(classes + Due.main("^" + statement + " return 1;"));
        }
    }

    private static void names() {
        DUE.sentence("A: no two classes have one NAME;");
        fine("class A { } class B { }", 2);
        bad("class A { } class ^A { }");
        bad("class A { } class B { } class ^A { }");
        bad("class A { } class B { } class ^B { } class A { }");
        bad("class A { } class ^A { } class A { }");
        bad("class A { } class ^A : A { }");
        DUE.badAt(MAIN + " class ^Main { }");
        DUE.badAt(MAIN + " class ^Zero : Zero { }");
    }

    private static void parents() {
        DUE.sentence("PARENTS are classes;");
        fine("class A : B { } class B { }", 2);
        fine("class B { } class A : B { }", 2);
        fine("class A : Main { }", 1);
        bad("class ^A : B { }");
        bad("class ^A : a { }");
        bad("class A { int B; void B() { } } class ^C : B { }");
        bad("class A { } class ^B : C { } class D : E { }");
        bad("class A : B { } class ^B : C { }");
        DUE.badAt("class A { } class ^Main : B { int main() { return 1; } }");
    }

    private static void rings() {
        DUE.sentence("nobody is on one's own way of PARENTS (place: the class' NAME).");
        bad("class ^A : A { }");
        bad("class ^A : B { } class B : A { }");
        bad("class ^A : B { } class B : C { } class C : A { }");
        bad("class A : B { } class ^B : B { }");
        bad("class A : B { } class ^B : C { } class C : B { }");
        bad("class X { } class A : B { } class B : C { } class ^C : D { } class D : C { } class Y : X { }");
        fine("class A : B { } class B : C { } class C : D { } class D { }", 4);
        fine("class A : D { } class B : D { } class C : D { } class D { }", 4);
        StringBuilder way = new StringBuilder();
        for (int i = 0; i < 100; i++) {
            way.append("class w").append(i).append(" : w").append(i + 1).append(" { } ");
        }
        fine(way + "class w100 { }", 101);
        bad(way.toString().replace("class w0 ", "class ^w0 ") + "class w100 : w0 { }");
        bad(way.toString().replace("class w1 ", "class ^w1 ") + "class w100 : w1 { }");
        bad(way + "class ^w100 : w100 { }");
    }

    private static void fieldTypes() {
        DUE.sentence("B: FIELDS have TYPES that are (int, bool, ints, classes),");
        for (String type : new String[] {"int", "bool", "ints", "A", "B", "Main", "Null", "Size"}) {
            fine("class A { " + type + " x; } class B { }", 2);
        }
        for (String type : new String[] {"C", "x", "Int", "a", "main", "size"}) {
            bad("class A { int w; " + type + " ^x; int y; } class B { }");
        }
        DUE.wrongAt("class A { void x^; }");
    }

    private static void fieldNames() {
        DUE.sentence("and no NAME that a FIELD has that the class has already;");
        fine("class A { int x; int y; int X; }", 1);
        bad("class A { int x; int ^x; }");
        bad("class A { int x; int y; bool ^x; }");
        bad("class A { int x; int ^x; int x; }");
        bad("class A { int x; } class B : A { int ^x; }");
        bad("class B : A { int ^x; } class A { int x; }");
        bad("class A { int x; } class B : A { } class C : B { int ^x; }");
        bad("class C : B { int w; int ^x; int y; } class B : A { int z; } class A { int q; int x; }");
        fine("class A { int x; } class B { int x; }", 2);
        fine("class A { int x; } class B : A { int y; } class C : A { int y; }", 3);
        fine("class A { int x; } class B { A a; int x; }", 2);
        fine("class A { int x; int x() { return x; } } class B : A { int y; void y() { } int f(int x) { int y; return x; } }", 2);
        fine("class A { void x() { } } class B : A { int x; }", 2);
        fine("class A { int x; } class B : A { void x() { } }", 2);
        fine("class A { int A; int B; int Main; int Null; } class B { }", 2);
    }

    private static void methodTypes() {
        DUE.sentence("METHODS likewise have TYPES that are,");
        for (String type : new String[] {"int", "bool", "ints", "A", "Main", "Cast", "void"}) {
            fine("class A { " + type + " f() { throw this; } }", 1);
        }
        for (String type : new String[] {"B", "f", "Void", "p"}) {
            bad("class A { int g() { return 1; } " + type + " ^f() { throw this; } }");
            bad("class A { int ^f(" + type + " p) { throw this; } }");
            bad("class A { int ^f(int q, " + type + " p) { throw this; } }");
            bad("class A { int ^f(int q, A r, " + type + " p, bool s) { throw this; } }");
        }
        fine("class A { int f(int a, bool b, ints c, A d, Main e, Zero g) { throw this; } }", 1);
    }

    private static void parameterNames() {
        DUE.sentence("no two PARAMETERS of one NAME,");
        fine("class A { int x; void f(int x, int f, int A, int Main) { } void g(int x) { } }", 1);
        bad("class A { void ^f(int a, int a) { } }");
        bad("class A { void ^f(int a, bool b, ints a) { } }");
        bad("class A { void ^f(int a, int b, int c, int c) { } }");
        bad("class A { void ^f(int b, int a, int a, int c) { } }");
        fine("class A { void f(int a, int A, int aa, int a1) { } }", 1);
    }

    private static void methodNames() {
        DUE.sentence("no NAME of a METHOD of the same class;");
        fine("class A { void f() { } void g() { } void F() { } }", 1);
        bad("class A { void f() { } void ^f() { } }");
        bad("class A { void f() { } void ^f(int a) { } }");
        bad("class A { void f() { } int x; void g() { } int ^f() { return 1; } void g() { } }");
        fine("class A { void f() { } } class B { int f(int a) { return a; } }", 2);
        fine("class A { void A() { } void B() { } void Main() { } }", 1);
    }

    private static void sameTypes() {
        DUE.sentence("and if the PARENT has one of this NAME, the same TYPES of result and PARAMETERS (place: the member's NAME).");
        String[] heads = {"void %sf()", "int %sf()", "bool %sf()", "ints %sf()", "A %sf()", "B %sf()", "Zero %sf()", "int %sf(int p)", "int %sf(bool p)", "int %sf(A p)",
            "int %sf(B p)", "int %sf(int p, int q)", "int %sf(int p, bool q)", "int %sf(bool p, int q)", "int %sf(int p, int q, int r)"};
        for (int i = 0; i < heads.length; i++) {
            for (int j = 0; j < heads.length; j++) {
                String above = String.format(heads[i], "") + " { throw this; }";
                String below = String.format(heads[j], "^") + " { throw this; }";
                overrides("class A { " + above + " } class B : A { " + below + " }", i == j, 2);
                overrides("class A { " + above + " } class C : A { int x; } class B : C { " + below + " }", i == j, 3);
                overrides("class B : A { " + below + " } class A { " + above + " }", i == j, 2);
                fine("class A { " + above + " } class B { " + below.replace("^", "") + " }", 2);
            }
        }
        fine("class A { int f(int a, A b) { return a; } } class B : A { int f(int b, A a) { return b; } }", 2);
        bad("class A { int f() { return 1; } } class B : A { int f() { return 2; } } class C : B { bool ^f() { return true; } }");
        fine("class A { int f; } class B : A { bool f() { return true; } }", 2);
    }

    private static void overrides(String marked, boolean same, int told) {
        if (same) {
            fine(marked.replace("^", ""), told);
        } else {
            bad(marked);
        }
    }

    private static void mains() {
        DUE.sentence("C: there is a class Main that has a METHOD int main ( ) (place: the TAPE's length).");
        DUE.fine("class Main { int main() { return 1; } }", 1);
        DUE.badAt("class main { int main() { return 1; } }^");
        DUE.badAt("class A { int main() { return 1; } } \n ^");
        DUE.badAt("class Main { }^");
        DUE.badAt("class Main { int Main() { return 1; } }  ^");
        DUE.badAt("class Main { int main; }^");
        for (String type : new String[] {"void", "bool", "ints", "Main", "Zero"}) {
            DUE.badAt("class Main { " + type + " main() { throw this; } }^");
        }
        DUE.badAt("class Main { int main(int a) { return 1; } }^");
        DUE.badAt("class Main { int main(Main a, int b) { return 1; } }^");
        DUE.fine("class Main : A { } class A { int main() { return 1; } }", 2);
        DUE.fine("class A { int main() { return 1; } } class B : A { } class Main : B { }", 3);
        DUE.badAt("class Main { } class A : Main { int main() { return 1; } }^");
        DUE.badAt("class Main : A { } class A { void main() { } }^");
        DUE.fine("class Main { int main; int main() { return main; } }", 1);
    }

    /** What is BAD by an earlier letter is told, though it stands further behind. */
    private static void order() {
        DUE.sentence("Each of the following is BAD, if it is not so; the first one (in this order, and of each in the order of the text) is told by its place:");
        String d = "class X { int f() { return true; } } ";
        String b = "class Y { int x; int x; } ";
        String main = "class Main { int main() { return 1; } } ";
        DUE.badAt(d + b + "class ^A : A { }");
        DUE.badAt(d + b + "class ^Zero { }");
        DUE.badAt(b + "class ^A : Nope { }");
        DUE.badAt(d + "class ^A : Nope { }");
        DUE.badAt(d + "class Y { int x; int ^x; } ");
        DUE.badAt(d + main + "class Y { int x; int ^x; } ");
        DUE.badAt(d + "class Y { int x; } ^");
        DUE.badAt("class X { int f() { ^return true; } } " + main);
        DUE.badAt(main + "class X { int f() { ^return true; } } ");
        DUE.wrongAt(d + b + "class Zero : Nope { } ^x");
    }

    private static void orderOfTheText() {
        bad("class A { int x; int ^x; } class B { int y; int y; }");
        bad("class A { Nope ^x; int y; int y; }");
        bad("class A { int y; int ^y; Nope x; }");
        bad("class A { void ^f(int a, int a) { } void g(Nope b) { } }");
        bad("class A { int f() { ^return true; } int g() { return true; } } class B { int h() { return true; } }");
        bad("class A { int f() { return 1; } int g() { ^print null; print null; return true; } }");
        bad("class B : A { int g() { ^return true; } } class A { int f() { return true; } }");
    }
}
