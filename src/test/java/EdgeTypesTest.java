/** Boundaries of types in statements: each kind of value where each kind is wanted. */
public final class EdgeTypesTest {
    private static final Due DUE = new Due("edges of types");
    // B is SUB of A, C of both; D is alone. v() is a void METHOD's CALL.
    private static final String HEAD = "class A { int x; void g() { } } class B : A { int y; } class C : B { } class D : Zero { int x; } "
        + "class Main { int i; bool t; ints r; A a; B b; C c; D d; Zero z; Main m; void v() { } int p0() { return 0; } int p1(int q) { return q; }"
        + " int p2(int q, int w) { return q; } int p3(int q, int w, int e) { return q; } ";
    private static final int TOLD = 5;

    private static final String[] TYPES = {"int", "bool", "ints", "A", "B", "C", "D", "Zero", "null", "void"};
    private static final String[] VALUES = {"i", "t", "r", "a", "b", "c", "d", "z", "null", "v()"};

    public static void main(String[] args) {
        variables();
        variableTypes();
        variableNames();
        gifts();
        returns();
        conditions();
        throwsAndPrints();
        catches();
        values();
        names();
        dots();
        elements();
        calls();
        callsOfAllTypes();
        casts();
        news();
        signsOfOneSide();
        signsOfTwoSides();
        equals();
        joins();
        placesOfStatements();
        DUE.close();
    }

    private static void statement(String statement, boolean fine) {
        if (fine) {
            DUE.fine(HEAD + "int main() { " + statement + " return 1; } }", TOLD);
        } else {
            DUE.badAt(HEAD + "int main() { print 1; ^" + statement + " return 1; } }");
        }
    }

    private static void body(String marked) {
        DUE.badAt(HEAD + "int main() { " + marked + " return 1; } }");
    }

    private static void fineBody(String text) {
        DUE.fine(HEAD + "int main() { " + text + " return 1; } }", TOLD);
    }

    private static boolean isClass(String type) {
        return type.length() == 1 || type.equals("Zero");
    }

    private static boolean isSub(String type, String of) {
        if (type.equals("null")) {
            return isClass(of) || of.equals("ints");
        }
        String subs = " AA BB CC BA CB CA DD DZero ZeroZero intint boolbool intsints voidvoid ";
        return subs.contains(" " + type + of + " ");
    }

    private static void variables() {
        DUE.sentence("SUB: a class is SUB of itself and of all on the way of PARENTS; null of all classes and ints; int, bool, ints, void each of itself alone.");
        for (int of = 0; of < 8; of++) {
            for (int v = 0; v < VALUES.length; v++) {
                statement(TYPES[of] + " n = " + VALUES[v] + ";", isSub(TYPES[v], TYPES[of]));
            }
        }
    }

    private static void variableTypes() {
        DUE.sentence("A variable's TYPE is one;");
        for (int of = 0; of < 8; of++) {
            statement(TYPES[of] + " n;", true);
        }
        for (String none : new String[] {"E", "i", "a", "p0", "Int", "size"}) {
            statement(none + " n;", false);
            statement(none + " n = null;", false);
            statement(none + " n = nope;", false);
        }
    }

    private static void variableNames() {
        DUE.sentence("no variable that is there has its NAME (of open BLOCKS, PARAMETERS); a value is SUB of it.");
        body("int n; ^int n;");
        body("int n; ^bool n = true;");
        body("int n = 1; if (t) { ^int n; }");
        body("int n; while (t) { if (t) { try { ^A n; } catch (Zero q) { } } }");
        body("int n; try { } catch (Zero q) { ^int n; }");
        body("if (t) { int n; } int n; ^int n;");
        body("if (t) { int n; } else { int n; ^int n; }");
        fineBody("if (t) { int n; } else { int n; } while (t) { int n; } try { int n; } catch (Zero q) { int n; } int n;");
        fineBody("if (t) { if (t) { int n; } int n; } int n;");
        fineBody("int i; int a; int A; int Main; int main; int v; int N; int n;");
        DUE.badAt(HEAD + "int f(int n) { ^int n; return 1; } int main() { return 1; } }");
        DUE.badAt(HEAD + "int f(A k, int n) { while (t) { ^int n; } return 1; } int main() { return 1; } }");
        DUE.fine(HEAD + "int f(int n) { return n; } int g(int n) { return n; } int main() { int n; return 1; } }", TOLD);
    }

    private static void gifts() {
        DUE.sentence("PLACE = : SUB of the PLACE's TYPE.");
        for (int of = 0; of < 8; of++) {
            for (int v = 0; v < VALUES.length; v++) {
                boolean fine = isSub(TYPES[v], TYPES[of]);
                statement(VALUES[of] + " = " + VALUES[v] + ";", fine);
                statement("this." + VALUES[of] + " = " + VALUES[v] + ";", fine);
                statement("(m).m." + VALUES[of] + " = " + VALUES[v] + ";", fine);
            }
        }
        for (int v = 0; v < VALUES.length; v++) {
            statement("r[1] = " + VALUES[v] + ";", TYPES[v].equals("int"));
        }
        statement("nope = 1;", false);
        statement("main = 1;", false);
        statement("A = null;", false);
        statement("size = 1;", false);
        fineBody("A n; n = b; n = c; n = null; int i; i = 1; this.i = 2;");
        body("A n; ^n = d;");
        body("bool i; ^i = 1;");
    }

    private static void returns() {
        DUE.sentence("return: nothing in a void METHOD, else SUB of its result.");
        for (int of = 0; of < 8; of++) {
            for (int v = 0; v < VALUES.length; v++) {
                String method = TYPES[of] + " f() { ^return " + VALUES[v] + "; } int main() { return 1; } }";
                if (isSub(TYPES[v], TYPES[of])) {
                    DUE.fine(HEAD + method.replace("^", ""), TOLD);
                } else {
                    DUE.badAt(HEAD + method);
                }
            }
            DUE.badAt(HEAD + TYPES[of] + " f() { ^return; } int main() { return 1; } }");
        }
        for (String value : VALUES) {
            DUE.badAt(HEAD + "void f() { ^return " + value + "; } int main() { return 1; } }");
        }
        DUE.fine(HEAD + "void f() { return; } int main() { return 1; } }", TOLD);
    }

    private static void conditions() {
        DUE.sentence("if, while: bool.");
        for (int v = 0; v < VALUES.length; v++) {
            boolean fine = TYPES[v].equals("bool");
            statement("if (" + VALUES[v] + ") { }", fine);
            statement("if (" + VALUES[v] + ") { print 1; } else { print 2; }", fine);
            statement("while (" + VALUES[v] + ") { print 1; }", fine);
        }
    }

    private static void throwsAndPrints() {
        DUE.sentence("throw: a class.");
        for (int v = 0; v < VALUES.length; v++) {
            statement("throw " + VALUES[v] + ";", isClass(TYPES[v]));
        }
        statement("throw this;", true);
        statement("throw new Zero;", true);
        DUE.sentence("print: int or bool.");
        for (int v = 0; v < VALUES.length; v++) {
            statement("print " + VALUES[v] + ";", TYPES[v].equals("int") || TYPES[v].equals("bool"));
        }
    }

    private static void catches() {
        DUE.sentence("catch (its NAMES are looked at behind the try's BLOCK, ahead of its own): the first NAME is a class; the second one is a variable in its BLOCK alone, SET.");
        for (String name : new String[] {"A", "B", "Main", "Null", "Bounds", "Zero", "Cast", "Size"}) {
            statement("try { } catch (" + name + " n) { " + name + " k = n; n = null; }", true);
        }
        for (String name : new String[] {"E", "i", "main", "n"}) {
            statement("try { } catch (" + name + " n) { }", false);
        }
        body("try { ^print null; } catch (Nope n) { print null; }");
        body("^try { } catch (Nope n) { print null; }");
        body("^try { print 1; } catch (Nope n) { }");
        body("try { } catch (Zero n) { ^print null; }");
        body("try { } catch (Zero n) { ^print n; }");
        body("int n; ^try { } catch (Zero n) { }");
        body("int n; ^try { print 1; } catch (Zero n) { print null; }");
        body("int n; try { ^print null; } catch (Zero n) { }");
        body("try { ^z = n; } catch (Zero n) { }");
        body("try { } catch (Zero n) { ^int n; }");
        body("try { } catch (Zero n) { if (t) { ^int n; } }");
        body("try { } catch (Zero n) { } ^z = n;");
        body("try { } catch (Zero n) { ^a = n; }");
        body("try { ^try { } catch (Nope n) { } } catch (Nope k) { }");
        body("try { } catch (Zero n) { ^try { } catch (Zero n) { } }");
        fineBody("try { int n; } catch (Zero n) { } int n;");
        fineBody("try { } catch (Zero n) { } try { } catch (Null n) { }");
        fineBody("try { } catch (Zero i) { z = i; } i = 1;");
        DUE.badAt(HEAD + "void f(int n) { ^try { } catch (Zero n) { } } int main() { return 1; } }");
    }

    private static void values() {
        DUE.sentence("NUMBER, read: int. true, false: bool. this: the class.");
        String[] values = {"0", "read", "true", "false", "this"};
        String[] types = {"int", "int", "bool", "bool", "Main"};
        for (int v = 0; v < values.length; v++) {
            for (String of : new String[] {"int", "bool", "ints", "Main", "A", "Zero"}) {
                statement(of + " n = " + values[v] + ";", of.equals(types[v]));
            }
        }
        DUE.fine("class A { A f() { return this; } } class B : A { B g() { return this; } A h() { return this; } } " + Due.main("return 1;"), 3);
        DUE.badAt("class A { B f() { ^return this; } } class B : A { } " + Due.main("return 1;"));
    }

    private static void names() {
        DUE.sentence("NAME: a variable that is there, else a FIELD that the class has.");
        statement("print i;", true);
        statement("print nope;", false);
        statement("print x;", false);
        statement("print p0;", false);
        statement("print Main;", false);
        fineBody("bool i = true; if (i) { print i && t; } print this.i + 1;");
        body("bool i = true; ^print i + 1;");
        fineBody("if (t) { bool i = true; print i && t; } print i + 1;");
        body("if (t) { bool i = true; } ^if (i) { }");
        fineBody("try { } catch (Zero i) { z = i; } print i + 1;");
        body("try { } catch (Zero i) { ^print i + 1; }");
        DUE.fine("class A { int x; } class B : A { int f() { return x; } } " + Due.main("return 1;"), 3);
        DUE.badAt("class A { int f() { ^return x; } } class B : A { int x; } " + Due.main("return 1;"));
        DUE.fine("class A { bool x; int f(int x) { return x; } bool g() { return x; } } " + Due.main("return 1;"), 2);
    }

    private static void dots() {
        DUE.sentence("E . NAME: a FIELD that E's class has; of ints size: int (no PLACE).");
        String[] withX = {"A", "B", "C", "D"};
        String[] withY = {"B", "C"};
        for (int v = 0; v < VALUES.length; v++) {
            statement("print " + VALUES[v] + ".x;", isAmong(TYPES[v], withX));
            statement(VALUES[v] + ".x = 1;", isAmong(TYPES[v], withX));
            statement("print " + VALUES[v] + ".y;", isAmong(TYPES[v], withY));
            statement(VALUES[v] + ".y = 1;", isAmong(TYPES[v], withY));
            statement("print " + VALUES[v] + ".size;", TYPES[v].equals("ints"));
            statement(VALUES[v] + ".size = 1;", false);
            statement("print " + VALUES[v] + ".g;", false);
            statement("print " + VALUES[v] + ".Size;", false);
        }
        statement("bool n = r.size;", false);
        statement("int n = r.size;", true);
        statement("print this.x;", false);
        statement("print (1 + 2).size;", false);
        DUE.fine("class A { int size; } class Main { int main() { A a = new A; a.size = 1; return a.size; } }", 2);
    }

    private static boolean isAmong(String type, String[] some) {
        for (String one : some) {
            if (one.equals(type)) {
                return true;
            }
        }
        return false;
    }

    private static void elements() {
        DUE.sentence("E [ int ]: of ints: int.");
        for (int v = 0; v < VALUES.length; v++) {
            statement("print " + VALUES[v] + "[1];", TYPES[v].equals("ints"));
            statement(VALUES[v] + "[1] = 1;", TYPES[v].equals("ints"));
            statement("print r[" + VALUES[v] + "];", TYPES[v].equals("int"));
            statement("r[" + VALUES[v] + "] = 1;", TYPES[v].equals("int"));
        }
        statement("int n = r[0];", true);
        statement("bool n = r[0];", false);
        statement("ints n = r[0];", false);
        statement("print r[0][0];", false);
        statement("print r[r[r.size]];", true);
    }

    private static void calls() {
        DUE.sentence("CALLS: a METHOD that E's (this') class has, ARGUMENTS as many as PARAMETERS, each SUB; its result (void: only as a STATEMENT).");
        String[] arguments = {"()", "(1)", "(1, 2)", "(1, 2, 3)", "(1, 2, 3, 4)"};
        for (int wanted = 0; wanted < 4; wanted++) {
            for (int given = 0; given < arguments.length; given++) {
                statement("p" + wanted + arguments[given] + ";", wanted == given);
                statement("print m.p" + wanted + arguments[given] + ";", wanted == given);
            }
        }
        for (int v = 0; v < VALUES.length; v++) {
            boolean number = TYPES[v].equals("int");
            statement("p1(" + VALUES[v] + ");", number);
            statement("p3(1, " + VALUES[v] + ", 3);", number);
            statement("p3(1, 2, " + VALUES[v] + ");", number);
            for (int of = 0; of < 8; of++) {
                String text = "void f(" + TYPES[of] + " n) { } int main() { ^f(" + VALUES[v] + "); return 1; } }";
                if (isSub(TYPES[v], TYPES[of])) {
                    DUE.fine(HEAD + text.replace("^", ""), TOLD);
                } else {
                    DUE.badAt(HEAD + text);
                }
            }
        }
        statement("nope();", false);
        statement("i();", false);
        statement("g();", false);
        statement("Main();", false);
        statement("int n = p0();", true);
        statement("bool n = p0();", false);
    }

    private static void callsOfAllTypes() {
        String[] withG = {"A", "B", "C"};
        for (int v = 0; v < VALUES.length; v++) {
            statement(VALUES[v] + ".g();", isAmong(TYPES[v], withG));
            statement(VALUES[v] + ".v();", false);
            statement(VALUES[v] + ".size();", false);
        }
        statement("v();", true);
        statement("(v());", true);
        statement("m.v();", true);
        for (String use : new String[] {"print v();", "i = v();", "int n = v();", "p1(v());", "v().x = 1;", "r[v()] = 1;", "r = new ints[v()];", "print -v();", "print !v();", "print v() + 1;",
            "print v() == v();", "print v() && t;", "print t || v();", "print v() is A;", "a = v() as A;", "throw v();", "if (v()) { }", "while (v()) { }", "v().v();", "return v();"}) {
            statement(use, false);
        }
    }

    private static void casts() {
        DUE.sentence("as, is: E of a class or null, NAME a class: that class; bool.");
        for (int v = 0; v < VALUES.length; v++) {
            boolean object = isClass(TYPES[v]) || TYPES[v].equals("null");
            for (String name : new String[] {"A", "B", "C", "D", "Zero", "Main", "Null"}) {
                statement("print " + VALUES[v] + " is " + name + ";", object);
                statement(name + " n = " + VALUES[v] + " as " + name + ";", object);
            }
            for (String none : new String[] {"E", "i", "a", "p0"}) {
                statement("print " + VALUES[v] + " is " + none + ";", false);
                statement("print " + VALUES[v] + " as " + none + " == null;", false);
            }
        }
        statement("B n = c as A;", false);
        statement("B n = null as A;", false);
        statement("A n = null as B;", true);
        statement("int n = a is A;", false);
        statement("bool n = a is A;", true);
    }

    private static void news() {
        DUE.sentence("new NAME: a class. new ints [ int ].");
        for (String name : new String[] {"A", "B", "C", "D", "Main", "Null", "Bounds", "Zero", "Cast", "Size"}) {
            statement(name + " n = new " + name + ";", true);
        }
        for (String none : new String[] {"E", "i", "a", "p0", "size"}) {
            statement("a = new " + none + ";", false);
        }
        statement("C n = new B;", false);
        for (int v = 0; v < VALUES.length; v++) {
            statement("r = new ints[" + VALUES[v] + "];", TYPES[v].equals("int"));
            if (v < 8) {
                statement(TYPES[v] + " n = new ints[1];", TYPES[v].equals("ints"));
            }
        }
    }

    private static void signsOfOneSide() {
        DUE.sentence("- ! : int, bool.");
        for (int v = 0; v < VALUES.length; v++) {
            statement("print -" + VALUES[v] + ";", TYPES[v].equals("int"));
            statement("print !" + VALUES[v] + ";", TYPES[v].equals("bool"));
        }
        statement("bool n = -1;", false);
        statement("int n = !true;", false);
    }

    private static void signsOfTwoSides() {
        DUE.sentence("* / % + - < <= : int and int.");
        for (String sign : new String[] {"*", "/", "%", "+", "-", "<", "<="}) {
            for (int left = 0; left < VALUES.length; left++) {
                for (int right = 0; right < VALUES.length; right++) {
                    boolean fine = TYPES[left].equals("int") && TYPES[right].equals("int");
                    statement("print " + VALUES[left] + " " + sign + " " + VALUES[right] + ";", fine);
                }
            }
            boolean compares = sign.startsWith("<");
            statement("int n = 1 " + sign + " 2;", !compares);
            statement("bool n = 1 " + sign + " 2;", compares);
        }
    }

    private static void equals() {
        DUE.sentence("== != : int and int, bool and bool, or two of classes, ints, null of which one is SUB of the other.");
        for (String sign : new String[] {"==", "!="}) {
            for (int left = 0; left < VALUES.length; left++) {
                for (int right = 0; right < VALUES.length; right++) {
                    String one = TYPES[left];
                    String two = TYPES[right];
                    boolean void1 = one.equals("void") || two.equals("void");
                    // The document does not say whether null is SUB of itself; here it is.
                    boolean nulls = one.equals("null") && two.equals("null");
                    boolean fine = !void1 && (nulls || isSub(one, two) || isSub(two, one));
                    statement("print " + VALUES[left] + " " + sign + " " + VALUES[right] + ";", fine);
                }
            }
            statement("bool n = a " + sign + " b;", true);
            statement("int n = 1 " + sign + " 2;", false);
        }
    }

    private static void joins() {
        DUE.sentence("&& || : bool.");
        for (String sign : new String[] {"&&", "||"}) {
            for (int left = 0; left < VALUES.length; left++) {
                for (int right = 0; right < VALUES.length; right++) {
                    boolean fine = TYPES[left].equals("bool") && TYPES[right].equals("bool");
                    statement("print " + VALUES[left] + " " + sign + " " + VALUES[right] + ";", fine);
                }
            }
            statement("int n = t " + sign + " t;", false);
            statement("bool n = t " + sign + " t;", true);
        }
    }

    private static void placesOfStatements() {
        DUE.sentence("D: STATEMENTS of METHODS (place: the first word of the STATEMENT; what is told behind inner ones: the outer one's),");
        body("^if (1) { print null; } else { print null; }");
        body("if (t) { ^print null; } else { print null; }");
        body("if (t) { } else { ^print null; }");
        body("^while (1) { print null; }");
        body("while (t) { ^print null; }");
        body("while (t) { if (t) { while (t) { ^print null; } } }");
        body("if (t) { if (t) { ^while (1) { } } print null; }");
        body("if (t) { if (t) { } ^print null; }");
        body("if (t) { } ^print null;");
        body("try { print 1; } catch (Zero n) { print 2; } ^(i) = t;");
        body("^this.i = t;");
        body("^(this).v(1);");
        body("^1.f();");
        body("^null.v();");
        body("^new A.v();");
        body("try { if (t) { print 1; } try { ^print null; } catch (Nope n) { } } catch (Nope k) { }");
        body("try { if (t) { print 1; } ^try { print 2; } catch (Nope n) { } } catch (Nope k) { }");
        body("^try { if (t) { print 1; } try { print 2; } catch (Zero n) { } } catch (Nope k) { }");
        DUE.badAt(HEAD + "int f() { print 1; ^} int main() { return 1; } }");
        DUE.badAt(HEAD + "int f() { ^print null; } int main() { return 1; } }");
    }
}
