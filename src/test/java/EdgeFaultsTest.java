/** Boundaries of FAULTS: the last value that passes and the first one that throws, and where it goes. */
public final class EdgeFaultsTest {
    private static final Due DUE = new Due("edges of FAULTS");
    private static final int NULL = 0;
    private static final int BOUNDS = 1;
    private static final int ZERO = 2;
    private static final int CAST = 3;
    private static final int SIZE = 4;
    private static final String[] NAMES = {"Null", "Bounds", "Zero", "Cast", "Size"};
    // E is 5, F 6, G 7, Main 8.
    private static final String HEAD = "class E : Zero { int n; } class F : E { } class G { } class Main { int i; ints r; Main m; E e; int f(int a) { return a; } void v() { } int main() { ";
    private static final String MAX = "(999999999 * 2 + 147483649)";
    private static final String MIN = "(-999999999 * 2 - 147483650)";

    public static void main(String[] args) {
        nulls();
        bounds();
        zeros();
        sizes();
        casts();
        isTests();
        ownObjects();
        nothingElse();
        order();
        innermost();
        classesOfCatch();
        notFromItsCatch();
        otherMethods();
        leftWithin();
        counted();
        DUE.close();
    }

    private static void over(String statements, int wanted) {
        ClassHouse x = DUE.ended(HEAD + statements + " return 1; } }", 2);
        DUE.is("result of " + statements, x.result(), wanted);
        DUE.is("thrown by " + statements, x.count(5), 1);
        if (wanted < NAMES.length) {
            prints("try { " + statements + " } catch (" + NAMES[wanted] + " q) { print 77; }", 77);
        }
    }

    private static void passes(String statements) {
        ClassHouse x = DUE.ended(HEAD + statements + " return 1; } }", 1);
        DUE.is("thrown by " + statements, x.count(5), 0);
    }

    private static void prints(String statements, int... wanted) {
        DUE.prints(HEAD + statements + " return 0; } }", wanted);
    }

    private static void nulls() {
        DUE.sentence("Null: . NAME, [ ], size, a CALL, of null; throw null.");
        for (String use : new String[] {"i = m.i;", "m.i = 1;", "m.m.i = 1;", "i = r[0];", "r[0] = 1;", "i = r.size;", "m.v();", "i = m.f(1);", "throw m;", "throw e;", "throw null as G;"}) {
            over(use, NULL);
        }
        for (String use : new String[] {"i = m.i;", "m.i = 1;", "i = r[0];", "r[0] = 1;", "i = r.size;", "m.v();", "i = m.f(1);"}) {
            passes("m = this; r = new ints[1]; " + use);
        }
        over("m = this; m = null; m.v();", NULL);
    }

    private static void bounds() {
        DUE.sentence("Bounds: [ ] outside.");
        for (int size = 0; size <= 3; size++) {
            String row = "r = new ints[" + size + "]; ";
            for (int at = -2; at <= 4; at++) {
                if (at >= 0 && at < size) {
                    passes(row + "i = r[" + at + "];");
                    passes(row + "r[" + at + "] = 1;");
                } else {
                    over(row + "i = r[" + at + "];", BOUNDS);
                    over(row + "r[" + at + "] = 1;", BOUNDS);
                }
            }
            over(row + "i = r[" + MAX + "];", BOUNDS);
            over(row + "r[" + MIN + "] = 1;", BOUNDS);
            over(row + "i = r[r.size];", BOUNDS);
        }
        // Neighbours in the HEAP are not to be seen.
        over("ints a = new ints[1]; ints b = new ints[1]; i = a[4];", BOUNDS);
        over("ints a = new ints[1]; ints b = new ints[1]; i = b[-2];", BOUNDS);
    }

    private static void zeros() {
        DUE.sentence("Zero: / % by 0.");
        for (String sign : new String[] {"/", "%"}) {
            for (String left : new String[] {"0", "1", "-1", MAX, MIN}) {
                over("i = " + left + " " + sign + " 0;", ZERO);
                over("i = " + left + " " + sign + " i;", ZERO);
                over("i = " + left + " " + sign + " (1 - 1);", ZERO);
                passes("i = " + left + " " + sign + " 1;");
                passes("i = " + left + " " + sign + " -1;");
                passes("i = " + left + " " + sign + " " + MIN + ";");
            }
        }
    }

    private static void sizes() {
        DUE.sentence("Size: new ints below 0.");
        over("r = new ints[-1];", SIZE);
        over("r = new ints[-2];", SIZE);
        over("r = new ints[" + MIN + "];", SIZE);
        passes("r = new ints[0];");
        passes("r = new ints[1];");
        passes("r = new ints[-0];");
        // Neither what is thrown nor what fits decides by room.
        DUE.ended(HEAD + "r = new ints[" + MAX + "]; return 1; } }", 3);
        DUE.ended(HEAD + "try { r = new ints[" + MAX + "]; } catch (Size s) { print 1; } return 1; } }", 3);
    }

    private static void casts() {
        DUE.sentence("Cast: as, of an object whose class is not SUB of it (null passes; is null is false).");
        String[] made = {"Zero", "E", "F", "G", "Main", "Null"};
        String[] subs = {"Zero", "E Zero", "F E Zero", "G", "Main", "Null"};
        for (int i = 0; i < made.length; i++) {
            for (String name : new String[] {"Zero", "E", "F", "G", "Main", "Null", "Cast"}) {
                boolean sub = (" " + subs[i] + " ").contains(" " + name + " ");
                String cast = name + " q = new " + made[i] + " as " + name + ";";
                if (sub) {
                    passes(cast);
                } else {
                    over(cast, CAST);
                }
                prints("print new " + made[i] + " is " + name + ";", sub ? 1 : 0);
            }
        }
        for (String name : new String[] {"Zero", "E", "F", "G", "Main", "Null"}) {
            prints("print (null as " + name + ") == null; print null is " + name + "; print (m as " + name + ") == null; print m is " + name + ";", 1, 0, 1, 0);
        }
        prints("e = new F; Zero z = e; print (z as F) == e; print (z as E) == z; print (e as Zero) == z; print (this as Main) == this;", 1, 1, 1, 1);
    }

    private static void isTests() {
        DUE.sentence("is null is false");
        prints("print m is Main; m = this; print m is Main; m = null; print m is Main; print e is Zero; e = new E; print e is Zero; print e is F; print e is G;", 0, 1, 0, 0, 1, 0, 0);
    }

    private static void ownObjects() {
        DUE.sentence("FAULTS throw an object of its own (always the same one, it takes no cells):");
        String[] faults = {"i = m.i;", "r = new ints[0]; i = r[0];", "i = 1 / 0;", "G g = this as G;", "r = new ints[-1];"};
        String[] again = {"throw m;", "r = new ints[1]; r[1] = 2;", "i = 1 % 0;", "e = new Zero as E;", "r = new ints[-5];"};
        for (int fault = 0; fault < NAMES.length; fault++) {
            String name = NAMES[fault];
            prints(name + " a = null; " + name + " b = null; try { " + faults[fault] + " } catch (" + name + " q) { a = q; } try { " + again[fault] + " } catch (" + name + " q) { b = q; }"
                + " print a == b; print a == null; print a is " + name + "; print a == new " + name + "; print (a as " + name + ") == b;"
                + " try { throw a; } catch (" + name + " q) { print q == b; }", 1, 0, 1, 0, 1, 1);
            ClassHouse x = DUE.stepped(HEAD + name + " a = null; try { " + again[fault] + " } catch (" + name + " q) { a = q; } r = null; while (a is " + name + ") { } return 0; } }", 100);
            DUE.is("it is there for long", x.count(3), 1);
            DUE.is("cells reached besides Main's", x.count(2) - 6, 0);
            DUE.is("cells made besides Main's", x.count(1) - 6, fault == BOUNDS ? 3 : fault == CAST ? 2 : 0);
        }
    }

    private static void nothingElse() {
        DUE.sentence("(Null ahead of Bounds; of a STEP the FAULT is all that it does.)");
        over("i = r[-1];", NULL);
        over("r[-1] = 1;", NULL);
        over("r[" + MAX + "] = 1;", NULL);
        prints("i = 5; try { i = 1 / 0; } catch (Zero z) { } print i;", 5);
        prints("r = new ints[2]; r[0] = 3; try { r[2] = 9; } catch (Bounds b) { } print r[0]; print r[1]; print r.size;", 3, 0, 2);
        prints("r = new ints[2]; try { r = new ints[-1]; } catch (Size s) { } print r.size;", 2);
        prints("e = new E; try { e = new Zero as E; } catch (Cast c) { } print e is E;", 1);
        prints("m = this; try { m.m.m.i = 4; m = null; m.i = 9; } catch (Null n) { } print i; print m == null;", 4, 1);
        prints("int a = 7; try { a = r.size; } catch (Null n) { } print a;", 7);
        // The FAULT's STEP is counted, and those ahead of it are done.
        DUE.is("STEPS", DUE.ended(Due.main("return 1 / 0;"), 2).count(0), 3);
        DUE.is("STEPS", DUE.ended(Due.main("throw new Zero;"), 2).count(0), 2);
        DUE.is("STEPS", DUE.ended(Due.main("ints r = null; r[5] = 6; return 1;"), 2).count(0), 2 + 4);
    }

    private static void order() {
        DUE.sentence("= (a PLACE's parts first, then the value)");
        over("m.i = 1 / 0;", ZERO);
        over("r[0] = 1 / 0;", ZERO);
        over("r[1 / 0] = m.i;", ZERO);
        over("m.m.i = 1 / 0;", NULL);
        over("m.r[1 / 0] = 1;", NULL);
        over("i = m.f(1 / 0);", ZERO);
        over("i = r[1 / 0];", ZERO);
        over("i = m.i + 1 / 0;", NULL);
        over("i = 1 / 0 + m.i;", ZERO);
    }

    private static void innermost() {
        DUE.sentence("What is thrown goes to the innermost try around");
        prints("try { try { i = 1 / 0; } catch (Zero a) { print 1; } } catch (Zero b) { print 2; } print 3;", 1, 3);
        prints("try { try { i = 1 / 0; } catch (Null a) { print 1; } } catch (Zero b) { print 2; } print 3;", 2, 3);
        prints("try { try { try { i = 1 / 0; } catch (Null a) { print 1; } } catch (Cast b) { print 2; } print 4; } catch (Zero c) { print 3; }", 3);
        prints("try { i = 1; } catch (Zero a) { print 1; } try { i = 1 / 0; } catch (Zero b) { print 2; }", 2);
        over("try { i = 1; } catch (Zero a) { print 1; } i = 1 / 0;", ZERO);
        over("try { try { i = 1 / 0; } catch (Null a) { print 1; } } catch (Cast b) { print 2; }", ZERO);
        prints("while (i < 3) { i = i + 1; try { if (i == 2) { throw new G; } print i; } catch (G g) { print 9; } }", 1, 9, 3);
        prints("if (true) { try { if (true) { while (true) { i = 1 / 0; } } } catch (Zero z) { print 1; } }", 1);
    }

    private static void classesOfCatch() {
        DUE.sentence("whose catch class its class is SUB of:");
        String[] thrown = {"Zero", "E", "F", "G"};
        String[] caughtBy = {"Zero", "Zero E", "Zero E F", "G"};
        for (int i = 0; i < thrown.length; i++) {
            for (String name : new String[] {"Zero", "E", "F", "G"}) {
                boolean caught = (" " + caughtBy[i] + " ").contains(" " + name + " ");
                prints("try { try { throw new " + thrown[i] + "; } catch (" + name + " q) { print q is " + thrown[i] + "; } } catch (" + thrown[i] + " w) { print 5; }", caught ? 1 : 5);
            }
        }
        // By the object's class, not the word's.
        prints("Zero z = new F; try { try { throw z; } catch (G g) { print 1; } } catch (F f) { print 2; }", 2);
    }

    private static void notFromItsCatch() {
        DUE.sentence("(in the METHODS that are open, too; not from its catch)");
        over("try { throw this; } catch (Main a) { i = 1 / 0; }", 2, 2);
        prints("try { try { throw new E; } catch (E a) { throw a; } } catch (E b) { print 2; }", 2);
        prints("try { try { throw new E; } catch (E a) { print 1; throw new E; } } catch (E b) { print b == null; }", 1, 0);
        over("try { throw new E; } catch (E a) { throw a; }", 5, 2);
        over("try { throw new E; } catch (E a) { throw new F; }", 6, 2);
        prints("try { throw new E; } catch (E a) { try { throw a; } catch (E b) { print a == b; } }", 1);
        prints("int n = 0; while (n < 2) { n = n + 1; try { throw new E; } catch (E a) { print n; } }", 1, 2);
    }

    private static void over(String statements, int wanted, int thrown) {
        ClassHouse x = DUE.ended(HEAD + statements + " return 1; } }", 2);
        DUE.is("result of " + statements, x.result(), wanted);
        DUE.is("thrown by " + statements, x.count(5), thrown);
    }

    private static void otherMethods() {
        String head = "class G { } class H : G { } class Main { int i; int deep(int n) { if (n == 0) { throw new G; } return deep(n - 1); }"
            + " int near(int n) { try { return deep(n); } catch (G g) { return 50; } } int wrong(int n) { try { return deep(n); } catch (H h) { return 60; } }"
            + " int again(int n) { try { return deep(n); } catch (G g) { throw g; } } int main() { ";
        DUE.prints(head + "try { print deep(0); } catch (G g) { print 1; } return 0; } }", 1);
        DUE.prints(head + "try { print deep(97); } catch (G g) { print 1; } return 0; } }", 1);
        DUE.prints(head + "try { print near(90); } catch (G g) { print 1; } return 0; } }", 50);
        DUE.prints(head + "try { print wrong(90); } catch (G g) { print 1; } return 0; } }", 1);
        DUE.prints(head + "try { print again(90); } catch (G g) { print 1; } return 0; } }", 1);
        DUE.prints(head + "print near(3) + near(4); return 0; } }", 100);
        ClassHouse x = DUE.ended(head + "return wrong(5); } }", 2);
        DUE.is("OVER from METHODS that are open", x.result(), 5);
        DUE.is("none is open", x.count(3), 0);
        x = DUE.stepped(head + "try { i = deep(20); } catch (G g) { while (true) { } } return 0; } }", 1000);
        DUE.is("METHODS that are open", x.count(3), 1);
    }

    private static void leftWithin() {
        DUE.sentence("all within is left, the variable is set, no step; without one the run is OVER by it.");
        prints("int a = 1 + 2; try { int b = 5; i = 100 + f(200 + 1 / 0); } catch (Zero z) { int c; c = 6; print a; print c; print z == null; } print a; print i;", 3, 6, 0, 3, 0);
        prints("try { print f(3) + f(m.f(4)); } catch (Null n) { } print f(1) + f(2);", 3);
        // No STEP is between the FAULT's and the catch's first one.
        ClassHouse x = DUE.stepped(Due.main("try { print 1 / 0; } catch (Zero z) { print 5; } return 0;"), 3);
        DUE.is("count(5) behind the FAULT", x.count(5), 1);
        x.step(2);
        DUE.is("output(0) two STEPS later", x.output(0), 5);
        x = DUE.stepped("class A { int a; } class Main { int main() { try { A b = new A; throw b; } catch (A c) { while (true) { } } return 0; } }", 4);
        DUE.is("the variable holds what was thrown", x.count(2), 5);
    }

    private static void counted() {
        DUE.sentence("5 what was thrown so far (FAULTS, too);");
        for (int times = 0; times <= 3; times++) {
            ClassHouse x = DUE.ended(HEAD + "while (i < " + times + ") { i = i + 1; try { throw new G; } catch (G g) { } } return 0; } }", 1);
            DUE.is("count(5)", x.count(5), times);
            x = DUE.ended(HEAD + "while (i < " + times + ") { i = i + 1; try { try { print 1 / 0; } catch (Zero z) { throw z; } } catch (Zero y) { } } return 0 / 0; } }", 2);
            DUE.is("count(5)", x.count(5), 2 * times + 1);
        }
    }
}
