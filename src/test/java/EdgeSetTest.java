import java.util.Arrays;
import java.util.Random;

/** Boundaries of SET and END: which way through blocks leaves a variable without a value. */
public final class EdgeSetTest {
    private static final Due DUE = new Due("edges of SET and END");
    private static final String HEAD = "class A { int x; A q; ints w; int f(int k) { return k; } } "
        + "class Main { bool t; int i; ints r; A a; int g(int k) { return k; } int main() { ";
    private static final String FIELD_HEAD = "class Main { bool t; int n; int f() { ";
    private static final String MAIN = " int main() { return 1; } }";

    // What can stand in a BLOCK behind 'int n;'.
    /** Behind these n may be without a value. */
    private static final String[] OPEN = {
        "", "print 1;", "if (t) { n = 1; }", "if (t) { } else { n = 1; }", "if (t) { return 1; }", "while (t) { n = 1; }",
        "while (t) { return 1; }", "while (true) { throw this; }", "try { n = 1; } catch (Zero z) { }",
        "try { } catch (Zero z) { n = 1; }", "try { return 1; } catch (Zero z) { }", "try { } catch (Zero z) { return 1; }"};
    /** Behind these n is SET. */
    private static final String[] SETTING = {
        "n = 1;", "if (t) { n = 1; } else { n = 2; }", "if (t) { return 1; } else { n = 1; }", "if (t) { n = 1; } else { throw this; }",
        "try { n = 1; } catch (Zero z) { n = 2; }", "try { return 1; } catch (Zero z) { n = 1; }",
        "try { n = 1; } catch (Zero z) { return 1; }"};
    /** Behind these the BLOCK can't END. */
    private static final String[] STOPPING = {
        "return 1;", "throw this;", "n = 1; return n;", "return 1; print n;", "if (t) { return 1; } else { throw this; }",
        "try { return 1; } catch (Zero z) { throw z; }"};
    private static final String[] PARTS = parts();

    public static void main(String[] args) {
        uses();
        given();
        straight();
        twoInARow();
        branches();
        tries();
        whiles();
        catchBegins();
        behindTheEnd();
        gone();
        placesUsedAgain();
        voidMethods();
        anyWays();
        endsOfMethods();
        DUE.close();
    }

    private static String[] parts() {
        String[] all = Arrays.copyOf(OPEN, OPEN.length + SETTING.length + STOPPING.length);
        System.arraycopy(SETTING, 0, all, OPEN.length, SETTING.length);
        System.arraycopy(STOPPING, 0, all, OPEN.length + SETTING.length, STOPPING.length);
        return all;
    }

    private static boolean isSet(int part) {
        return part >= OPEN.length && !isDead(part);
    }

    private static boolean isDead(int part) {
        return part >= OPEN.length + SETTING.length;
    }

    private static void bad(String marked) {
        DUE.badAt(HEAD + marked + " return 1; } }");
    }

    private static void fine(String body) {
        DUE.fine(HEAD + body + " return 1; } }", 2);
    }

    /** Behind the body n's value is used, and then the METHOD's BLOCK ends. */
    private static void leaves(String body, boolean set, boolean dead) {
        String used = FIELD_HEAD + "int n; " + body + " ^print n; return 1; }" + MAIN;
        if (set || dead) {
            DUE.fine(used.replace("^", ""), 1);
        } else {
            DUE.badAt(used);
        }
        String ending = FIELD_HEAD + "int n; " + body + " ^}" + MAIN;
        if (dead) {
            DUE.fine(ending.replace("^", ""), 1);
        } else {
            DUE.badAt(ending);
        }
    }

    private static void uses() {
        DUE.sentence("SET: a variable must be SET where its value is used.");
        String[] ofInt = {"print n;", "i = n;", "int k = n;", "i = n + 1;", "i = 1 + n;", "i = -n;", "print n < 1;", "print 1 == n;", "r[n] = 1;", "r[1] = n;", "print r[n];", "g(n);",
            "a.f(n);", "i = g(1 + n);", "r = new ints[n];", "return n;", "n = n;", "n = n + 1;", "this.i = n;", "if (n == 1) { }", "while (n == 1) { }", "print t && n == 1;",
            "print t || n == 1;", "print n == 1 && t;", "print (n);"};
        for (String use : ofInt) {
            bad("int n; ^" + use);
            fine("int n = 1; " + use);
            fine("int n; n = 1; " + use);
        }
        for (String use : new String[] {"if (n) { }", "while (n) { }", "print !n;", "print n && t;", "print t && n;", "print t || n;", "t = n;"}) {
            bad("bool n; ^" + use);
            fine("bool n = t; " + use);
        }
        for (String use : new String[] {"print n.x;", "n.x = 1;", "n.q.x = 1;", "n.f(1);", "n.w[1] = 2;", "a = n;", "a.q = n;", "throw n;", "print n is A;", "a = n as A;", "print n == null;",
            "print null == n;", "n = n;"}) {
            bad("A n; ^" + use);
            fine("A n = null; " + use);
        }
        for (String use : new String[] {"print n[1];", "n[1] = 2;", "print n.size;", "r = n;", "print n == r;"}) {
            bad("ints n; ^" + use);
            fine("ints n = null; " + use);
        }
    }

    private static void given() {
        DUE.sentence("PARAMETERS are; one that is told with a value or that was given one ( = ) is from then on;");
        DUE.fine("class Main { int f(int n, Main m) { return n + m.f(n, m); }" + MAIN, 1);
        fine("int n = 1; print n;");
        fine("int n; n = 1; print n; n = n + 1;");
        bad("int n; int k = 1; ^print n; n = 1;");
        bad("int n; int k; n = 1; ^print k;");
        bad("int k; int n; n = 1; ^print k + n;");
        bad("int n; this.i = 1; ^print n;");
        // A FIELD of the same NAME does not set the variable.
        DUE.badAt(FIELD_HEAD + "int n; this.n = 1; ^return n; }" + MAIN);
        DUE.fine(FIELD_HEAD + "int k = n; return n + k; }" + MAIN, 1);
        bad("ints n; ^n[0] = 1;");
        manyVariables();
    }

    /** Each of many variables is SET for itself, at the edges of the words of bits that hold them, too. */
    private static void manyVariables() {
        int many = 100;
        for (int left = 0; left < many; left += left > 28 && left < 34 || left > 60 && left < 66 ? 1 : 9) {
            StringBuilder text = new StringBuilder();
            for (int v = 0; v < many; v++) {
                text.append("int v").append(v).append(v % 2 == 0 || v == left ? ";" : "=1;");
            }
            for (int v = 0; v < many; v += 2) {
                text.append(v == left ? "" : "v" + v + "=1;");
            }
            StringBuilder use = new StringBuilder();
            for (int v = 0; v < many; v++) {
                use.append(v == left ? "" : "print v" + v + ";");
            }
            bad(text + use.toString() + "^print v" + left + ";");
            fine(text + "v" + left + "=1;" + use + "print v" + left + ";");
        }
    }

    private static void straight() {
        DUE.sentence("A BLOCK can END, but: behind return, throw; an if with else of which neither can; a try of which neither can.");
        for (int part = 0; part < PARTS.length; part++) {
            leaves(PARTS[part], isSet(part), isDead(part));
            leaves("n = 1; " + PARTS[part], true, isDead(part));
            leaves(PARTS[part] + " n = 1;", true, isDead(part));
        }
    }

    private static void twoInARow() {
        for (int one = 0; one < PARTS.length; one++) {
            for (int two = 0; two < PARTS.length; two++) {
                leaves(PARTS[one] + " " + PARTS[two], isSet(one) || isSet(two), isDead(one) || isDead(two));
            }
        }
    }

    private static void branches() {
        DUE.sentence("behind an if: what is in both BLOCKS (without else: ahead of it);");
        for (int one = 0; one < PARTS.length; one++) {
            leaves("if (t) { " + PARTS[one] + " }", false, false);
            leaves("n = 5; if (t) { " + PARTS[one] + " }", true, false);
            for (int two = 0; two < PARTS.length; two++) {
                boolean set = (isSet(one) || isDead(one)) && (isSet(two) || isDead(two));
                leaves("if (t) { " + PARTS[one] + " } else { " + PARTS[two] + " }", set, isDead(one) && isDead(two));
            }
        }
        bad("int n; if (t) { n = 1; print n; } else { ^print n; }");
        bad("int n; int k; if (t) { n = 1; k = 1; } else { n = 1; } print n; ^print k;");
        bad("int n; int k; if (t) { k = 1; } else { n = 1; k = 2; } print k; ^print n;");
        fine("int n = 1; if (t) { print n; } else { print n; }");
    }

    private static void tries() {
        DUE.sentence("behind a try: what is behind its BLOCK and behind that of catch, which begins as the try began.");
        for (int one = 0; one < PARTS.length; one++) {
            for (int two = 0; two < PARTS.length; two++) {
                boolean set = (isSet(one) || isDead(one)) && (isSet(two) || isDead(two));
                String body = "try { " + PARTS[one] + " } catch (Null y) { " + PARTS[two] + " }";
                leaves(body, set, isDead(one) && isDead(two));
            }
        }
    }

    private static void whiles() {
        DUE.sentence("behind while, and what stands behind && || : as ahead of it (of while behind its EXPRESSION);");
        for (int part = 0; part < PARTS.length; part++) {
            leaves("while (t) { " + PARTS[part] + " }", false, false);
            leaves("while (true) { " + PARTS[part] + " }", false, false);
            leaves("n = 1; while (t) { " + PARTS[part] + " }", true, false);
        }
        DUE.sentence("a while always can.");
        DUE.badAt(FIELD_HEAD + "while (true) { } ^}" + MAIN);
        DUE.badAt(FIELD_HEAD + "while (true) { return 1; } ^}" + MAIN);
        DUE.badAt(FIELD_HEAD + "while (true) { throw this; } ^}" + MAIN);
        DUE.fine(FIELD_HEAD + "while (true) { } return 1; }" + MAIN, 1);
        DUE.fine(FIELD_HEAD + "return 1; while (true) { } }" + MAIN, 1);
        bad("int n; ^while (n < 1) { n = 1; }");
        bad("int n; while (t) { ^print n; n = 1; }");
        fine("int n; while (t) { n = 1; print n; }");
        fine("int n = 0; while (n < 1) { n = n + 1; }");
    }

    private static void catchBegins() {
        DUE.sentence("behind that of catch, which begins as the try began.");
        for (int part = 0; part < PARTS.length; part++) {
            DUE.badAt(FIELD_HEAD + "int n; try { " + PARTS[part] + " } catch (Null y) { ^print n; } return 1; }" + MAIN);
            DUE.fine(FIELD_HEAD + "int n; n = 1; try { " + PARTS[part] + " } catch (Null y) { print n; } return 1; }" + MAIN, 1);
        }
    }

    private static void behindTheEnd() {
        DUE.sentence("Where a BLOCK can't END all are SET (STATEMENTS behind it are checked all the same);");
        for (String stop : new String[] {"return 1;", "throw this;", "if (t) { return 1; } else { return 2; }", "try { throw this; } catch (Zero z) { return 1; }"}) {
            fine("int n; int k; if (t) { " + stop + " print n; print k; }");
            fine("int n; if (t) { " + stop + " if (t) { print n; } else { print n; } print n; while (n < 1) { print n; } try { print n; } catch (Null y) { print n; } print n; }");
            bad("int n; if (t) { " + stop + " print n; } ^print n;");
            bad("if (t) { " + stop + " ^print null; }");
            bad("if (t) { " + stop + " ^print nope; }");
            bad("if (t) { " + stop + " ^int i = true; }");
            bad("if (t) { " + stop + " int n; ^int n; }");
            bad("if (t) { " + stop + " ^return null; }");
            bad("if (t) { " + stop + " ^if (1) { } }");
            bad("if (t) { " + stop + " if (t) { ^print null; } }");
        }
    }

    private static void gone() {
        DUE.sentence("A BLOCK's variables are gone behind it.");
        bad("if (t) { int n = 1; } ^print n;");
        bad("if (t) { int n = 1; } else { ^print n; }");
        bad("while (t) { int n = 1; } ^print n;");
        bad("try { int n = 1; } catch (Zero z) { ^print n; }");
        bad("try { int n = 1; } catch (Zero z) { int n = 2; } ^print n;");
        bad("if (t) { int n = 1; } int n; ^print n;");
        bad("if (t) { int n = 1; } else { int n = 2; } int n; ^print n;");
        bad("try { int n = 1; } catch (Zero z) { int n = 2; } int n; ^print n;");
        bad("while (t) { int n = 1; } int k; ^print k;");
        bad("if (t) { int n = 1; int k = 2; } if (t) { int k; int n; ^print n; }");
        fine("if (t) { int n = 1; } bool n = t; print n && t;");
        DUE.fine(FIELD_HEAD + "if (t) { bool n = true; } return n; }" + MAIN, 1);
        bad("int n; if (t) { return 1; int k; } else { int k = 1; } ^print n;");
    }

    /** A variable that takes the place of ones that were SET in both BLOCKS is not SET itself. */
    private static void placesUsedAgain() {
        for (int ahead = 0; ahead <= 70; ahead++) {
            StringBuilder text = new StringBuilder();
            for (int v = 0; v < ahead; v++) {
                text.append("int v").append(v).append("; ");
            }
            bad(text + "if (t) { int n = 1; } else { int n = 2; } int n; ^print n;");
            bad(text + "try { int n = 1; } catch (Zero z) { } int n; ^print n;");
            fine(text + "if (t) { int n = 1; } else { int n = 2; } int n; n = 3; print n;");
        }
    }

    private static void voidMethods() {
        DUE.sentence("A BLOCK can END, but: behind return, throw;");
        DUE.fine("class Main { bool t; void f() { int n; if (t) { return; } else { n = 1; } print n; }" + MAIN, 1);
        DUE.fine("class Main { bool t; void f() { int n; if (t) { return; print n; } }" + MAIN, 1);
        DUE.fine("class Main { bool t; void f() { int n; try { n = 1; } catch (Zero z) { return; } print n; }" + MAIN, 1);
        DUE.fine("class Main { bool t; void f() { int n; return; print n; }" + MAIN, 1);
        DUE.badAt("class Main { bool t; void f() { int n; if (t) { return; } ^print n; }" + MAIN);
        DUE.badAt("class Main { bool t; void f() { int n; while (t) { return; } ^print n; }" + MAIN);
    }

    /** Bodies at random, with what the rules for SET and END say of them. */
    private static final class Way {
        private static final int VARIABLES = 3;

        private final Random random;
        private final StringBuilder text = new StringBuilder();
        private boolean[] set = new boolean[VARIABLES];
        private boolean dead;
        private int told;
        private boolean marked;

        Way(int seed) {
            random = new Random(seed);
            text.append("class Main { bool t; int f() { int v0; int v1; int v2; ");
            statements(4, 3);
        }

        private void statements(int most, int depth) {
            for (int i = random.nextInt(most + 1); i > 0 && !marked; i--) {
                statement(depth);
            }
        }

        private void statement(int depth) {
            int kind = random.nextInt(depth > 0 ? 13 : 7);
            int v = random.nextInt(VARIABLES);
            if (kind < 3) {
                text.append("v").append(v).append(" = 1; ");
                set[v] = true;
            } else if (kind == 3) {
                text.append(random.nextBoolean() ? "return 1; " : "throw this; ");
                dead = true;
            } else if (kind == 4) {
                told++;
                text.append("int b").append(told).append(" = 1; ");
            } else if (kind < 7) {
                use(v);
            } else if (kind < 9) {
                alone(random.nextBoolean() ? "if (t)" : "while (t)", depth);
            } else {
                told++;
                boolean branches = kind < 11;
                pair(branches ? "if (t)" : "try", branches ? "else" : "catch (Zero z" + told + ")", depth);
            }
        }

        /** A use that is BAD is the last word of the text that counts. */
        private void use(int v) {
            boolean fine = set[v] || dead;
            if (fine || random.nextInt(6) == 0) {
                text.append(fine ? "" : "^").append("print v").append(v).append("; ");
                marked = !fine;
            }
        }

        private void alone(String head, int depth) {
            boolean[] setAhead = set.clone();
            boolean deadAhead = dead;
            block(head, depth);
            set = setAhead;
            dead = deadAhead;
        }

        private void pair(String first, String second, int depth) {
            boolean[] setAhead = set.clone();
            boolean deadAhead = dead;
            block(first, depth);
            boolean[] setBehind = set;
            boolean deadBehind = dead;
            set = setAhead.clone();
            dead = deadAhead;
            block(second, depth);
            for (int v = 0; v < VARIABLES; v++) {
                set[v] = (set[v] || dead) && (setBehind[v] || deadBehind);
            }
            dead = dead && deadBehind;
        }

        private void block(String head, int depth) {
            text.append(head).append(" { ");
            statements(3, depth - 1);
            text.append("} ");
        }
    }

    private static void anyWays() {
        DUE.sentence("SET: a variable must be SET where its value is used.");
        int marks = 0;
        for (int seed = 0; seed < 3000; seed++) {
            Way way = new Way(seed);
            if (way.marked) {
                DUE.badAt(way.text + "return 1; }" + MAIN);
                marks++;
                continue;
            }
            String ending = way.text + "^}" + MAIN;
            if (way.dead) {
                DUE.fine(ending.replace("^", ""), 1);
            } else {
                DUE.badAt(ending);
                int v = seed % Way.VARIABLES;
                String used = way.text + "^print v" + v + "; return 1; }" + MAIN;
                if (way.set[v]) {
                    DUE.fine(used.replace("^", ""), 1);
                } else {
                    DUE.badAt(used);
                }
            }
        }
        DUE.is("many are BAD within", marks > 300 ? 1 : 0, 1);
    }

    private static void endsOfMethods() {
        DUE.sentence("then a METHOD not void whose BLOCK can END (place: its } ).");
        for (String type : new String[] {"int", "bool", "ints", "Main", "Zero"}) {
            DUE.badAt("class Main { " + type + " f() { ^}" + MAIN);
            DUE.badAt("class Main { " + type + " f() { if (true) { throw this; } ^}" + MAIN);
            DUE.fine("class Main { " + type + " f() { throw this; }" + MAIN, 1);
        }
        DUE.fine("class Main { void f() { } void g() { return; } void h() { if (true) { return; } }" + MAIN, 1);
        DUE.badAt("class Main { int f() { print 1; \n ^}" + MAIN);
        DUE.badAt("class Main { int f() { if (true) { return 1; } else { if (true) { return 1; } } ^}" + MAIN);
        DUE.badAt("class Main { int main() { print 1; ^} }");
    }
}
