/** Boundaries of what may open in one another: thirty { ( [ - and ! may, a 31st may not. */
public final class EdgeNestTest {
    private static final Due DUE = new Due("edges of nesting");
    // What stands open around a statement of main: the class' { and the METHOD's.
    private static final int AROUND = 2;
    private static final int MOST = 30;
    private static final String HEAD = "class Main { ints r; int i; int f(int a) { return a; } int main() { ";
    private static final String TAIL = " return 1; } }";

    public static void main(String[] args) {
        DUE.sentence("the word that opens a 31st { ( [ , or - ! of a ONE, in one another (to its end).");
        oneKind();
        eachKindAsTheLast();
        mixed();
        untilItsEnd();
        behindItsEnd();
        notCounted();
        openAndRuns();
        DUE.close();
    }

    private static void fine(String body) {
        DUE.fine(HEAD + body + TAIL, 1);
    }

    private static void wrong(String marked) {
        DUE.wrongAt(HEAD + marked + TAIL);
    }

    /** So many of one kind in one another: the last two that fit, the first two that do not. */
    private static void oneKind() {
        int most = MOST - AROUND;
        for (int n = most - 1; n <= most; n++) {
            fine("i = " + "(".repeat(n) + "1" + ")".repeat(n) + ";");
            fine("i = " + "-".repeat(n) + "1;");
            fine("print " + "!".repeat(n) + "true;");
            fine("i = " + "r[".repeat(n) + "1" + "]".repeat(n) + ";");
            fine("i = " + "new ints[".repeat(n) + "1" + "].size".repeat(n) + ";");
            fine("i = " + "f(".repeat(n) + "1" + ")".repeat(n) + ";");
            fine("i = " + "this.f(".repeat(n) + "1" + ")".repeat(n) + ";");
            fine("if (true) { ".repeat(n) + "}".repeat(n));
            fine("while (true) { ".repeat(n) + "}".repeat(n));
            fine("if (true) { } else { ".repeat(n) + "}".repeat(n));
            fine("try { ".repeat(n) + "} catch (Zero z) { }".repeat(n));
            fine(catchesInOneAnother(n) + "}".repeat(n));
        }
        for (int more = 0; more <= 1; more++) {
            wrong("i = " + "(".repeat(most) + "^(" + "(".repeat(more) + "1" + ")".repeat(most + 1 + more) + ";");
            wrong("i = " + "-".repeat(most) + "^-" + "-".repeat(more) + "1;");
            wrong("print " + "!".repeat(most) + "^!" + "!".repeat(more) + "true;");
            wrong("i = " + "r[".repeat(most) + "r^[" + "r[".repeat(more) + "1" + "]".repeat(most + 1 + more) + ";");
            wrong("i = " + "new ints[".repeat(most) + "new ints^[1" + "].size".repeat(most + 1) + ";");
            wrong("i = " + "f(".repeat(most) + "f^(" + "f(".repeat(more) + "1" + ")".repeat(most + 1 + more) + ";");
            wrong("i = " + "this.f(".repeat(most) + "this.f^(1" + ")".repeat(most + 1) + ";");
            wrong("if (true) { ".repeat(most) + "if ^(true) { " + "}".repeat(most + 1));
            wrong("while (true) { ".repeat(most) + "while ^(true) { " + "}".repeat(most + 1));
            wrong("try { ".repeat(most) + "try ^{ " + "} catch (Zero z) { }".repeat(most + 1));
        }
    }

    private static String catchesInOneAnother(int n) {
        StringBuilder text = new StringBuilder();
        for (int i = 0; i < n; i++) {
            text.append("try { } catch (Zero z").append(i).append(") { ");
        }
        return text.toString();
    }

    /** In 27 blocks of main each kind may open once, in 28 none may. */
    private static void eachKindAsTheLast() {
        int most = MOST - AROUND;
        String[] marked = {
            "if ^(true) { }", "while ^(true) { }", "try ^{ } catch (Zero z) { }", "print ^(1);", "print ^-1;", "print ^!true;", "print r^[1];", "r^[1] = 2;",
            "r = new ints^[1];", "f^(1);", "this.f^(1);", "return ^-1;", "throw ^(this);", "int a = ^-1;", "i = 1 + ^(1);", "i = 1 - ^-1;", "^(i) = 1;"};
        for (String statement : marked) {
            fine("if (true) { ".repeat(most - 1) + statement.replace("^", "") + "}".repeat(most - 1));
            wrong("if (true) { ".repeat(most) + statement + "}".repeat(most));
        }
        wrong("if (true) { ".repeat(most) + "^(f(1));" + "}".repeat(most));
        wrong("if (true) { ".repeat(most - 1) + "(f^(1));" + "}".repeat(most - 1));
        fine("if (true) { ".repeat(most - 1) + "if (true) { } else { } try { } catch (Zero z) { }" + "}".repeat(most - 1));
        fine("if (true) { ".repeat(most) + "i = 1; int a; a = i + this.i; print true && false; r = null; throw new Zero;" + "}".repeat(most));
    }

    private static void mixed() {
        int half = (MOST - AROUND) / 2;
        fine("i = " + "-(".repeat(half) + "1" + ")".repeat(half) + ";");
        wrong("i = " + "-(".repeat(half) + "^-1" + ")".repeat(half) + ";");
        wrong("i = " + "-(".repeat(half) + "^(1)" + ")".repeat(half) + ";");
        wrong("i = " + "-(".repeat(half) + "r^[1]" + ")".repeat(half) + ";");
        wrong("i = " + "-(".repeat(half) + "f^(1)" + ")".repeat(half) + ";");
        fine("i = " + "f(r[".repeat(half) + "1" + "])".repeat(half) + ";");
        wrong("i = " + "f(r[".repeat(half) + "^-1" + "])".repeat(half) + ";");
        fine("print " + "!(".repeat(half - 1) + "-1 < -(1)" + ")".repeat(half - 1) + ";");
        wrong("print " + "!(".repeat(half - 1) + "-1 < -(^-1)" + ")".repeat(half - 1) + ";");
        fine("if (true) { ".repeat(half) + "i = " + "(".repeat(half) + "1" + ")".repeat(half) + ";" + "}".repeat(half));
        wrong("if (true) { ".repeat(half) + "i = " + "(".repeat(half) + "^(1" + ")".repeat(half + 1) + ";" + "}".repeat(half));
    }

    /** - and ! stand open until their ONE ends, that is with all that stands behind its FIRST. */
    private static void untilItsEnd() {
        int rest = MOST - AROUND - 1;
        fine("i = -r[" + "(".repeat(rest - 1) + "1" + ")".repeat(rest - 1) + "];");
        wrong("i = -r[" + "(".repeat(rest - 1) + "^(1)" + ")".repeat(rest - 1) + "];");
        fine("i = -this.f(" + "(".repeat(rest - 1) + "1" + ")".repeat(rest - 1) + ");");
        wrong("i = -this.f(" + "(".repeat(rest - 1) + "^(1)" + ")".repeat(rest - 1) + ");");
        fine("i = -(this).r[1 + " + "(".repeat(rest - 1) + "1" + ")".repeat(rest - 1) + "];");
        wrong("i = -(this).r[1 + " + "(".repeat(rest - 1) + "^(1)" + ")".repeat(rest - 1) + "];");
        fine("i = -new ints[1][" + "(".repeat(rest - 1) + "1" + ")".repeat(rest - 1) + "];");
        wrong("i = -new ints[1][" + "(".repeat(rest - 1) + "^(1)" + ")".repeat(rest - 1) + "];");
        fine("print !(this as Main.i < " + "(".repeat(rest - 1) + "1" + ")".repeat(rest - 1) + ");");
        wrong("print !(this as Main.i < " + "(".repeat(rest - 1) + "^(1)" + ")".repeat(rest - 1) + ");");
    }

    private static void behindItsEnd() {
        int most = MOST - AROUND;
        String deep = "(".repeat(most) + "1" + ")".repeat(most);
        String tooDeep = "(".repeat(most) + "^(1)" + ")".repeat(most);
        for (String sign : new String[] {"+", "-", "*", "/", "%"}) {
            fine("i = -1 " + sign + " " + deep + ";");
            fine("i = -(-(1)) " + sign + " " + deep + ";");
            fine("i = -r[-1] " + sign + " " + deep + " " + sign + " " + deep + ";");
            wrong("i = -1 " + sign + " " + tooDeep + ";");
        }
        fine("print -1 < " + deep + ";");
        fine("print -1 == " + deep + ";");
        fine("print !true && 1 == " + deep + ";");
        fine("print !true || 1 == " + deep + ";");
        fine("print -1; print " + deep + "; print " + deep + ";");
        fine("if (true) { i = " + deep.substring(1, deep.length() - 1) + "; } else { } i = " + deep + ";");
        fine("f(-1 + " + deep.substring(1, deep.length() - 1) + ");");
        fine("i = -1" + " - -1".repeat(100) + ";");
        fine("i = (1)" + " + (1)".repeat(100) + ";");
        fine("print !true" + " && !true".repeat(100) + ";");
        fine("if (true) { } ".repeat(60));
    }

    /** A - with two sides, and what PARAMETERS and other METHODS opened, is not open any more. */
    private static void notCounted() {
        int most = MOST - AROUND;
        fine("i = 1" + " - 1".repeat(100) + ";");
        fine("i = " + "(".repeat(most) + "1 - 1 - 1" + ")".repeat(most) + ";");
        fine("i = " + "(".repeat(most) + "this.i + i" + ")".repeat(most) + ";");
        wrong("i = " + "(".repeat(most) + "1 - ^-1" + ")".repeat(most) + ";");
        DUE.fine("class A { int f(int a, int b) { return " + "(".repeat(most) + "a" + ")".repeat(most) + "; } int g() { return " + "-".repeat(most) + "1; } } "
            + HEAD + TAIL, 2);
        DUE.wrongAt("class A { int f(int a, int b) { return " + "(".repeat(most) + "^(a)" + ")".repeat(most) + "; } } " + HEAD + TAIL);
    }

    /** What may just open must be checked and run as well. */
    private static void openAndRuns() {
        int most = MOST - AROUND;
        DUE.is("brackets", DUE.ended(Due.main("return " + "(".repeat(most) + "7" + ")".repeat(most) + ";"), 1).result(), 7);
        DUE.is("- 27 times", DUE.ended(Due.main("return " + "-".repeat(most - 1) + "7;"), 1).result(), -7);
        DUE.is("- 28 times", DUE.ended(Due.main("return " + "-".repeat(most) + "7;"), 1).result(), 7);
        DUE.is("blocks", DUE.ended(Due.main("int a = 0; " + "if (true) { a = a + 1; ".repeat(most) + "}".repeat(most) + " return a;"), 1).result(), most);
        DUE.is("sums", DUE.ended(Due.main("return " + "1 + (".repeat(most) + "0" + ")".repeat(most) + ";"), 1).result(), most);
        DUE.is("all signs", DUE.ended(Due.main("if (" + "true && false || 1 == 1 + 2 * 0 && (".repeat(most - 1)
            + "true" + ")".repeat(most - 1) + ") { return 4; } return 5;"), 1).result(), 4);
        DUE.is("tries", DUE.ended(Due.main("int a = 0; " + "try { ".repeat(most) + "throw new Zero; " + "} catch (Zero z) { a = a + 1; throw z; }".repeat(most - 1)
            + "} catch (Zero z) { a = a + 1; } return a;"), 1).result(), most);
        ClassHouse x = DUE.ended("class Main { int f(int a) { return a + 1; } int main() { return " + "f(".repeat(most) + "0" + ")".repeat(most) + "; } }", 1);
        DUE.is("calls", x.result(), most);
    }
}
