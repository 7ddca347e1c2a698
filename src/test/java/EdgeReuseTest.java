/** One object with one text after the other: nothing of a text, a check or a run that is over may be seen later. */
public final class EdgeReuseTest {
    private static final Due DUE = new Due("edges of using an object again");
    private static final String MAIN = "int main(){return 1;}";

    public static void main(String[] args) {
        DUE.sentence("The TAPE (which is empty then) is the program.");
        fullTexts();
        manyTexts();
        wrongTexts();
        badTexts();
        runsCutShort();
        classesOfTheLastText();
        DUE.close();
    }

    private static String filled(String head, String part, String tail) {
        return head + part.repeat((3000 - head.length() - tail.length()) / part.length()) + tail;
    }

    private static String numbered(String head, String before, String behind, String tail) {
        StringBuilder text = new StringBuilder(head);
        for (int i = 0; text.length() + before.length() + 4 + behind.length() + tail.length() <= 3000; i++) {
            text.append(before).append("v").append(i).append(behind);
        }
        return text.append(tail).toString();
    }

    /** Three texts of 3000 bytes each fit in the calls of one object. */
    private static void fullTexts() {
        // What stands last in each text is wanted, so that it shows if a row is full too early.
        String[] texts = {
            numbered("class Main{", "int ", ";", MAIN + "}"),
            numbered("class A{}class Main{", "A ", ";", MAIN + "}"),
            numbered("class A{}class Main{void f(", "A ", ",", "int z){print z;}" + MAIN + "}"),
            numbered("class Main{", "void ", "(){}", MAIN + "}"),
            numbered("class A{}class Main{void f(){", "A ", ";", "int z=1;print z;}" + MAIN + "}"),
            filled("class Main{void f(){", "f();", "}" + MAIN + "}"),
            filled("class Main{int f(){return 1", "+1", ";}" + MAIN + "}"),
            filled("class Main{bool f(){return true", "&&true", ";}" + MAIN + "}"),
            filled("class Main{void f(){", "try{}catch(Zero z){}", "}" + MAIN + "}"),
            filled("class Main{void f(){", "if(true){}else{}", "}" + MAIN + "}")};
        int[] told = {1, 2, 2, 1, 2, 1, 1, 1, 1, 1};
        for (int i = 0; i < texts.length; i++) {
            ClassHouse x = new ClassHouse();
            for (int again = 0; again < 3; again++) {
                DUE.is("text " + i + " again " + again, Due.load(x, texts[i]), told[i]);
            }
            DUE.is("start()", x.start(), 1);
            DUE.is("step(2)", x.step(2), 1);
            DUE.is("result()", x.result(), 1);
        }
        ClassHouse x = new ClassHouse();
        String classes = numbered("", "class ", "{}", "class Main{" + MAIN + "}");
        int count = classes.split("class ").length - 1;
        for (int again = 0; again < 3; again++) {
            DUE.is("classes again " + again, Due.load(x, classes), count);
        }
    }

    private static void manyTexts() {
        ClassHouse x = new ClassHouse();
        for (int i = 0; i < 40; i++) {
            String text = "class C" + i + " { int v" + i + "; int f(int a) { return a + v" + i + "; } } class Main { int main() { C" + i + " c = new C" + i
                + "; c.v" + i + " = " + i + "; return c.f(" + i + "); } }";
            DUE.is("text " + i, Due.load(x, text), 2);
            x.start();
            DUE.is("run " + i, x.step(100), 1);
            DUE.is("result " + i, x.result(), 2 * i);
        }
    }

    /** A text that is WRONG within all that can be open leaves nothing open. */
    private static void wrongTexts() {
        ClassHouse x = new ClassHouse();
        String deep = Due.main("return " + "(".repeat(28) + "1" + ")".repeat(28) + ";");
        for (int again = 0; again < 6; again++) {
            String wrong = "class Main { int main() { return " + "(".repeat(20) + "1 + -!(true && 2 * -";
            DUE.is("WRONG", Due.load(x, wrong), -1 - wrong.length());
            DUE.is("thirty in one another", Due.load(x, deep), 1);
            String open = Due.main("if (true) { ".repeat(28) + "if (");
            DUE.is("WRONG at the 31st", Due.load(x, open), -1 - (26 + 28 * 12 + 3));
        }
        DUE.is("thirty in one another", Due.load(x, deep), 1);
        DUE.is("thirty-one", Due.load(x, deep.replace("1", "(1)")), -1 - (33 + 28));
    }

    /** A text that is BAD within all BLOCKS that can be open leaves no variable and no BLOCK behind. */
    private static void badTexts() {
        ClassHouse x = new ClassHouse();
        for (int again = 0; again < 8; again++) {
            String bad = Due.main("if(true){".repeat(28) + "print null;" + "}".repeat(28));
            DUE.is("BAD", Due.load(x, bad), -10000 - bad.indexOf("print"));
        }
        String text = Due.main("int n; if (true) { if (true) { n = 1; } else { n = 2; } while (true) { n = 3; } } else { n = 4; } print n; int k; if (true) { k = 1; } print k; return 1;");
        DUE.is("SET is as of a new object", Due.load(x, text), -10000 - text.indexOf("print k"));
        String half = Due.main("int a = 1; if (true) { int n = 1; return 1; print null; } return 1;");
        DUE.is("BAD behind return", Due.load(x, half), -10000 - half.indexOf("print"));
        String next = Due.main("int n; print n; return 1;");
        DUE.is("not SET any more", Due.load(x, next), -10000 - next.indexOf("print"));
        String none = Due.main("print n; return 1;");
        DUE.is("not there any more", Due.load(x, none), -10000 - none.indexOf("print"));
        DUE.is("a fine one", Due.load(x, Due.main("int n = 7; int a = n; return a;")), 1);
        x.start();
        DUE.is("its end", x.step(100), 1);
        DUE.is("its result", x.result(), 7);
    }

    /** A run that is cut short by start() or program() leaves neither METHODS nor objects behind. */
    private static void runsCutShort() {
        DUE.sentence("A run begins (no outputs, no STEPS).");
        ClassHouse x = new ClassHouse();
        Due.load(x, "class A { A n; ints r; } class Main { A a; int f(int n, A b) { A c = new A; c.n = b; c.r = new ints[3]; a = c; print n; if (n == 60) { throw new Zero; } return 1 + f(n + 1, c); }"
            + " int main() { try { return f(0, null); } catch (Null z) { return 2; } } }");
        // Main's 3 cells, 61 times 4 and 5, and a Zero's 2.
        int all = 3 + 61 * 9 + 2;
        x.heap(all - 1);
        for (int cut = 0; cut < 20; cut++) {
            x.start();
            DUE.counts("as it begins", x, 0, 3, 3, 1, 0, 0);
            DUE.is("step(" + 37 * cut + ")", x.step(37 * cut), 0);
        }
        x.start();
        DUE.is("to its end", x.step(20000), 3);
        DUE.is("cells made", x.count(1), all - 2);
        x.heap(all);
        x.start();
        DUE.is("with a cell more", x.step(20000), 2);
        DUE.is("cells made", x.count(1), all);
        DUE.is("result()", x.result(), 2);
        DUE.is("printed", x.count(4), 61);
    }

    private static void classesOfTheLastText() {
        DUE.sentence("5 and so on those of the text");
        ClassHouse x = new ClassHouse();
        DUE.is("three classes", Due.load(x, "class A { } class B : A { } class Main { int main() { throw new B; } }"), 3);
        x.start();
        x.step(10);
        DUE.is("B is the second", x.result(), 6);
        DUE.is("A is none any more", Due.load(x, "class Main { int main() { throw new A; } }"), -10000 - 26);
        DUE.is("two classes", Due.load(x, "class Main { int main() { throw new B; } } class B { }"), 2);
        x.start();
        x.step(10);
        DUE.is("B is the second", x.result(), 6);
        DUE.is("A is no PARENT any more", Due.load(x, "class B : A { } class Main { int main() { return 1; } }"), -10000 - 6);
    }
}
