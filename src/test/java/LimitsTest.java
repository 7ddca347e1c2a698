/** Texts of nearly 3000 bytes that fill the program's rows, and methods with many words. */
public final class LimitsTest {
    private static final Due DUE = new Due("limits");

    public static void main(String[] args) {
        fullTexts();
        longExpressions();
        manyVariables();
        manyWords();
        manyClasses();
        silentLoops();
        DUE.close();
    }

    private static String filled(String head, String part, String tail) {
        int times = (3000 - head.length() - tail.length()) / part.length();
        return head + Due.repeat(part, times) + tail;
    }

    private static int times(String head, String part, String tail) {
        return (3000 - head.length() - tail.length()) / part.length();
    }

    private static void fullTexts() {
        DUE.is("equal fields", Due.load(new ClassHouse(), filled("class Main{int main(){return 1;}", "A a;", "}")), -10034);
        DUE.is("equal classes", Due.load(new ClassHouse(), filled("", "class A{}", "")), -10015);
        DUE.is("equal methods", Due.load(new ClassHouse(), filled("class A{", "A a(){}", "}")), -10017);
        DUE.is("equal parameters", Due.load(new ClassHouse(), filled("class A{void f(", "A a,", "A a){}}")), -10013);
        DUE.is("equal variables", Due.load(new ClassHouse(), filled("class Main{int main(){", "int a;", "return 1;}}")), -10028);
        DUE.is("words of one byte", Due.load(new ClassHouse(), Due.repeat("{", 3000)), -1);
        DUE.is("all open", Due.load(new ClassHouse(), filled("class Main{int main(){return ", "(", "")), -1 - 57);
        DUE.is("all calls", Due.load(new ClassHouse(), filled("class Main{int main(){", "main();", "return 1;}}")), 1);
        DUE.is("all tries", Due.load(new ClassHouse(), filled("class Main{int main(){", "try{}catch(Zero a){}", "return 1;}}")), 1);
        DUE.is("a name of 2900 letters", Due.load(new ClassHouse(),
            "class Main{int main(){int " + Due.repeat("x", 1400) + "=1;return " + Due.repeat("x", 1400) + ";}}"), 1);
    }

    private static void longExpressions() {
        String head = "class Main{int main(){return 1";
        ClassHouse x = DUE.ended(filled(head, "+1", ";}}"), 1);
        DUE.is("a long sum", x.result(), 1 + times(head, "+1", ";}}"));
        x = DUE.ended(filled("class Main{int main(){print true", "&&true", ";return 3;}}"), 1);
        DUE.is("a long &&", x.output(0), 1);
        x = DUE.ended(filled("class Main{int main(){print false", "||false", ";return 3;}}"), 1);
        DUE.is("a long ||", x.output(0), 0);
        String chain = "class Main{Main m;int main(){m=this;Main a=m";
        x = DUE.ended(filled(chain, ".m", ";return 3;}}"), 1);
        DUE.is("a long chain of fields", x.count(0), 4 + times(chain, ".m", ";return 3;}}") + 2);
        DUE.ended(filled("class Main{int n;Main f(){return this;}int main(){f()", ".f()", ";return 3;}}"), 1);
        DUE.ended(filled("class Main{int main(){Main a=this", " as Main", ";return 3;}}"), 1);
    }

    private static String name(int i) {
        return "" + (char) ('a' + i / 26) + (char) ('a' + i % 26) + "0";
    }

    private static void manyVariables() {
        StringBuilder told = new StringBuilder("class Main{int f(int n){");
        StringBuilder sum = new StringBuilder("n");
        for (int i = 0; i < 150; i++) {
            told.append("int ").append(name(i)).append("=").append("n;");
            sum.append("+").append(name(i));
        }
        told.append("if(n==0){return 0;}int r=f(n-1);return r+").append(sum).append(";}int main(){return f(98);}}");
        ClassHouse x = DUE.begun(told.toString());
        int end = 0;
        for (int i = 0; i < 10 && end == 0; i++) {
            end = x.step(20000);
        }
        DUE.is("many variables in 100 METHODS", end, 1);
        DUE.is("their sum", x.result(), 98 * 99 / 2 * 151);
    }

    /** Each of 98 calls of f leaves some 600 words of parts behind that are not used yet. */
    private static void manyWords() {
        StringBuilder names = new StringBuilder("int a0");
        StringBuilder plain = new StringBuilder();
        for (int i = 1; i < 30; i++) {
            names.append(",int a").append(i);
            plain.append("1,");
        }
        StringBuilder call = new StringBuilder();
        int deep = 20;
        for (int i = 0; i < deep; i++) {
            call.append("g(").append(plain);
        }
        call.append("f(n-1)");
        for (int i = 0; i < deep; i++) {
            call.append(")");
        }
        ClassHouse x = DUE.begun("class Main{int g(" + names + "){return a29+1;}int f(int n){if(n==0){return 5;}return "
            + call + ";}int main(){return f(97);}}");
        int end = 0;
        for (int i = 0; i < 20 && end == 0; i++) {
            end = x.step(20000);
            if (end == 0 && i == 0) {
                DUE.is("reached", x.count(2), 2);
            }
        }
        DUE.is("many words in 99 METHODS", end, 1);
        DUE.is("their end", x.result(), 5 + 97 * deep);
    }

    private static void manyClasses() {
        StringBuilder text = new StringBuilder("class Main:aa0{int main(){x=7;return f();}}");
        int classes = 1;
        for (int i = 0; i < 100; i++) {
            text.append("class ").append(name(i)).append(":").append(name(i + 1)).append("{}");
            classes++;
        }
        text.append("class ").append(name(100)).append("{int x;int f(){return x;}}");
        ClassHouse x = new ClassHouse();
        DUE.is("a long way of PARENTS", Due.load(x, text.toString()), classes + 1);
        x.start();
        DUE.is("run", x.step(100), 1);
        DUE.is("result", x.result(), 7);
        DUE.is("cells", x.count(1), 3);
    }

    private static void silentLoops() {
        ClassHouse x = DUE.begun("class Main{void f(int n){if(n==0){}else{f(n-1);}}int main(){f(98);return 9;}}");
        // Two STEPS open f, and eight each time the next one.
        x.step(2 + 98 * 8);
        DUE.is("100 are open", x.count(3), 100);
        x.step(3);
        DUE.is("100 are open still", x.count(3), 100);
        x.step(1);
        DUE.is("all but main end at once", x.count(3), 1);
        DUE.is("the end", x.step(2), 1);
        DUE.is("result()", x.result(), 9);
    }
}
