/** ROOM: what can be reached as a STEP new begins, and what it makes, must fit in the HEAP. */
public final class P08RoomTest {
    private static final Due DUE = new Due("promise 8, ROOM");

    public static void main(String[] args) {
        sizes();
        variables();
        blocks();
        parts();
        methods();
        fields();
        longRuns();
        DUE.close();
    }

    /** The least HEAP in which the text's run ends by 1. */
    private static void least(String text, int wanted) {
        ClassHouse x = new ClassHouse();
        Due.load(x, text);
        x.heap(wanted);
        x.start();
        DUE.is("a HEAP of " + wanted + " for " + text, x.step(20000), 1);
        x.heap(wanted - 1);
        x.start();
        DUE.is("a HEAP of " + (wanted - 1) + " for " + text, x.step(20000), 3);
    }

    /** Main's own object takes 10 cells of it. */
    private static void main(String body, int wanted) {
        least("class A { int x; A n; ints r; } class B : A { bool b; } class Main { A a; ints r; int b; int c; int d; int e; int f; int g; A id(A p) { return p; } int main() { "
            + body + " return 1; } }", 10 + wanted);
    }

    private static void sizes() {
        main("ints q = new ints[10];", 12);
        main("A q = new A; A p = new A;", 10);
        main("A q = new B; A p = new B;", 12);
        main("Zero z = new Zero; ints q = new ints[10];", 14);
        main("ints q = new ints[0]; ints p = new ints[7];", 11);
    }

    private static void variables() {
        main("ints q = new ints[10]; q = new ints[5];", 12 + 7);
        main("ints q = new ints[10]; q = null; q = new ints[5];", 12);
        main("ints q; q = new ints[10]; ints p = q; q = null; p = new ints[1];", 15);
        main("r = new ints[10]; r = new ints[1];", 15);
        main("r = new ints[10]; r = null; r = new ints[10];", 12);
        main("print new ints[10].size; print new ints[10].size;", 12);
        main("id(new A); id(new B); a = new A;", 6);
        main("try { a = new B; a = null; throw new Zero; } catch (Zero z) { } a = new B;", 6);
    }

    /** A block's variables are gone behind it, and one told without a value has none. */
    private static void blocks() {
        main("if (true) { ints q = new ints[10]; } ints p = new ints[10];", 12);
        main("if (true) { ints q = new ints[10]; ints p = new ints[10]; }", 24);
        main("int n = 0; while (n < 5) { n = n + 1; ints q = new ints[10]; }", 12);
        main("int n = 0; ints q = null; while (n < 5) { n = n + 1; q = new ints[10]; }", 24);
        main("int n = 0; while (n < 5) { n = n + 1; ints q; q = new ints[10]; }", 12);
        main("int n = 0; while (n < 5) { n = n + 1; ints q; if (n == 1) { q = new ints[10]; } r = new ints[10]; r = null; }", 24);
        main("try { ints q = new ints[10]; throw new Zero; } catch (Zero z) { ints p = new ints[10]; }", 14);
        main("try { throw new Zero; } catch (Zero z) { ints p = new ints[10]; } ints q = new ints[10];", 14);
        main("try { ints q = new ints[10]; } catch (Zero z) { } ints q = new ints[10];", 12);
        main("if (true) { ints q = new ints[10]; } if (true) { ints q; r = new ints[10]; }", 12);
    }

    /** Words of parts hold what they tell until they are used. */
    private static void parts() {
        main("print new ints[10] == new ints[10];", 24);
        main("print new ints[10].size == new ints[10].size;", 12);
        main("new A.r = new ints[10];", 5 + 12);
        main("new A.x = new ints[10].size;", 5 + 12);
        main("new ints[10][new ints[10].size - 1] = new ints[10].size;", 24);
        main("print true && new A == null || new A == new A;", 10);
        main("id(new A).n = id(new A);", 10);
        main("id(id(id(new A))).x = 1;", 5);
    }

    private static void methods() {
        String text = "class A { int x; A n; ints r; int f(A p, A q) { p = null; return new ints[10].size; } int g() { return new ints[10].size; } }"
            + " class Main { int h() { return new ints[10].size; } int k(ints p) { return new ints[10].size; }"
            + " int l(ints p) { p = null; return new ints[10].size; } int main() { BODY return 1; } }";
        least(text.replace("BODY", "h(); h();"), 2 + 12);
        least(text.replace("BODY", "k(new ints[10]);"), 2 + 24);
        least(text.replace("BODY", "l(new ints[10]);"), 2 + 12);
        least(text.replace("BODY", "ints q = new ints[10]; l(q);"), 2 + 24);
        least(text.replace("BODY", "new A.g();"), 2 + 5 + 12);
        least(text.replace("BODY", "new A.f(new A, new A);"), 2 + 10 + 12);
        least(text.replace("BODY", "print new A.g() + new A.g();"), 2 + 5 + 12);
        least(text.replace("BODY", "if (true) { ints q = new ints[10]; } h();"), 2 + 12);
    }

    private static void fields() {
        main("a = new A; a.n = new A; a.n.n = a; a.r = new ints[3]; a = null; a = new A;", 15);
        main("a = new A; a.n = a; a.r = new ints[9]; a = null; r = new ints[11];", 16);
        main("a = new A; a.n = new A; a = a.n; a.n = new A; a = a.n; a.n = new A;", 10);
        main("a = new A; a.n = new A; A b = a; a = null; b.n.n = new A; b.n.n.n = b; b = new A;", 20);
    }

    /** Many objects in little room, with a ring that must stay whole as it is moved. */
    private static void longRuns() {
        ClassHouse x = new ClassHouse();
        Due.load(x, "class N { int v; N next; ints r; } class Main { int main() { N top = new N; N at = top; int i = 1; while (i < 10) { at.next = new N;"
            + " at = at.next; at.v = i; at.r = new ints[i]; at.r[i - 1] = i * i; i = i + 1; } at.next = top; int n = 0; int sum = 0;"
            + " while (n < 200) { ints junk = new ints[n % 13]; at = at.next; sum = sum + at.v; if (!(at.r == null)) { sum = sum + at.r[at.v - 1]; }"
            + " at.next.next = at.next.next; n = n + 1; } return sum; } }");
        x.heap(160);
        x.start();
        DUE.is("a long run", x.step(20000), 1);
        DUE.is("its sum", x.result(), 20 * (45 + 285));
        x = DUE.begun("class Main { int main() { int n = 0; while (true) { ints r = new ints[n % 200]; n = n + 1; } return 1; } }");
        for (int i = 0; i < 20; i++) {
            DUE.is("it goes on", x.step(20000), 0);
        }
        DUE.is("reached", x.count(2) <= 204 ? 1 : 0, 1);
    }
}
