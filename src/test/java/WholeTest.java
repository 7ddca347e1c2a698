/** The document's first sentence: one text goes the whole way, and each stop on it is held against a plain Java loop. */
public final class WholeTest {
    private static final Due DUE = new Due("the whole way");
    private static final int ROUNDS = 40;
    private static final int MOST = 5;
    // Main's object, the Stack's, and so on: 2 cells and 1 for each FIELD.
    private static final int MAIN = 3;
    private static final int STACK = 5;
    private static final int ITEM = 4;
    private static final int FULL = 3;
    private static final String TEXT = "class Item { int v; Item next; int worth() { return v; } }\n"
        + "class Twice : Item { int worth() { return 2 * v; } }\n"
        + "class Full : Size { int at; }\n"
        + "class Stack { Item top; int n; int most;\n"
        + "void push(Item i) { if (most <= n) { Full f = new Full; f.at = n; throw f; } i.next = top; top = i; n = n + 1; }\n"
        + "int pop() { int w = top.worth(); top = top.next; n = n - 1; return w; } }\n"
        + "class Main { Stack s;\n"
        + "Item item(int k) { Item i; if (k % 2 == 0) { i = new Item; } else { i = new Twice; } i.v = k; return i; }\n"
        + "int main() { s = new Stack; s.most = 5; int k = 0; int sum = 0; int rounds = read;\n"
        + "while (k < rounds) { try { s.push(item(k)); } catch (Full f) { sum = sum + f.at;\n"
        + "try { while (true) { sum = sum + s.pop(); } } catch (Null z) { print sum; } } k = k + 1; }\n"
        + "return sum; } }";

    public static void main(String[] args) {
        DUE.sentence("A house for a small language of classes: texts are read, checked (types, and that each variable is set ahead of its use),"
            + " become code for a machine with a pile, which runs step by step, throws and catches,"
            + " and keeps objects in a heap where what can't be reached any more takes no room.");
        read();
        checked();
        run();
        stepByStep();
        room();
        DUE.close();
    }

    private static String changed(String from, String to) {
        DUE.is("stands once: " + from, TEXT.split(java.util.regex.Pattern.quote(from), -1).length, 2);
        return TEXT.replace(from, to);
    }

    private static void read() {
        DUE.fine(TEXT, 5);
        DUE.wrongAt(changed("top = i;", "top = i^}"));
        DUE.wrongAt(changed("while (true)", "while ^true)"));
        DUE.wrongAt(changed("s.pop();", "s.pop(); s.top^;"));
        DUE.wrongAt(TEXT.substring(0, TEXT.length() - 1) + "^");
    }

    private static void checked() {
        DUE.badAt(changed("class Twice : Item", "class ^Twice : Itom"));
        DUE.badAt(changed("{ int worth() { return 2 * v; } }", "{ bool ^worth() { return 2 < v; } }"));
        DUE.badAt(changed("i.next = top;", "^i.next = n;"));
        DUE.badAt(changed("sum = sum + f.at;", "^sum = sum + f;"));
        DUE.badAt(changed("else { i = new Twice; } i.v = k;", "else { } ^i.v = k;"));
        DUE.badAt(changed("int sum = 0;", "int sum;").replace("sum = sum + f.at", "^sum = sum + f.at"));
        DUE.badAt(changed("return sum; } }", "^} }"));
    }

    private static ClassHouse begun(int heap, int rounds) {
        ClassHouse x = new ClassHouse();
        x.heap(heap);
        x.input(rounds, 0, 0);
        DUE.is("program()", Due.load(x, TEXT), 5);
        DUE.is("start()", x.start(), 1);
        return x;
    }

    private static void run() {
        ClassHouse x = begun(1000, ROUNDS);
        DUE.is("step(20000)", x.step(20000), 1);
        int sum = 0;
        int pushed = 0;
        int waiting = 0;
        int prints = 0;
        for (int k = 0; k < ROUNDS; k++) {
            if (pushed == MOST) {
                sum += MOST + waiting;
                DUE.is("output(" + prints + ")", x.output(prints), sum);
                prints++;
                pushed = 0;
                waiting = 0;
            } else {
                pushed++;
                waiting += k % 2 == 0 ? k : 2 * k;
            }
        }
        DUE.is("result()", x.result(), sum);
        DUE.is("count(1)", x.count(1), MAIN + STACK + ROUNDS * ITEM + prints * FULL);
        DUE.is("count(4)", x.count(4), prints);
        DUE.is("count(5): a Full and a Null each time", x.count(5), 2 * prints);
        DUE.is("count(6)", x.count(6), 2);
    }

    /** So many STEPS at once are as many single ones; a look each time, in the calls that one object has. */
    private static void stepByStep() {
        int from = 400;
        ClassHouse single = begun(1000, ROUNDS);
        single.step(from);
        for (int taken = from + 1; taken <= from + 60; taken++) {
            DUE.is("step(1)", single.step(1), 0);
            ClassHouse atOnce = begun(1000, ROUNDS);
            DUE.is("step(" + taken + ")", atOnce.step(taken), 0);
            for (int what = 0; what <= 5; what++) {
                DUE.is("count(" + what + ") behind " + taken, single.count(what), atOnce.count(what));
            }
        }
    }

    /** Most is held when a Full is made: five items and the sixth. */
    private static void room() {
        int most = MAIN + STACK + (MOST + 1) * ITEM + FULL;
        ClassHouse x = begun(most, ROUNDS);
        DUE.is("in just as many cells as are held at once", x.step(20000), 1);
        DUE.is("cells made are far more", x.count(1) > 4 * most ? 1 : 0, 1);
        x = begun(most - 1, ROUNDS);
        DUE.is("in one cell less", x.step(20000), 3);
        DUE.is("cells made by then", x.count(1), most - FULL);
        x = begun(most - 1, MOST);
        DUE.is("in one cell less, without a Full", x.step(20000), 1);
    }
}
