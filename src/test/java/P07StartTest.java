public final class P07StartTest {
    public static void main(String[] args) {
        Due due = new Due("promise 7, start");
        ClassHouse x = new ClassHouse();
        due.is("start() without a program", x.start(), 0);
        Due.load(x, "class Main { int n; A a; int main() { n = n + 1; print n; a = new A; throw a; } } class A { }");
        due.is("start()", x.start(), 1);
        for (int again = 0; again < 3; again++) {
            due.is("count(0)", x.count(0), 0);
            due.is("count(1): Main's object", x.count(1), 4);
            due.is("count(2)", x.count(2), 4);
            due.is("count(3): main is open", x.count(3), 1);
            due.is("count(4)", x.count(4), 0);
            due.is("count(5)", x.count(5), 0);
            due.is("output(0)", x.output(0), 0);
            due.is("result()", x.result(), 0);
            due.is("step(again)", x.step(6 + 10 * (again % 2)), 2 * (again % 2));
            due.is("output(0): a new Main each time", x.output(0), 1);
            due.is("start() again", x.start(), 1);
        }
        roomForMain(due);
        due.close();
    }

    /** Main takes 2 + 12 cells, which is more than a HEAP of 10: then that is its size. */
    private static void roomForMain(Due due) {
        String fields = "int a; int b; int c; int d; int e; int f; int g; int h; int i; int j; int k; int l; ";
        ClassHouse x = new ClassHouse();
        x.heap(10);
        Due.load(x, "class Main { " + fields + "int main() { a = 1; A b = new A; return 1; } } class A { }");
        due.is("start() with too small a HEAP", x.start(), 1);
        due.is("count(2)", x.count(2), 14);
        due.is("no room besides", x.step(100), 3);
        due.is("count(0)", x.count(0), 3);
        x.heap(15);
        x.start();
        due.is("15 cells are not enough", x.step(100), 3);
        x.heap(16);
        x.start();
        due.is("16 cells are", x.step(100), 1);
    }
}
