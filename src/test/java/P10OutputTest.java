public final class P10OutputTest {
    public static void main(String[] args) {
        Due due = new Due("promise 10, output");
        ClassHouse x = new ClassHouse();
        due.is("of a new object", x.output(0), 0);
        Due.load(x, Due.main("int n = 0; while (n < 600) { n = n + 1; print n * 3; } return n;"));
        x.start();
        due.is("run", x.step(20000), 1);
        due.is("printed", x.count(4), 600);
        for (int i : new int[] {0, 1, 2, 100, 498, 499}) {
            due.is("output(" + i + ")", x.output(i), 3 * (i + 1));
        }
        for (int i : new int[] {500, 501, 599, 600, 601, -1, Integer.MIN_VALUE, Integer.MAX_VALUE}) {
            due.is("output(" + i + ")", x.output(i), 0);
        }
        x.start();
        due.is("output(0) of the next run", x.output(0), 0);
        x.step(14);
        due.is("output(0)", x.output(0), 3);
        due.is("output(1) is not there yet", x.output(1), 0);
        due.is("output(499) of the last run is gone", x.output(499), 0);
        Due.load(x, Due.main("print true; print false; print -5; throw new Zero;"));
        due.is("output(0) behind program()", x.output(0), 0);
        x.start();
        x.step(100);
        due.is("true", x.output(0), 1);
        due.is("false", x.output(1), 0);
        due.is("-5", x.output(2), -5);
        due.is("output(3)", x.output(3), 0);
        due.close();
    }
}
