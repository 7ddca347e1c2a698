public final class P06InputTest {
    public static void main(String[] args) {
        Due due = new Due("promise 6, input");
        ClassHouse x = new ClassHouse();
        for (int i = 1; i <= 100; i++) {
            due.is("input " + i, x.input(3 * i, 3 * i + 1, 3 * i + 2), 3 * i);
        }
        due.is("input past 300", x.input(1, 2, 3), -1);
        due.is("count(6)", x.count(6), 300);
        Due.load(x, Due.main("print read; print read; return read;"));
        due.is("INPUT stays with a program", x.count(6), 300);
        for (int i = 1; i <= 50; i++) {
            x.start();
            x.step(6);
            due.is("first read " + i, x.output(0), 3 * i);
            due.is("second read " + i, x.output(1), 3 * i + 1);
            due.is("third read " + i, x.result(), 3 * i + 2);
            due.is("count(6)", x.count(6), 297);
            int next = 3 * (i + 100);
            due.is("input behind it", x.input(next, next + 1, next + 2), 300);
        }
        partlyRead(due);
        due.close();
    }

    private static void partlyRead(Due due) {
        ClassHouse x = due.begun(Due.main("while (true) { print read; } return 0;"));
        x.input(-5, Integer.MIN_VALUE, Integer.MAX_VALUE);
        x.step(3);
        due.is("count(6) ahead of read", x.count(6), 2);
        x.input(1, 2, 3);
        due.is("count(6)", x.count(6), 5);
        x.step(4 * 7);
        int[] due7 = {-5, Integer.MIN_VALUE, Integer.MAX_VALUE, 1, 2, 3, 0, 0};
        for (int i = 0; i < due7.length; i++) {
            due.is("output(" + i + ")", x.output(i), due7[i]);
        }
        due.is("count(6) of none", x.count(6), 0);
        x.start();
        due.is("input(7, 8, 9)", x.input(7, 8, 9), 3);
    }
}
