public final class P05HeapTest {
    public static void main(String[] args) {
        Due due = new Due("promise 5, heap");
        ClassHouse x = new ClassHouse();
        due.is("heap(9)", x.heap(9), -1);
        due.is("heap(10)", x.heap(10), 1);
        due.is("heap(10000)", x.heap(10000), 1);
        due.is("heap(10001)", x.heap(10001), -1);
        due.is("heap(0)", x.heap(0), -1);
        due.is("heap(-1)", x.heap(-1), -1);
        due.is("heap(MIN)", x.heap(Integer.MIN_VALUE), -1);
        due.is("heap(MAX)", x.heap(Integer.MAX_VALUE), -1);
        Due.load(x, Due.main("ints r = new ints[read]; return r.size;"));
        sizes(due, x, 10000, 9996);
        due.is("heap(10)", x.heap(10), 1);
        sizes(due, x, 10, 6);
        x.heap(500);
        x.heap(20000);
        sizes(due, x, 500, 496);
        fromTheNextStartOn(due);
        due.close();
    }

    private static void sizes(Due due, ClassHouse x, int heap, int largest) {
        x.input(largest, largest + 1, Integer.MAX_VALUE);
        int[] how = {1, 3, 3};
        for (int end : how) {
            x.start();
            due.is("a run in a heap of " + heap, x.step(10), end);
        }
    }

    private static void fromTheNextStartOn(Due due) {
        ClassHouse x = due.begun(Due.main("ints r = new ints[900]; return 1;"));
        x.heap(10);
        due.is("a run that was begun ahead of heap(10)", x.step(100), 1);
        x.start();
        due.is("one that was begun behind it", x.step(100), 3);
        Due.load(x, Due.main("ints r = new ints[7]; return 1;"));
        x.start();
        due.is("HEAP stays with another program", x.step(100), 3);
    }
}
