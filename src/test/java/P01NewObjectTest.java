public final class P01NewObjectTest {
    public static void main(String[] args) {
        Due due = new Due("promise 1, a new object");
        ClassHouse x = new ClassHouse();
        due.is("start()", x.start(), 0);
        due.is("step(0)", x.step(0), -1);
        due.is("result()", x.result(), 0);
        due.is("output(0)", x.output(0), 0);
        for (int what = 0; what <= 7; what++) {
            due.is("count(" + what + ")", x.count(what), 0);
        }
        due.is("end(1)", x.end(1), -1);
        due.is("program()", x.program(), -1);
        // HEAP 1000: Main's 2 cells and 2 + 996 of ints fill it, one more does not fit.
        due.ended(Due.main("ints r = new ints[996]; return 1;"), 1);
        due.ended(Due.main("ints r = new ints[997]; return 1;"), 3);
        due.is("read without INPUT", due.ended(Due.main("return read + 7;"), 1).result(), 7);
        due.close();
    }
}
