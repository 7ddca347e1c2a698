public final class P03EndTest {
    public static void main(String[] args) {
        Due due = new Due("promise 3, end");
        ClassHouse x = new ClassHouse();
        due.is("end(0) of none", x.end(0), 0);
        due.is("end(1) of none", x.end(1), -1);
        due.is("end(-1)", x.end(-1), -1);
        x.feed(1, 2, 3, 4, 5);
        due.is("end(21)", x.end(21), -1);
        due.is("count(7)", x.count(7), 20);
        due.is("end(20)", x.end(20), 20);
        due.is("end(MIN)", x.end(Integer.MIN_VALUE), -1);
        due.is("end(MAX)", x.end(Integer.MAX_VALUE), -1);
        due.is("end(7)", x.end(7), 7);
        due.is("count(7)", x.count(7), 7);
        due.is("end(8)", x.end(8), -1);
        due.is("feed behind it", x.feed(1, 2, 3, 4, 5), 27);
        due.is("end(0)", x.end(0), 0);
        due.is("program of none", x.program(), -1);
        firstBytesStay(due);
        due.close();
    }

    private static void firstBytesStay(Due due) {
        ClassHouse x = new ClassHouse();
        String text = Due.main("return 3;");
        Due.feed(x, (text + " # # #").getBytes());
        due.is("end", x.end(text.length()), text.length());
        due.is("program", x.program(), 1);
        due.is("TAPE behind program", x.count(7), 0);
    }
}
