public final class P02FeedTest {
    public static void main(String[] args) {
        Due due = new Due("promise 2, feed");
        ClassHouse x = new ClassHouse();
        for (int i = 1; i <= 150; i++) {
            due.is("feed " + i, x.feed(i, -i, 0, -1, Integer.MIN_VALUE), 20 * i);
        }
        due.is("feed past 3000", x.feed(0, 0, 0, 0, 0), -1);
        due.is("count(7)", x.count(7), 3000);
        due.is("end(2981)", x.end(2981), 2981);
        due.is("feed to 3001", x.feed(0, 0, 0, 0, 0), -1);
        due.is("count(7)", x.count(7), 2981);
        due.is("end(2980)", x.end(2980), 2980);
        due.is("feed to 3000", x.feed(0, 0, 0, 0, 0), 3000);
        order(due);
        wholeTape(due);
        due.close();
    }

    /** "clas" "s Ma" "in {" " } #": the order of bytes shows in the place that is wrong. */
    private static void order(Due due) {
        ClassHouse x = new ClassHouse();
        x.feed(0x636c6173, 0x73204d61, 0x696e207b, 0x207d2023, 0x41424344);
        due.is("program() wrong at #", x.program(), -1 - 15);
        x.feed(0x636c6173, 0x73204d61, 0x696e207b, 0x207d20ff, 0x41424344);
        due.is("program() wrong at byte 255", x.program(), -1 - 15);
        x.feed(0x636c6173, 0x73204d61, 0x696e207b, 0x207d0a20, 0x20202020);
        due.is("program() without main", x.program(), -10000 - 20);
    }

    private static void wholeTape(Due due) {
        String text = Due.main("return 5;");
        String filled = text + Due.repeat(" ", 3000 - text.length());
        due.is("a text of 3000 bytes", Due.load(new ClassHouse(), filled), 1);
        due.is("a last byte that is wrong",
            Due.load(new ClassHouse(), filled.substring(0, 2999) + "#"), -1 - 2999);
        due.is("blanks alone", Due.load(new ClassHouse(), Due.repeat(" ", 3000)), -1 - 3000);
    }
}
