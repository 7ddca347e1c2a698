/** Boundaries of words: which bytes begin, continue and part them. */
public final class EdgeWordsTest {
    private static final Due DUE = new Due("edges of words");
    private static final String MAIN = "class Main { int main() { return 1; } }";
    private static final String[] KEPT = "class int bool ints void if else while return throw try catch print new null true false this read as is".split(" ");

    public static void main(String[] args) {
        blanks();
        blanksAsOneLikes();
        firstBytesOfNames();
        innerBytesOfNames();
        keptWords();
        lengthsOfNames();
        numbers();
        valuesOfNumbers();
        longerSigns();
        eachSign();
        DUE.close();
    }

    private static boolean isLetter(int b) {
        return "abcdefghijklmnopqrstuvwxyzABCDEFGHIJKLMNOPQRSTUVWXYZ".indexOf(b) >= 0;
    }

    private static boolean isDigit(int b) {
        return "0123456789".indexOf(b) >= 0;
    }

    private static boolean isBlank(int b) {
        return b == 32 || b == 10;
    }

    private static void answers(String text, int wanted) {
        DUE.is("program() of " + text, Due.load(new ClassHouse(), text), wanted);
    }

    /** Each byte that there is ahead of the first word, between two, and behind the last one. */
    private static void blanks() {
        DUE.sentence("Blanks (32) and bytes 10 stand between words as one likes.");
        for (int b = 0; b < 256; b++) {
            answers((char) b + MAIN, isBlank(b) ? 1 : -1);
            answers(MAIN + (char) b, isBlank(b) ? 1 : -1 - MAIN.length());
            boolean joins = isLetter(b) || isDigit(b);
            String parted = "class Main" + (char) b + "{ int main() { return 1; } }";
            answers(parted, isBlank(b) || joins ? joins ? -10000 - parted.length() : 1 : b == ':' || b == '{' ? -1 - 11 : -1 - 10);
        }
    }

    private static void blanksAsOneLikes() {
        answers("class Main{int main(){return 1;}}", 1);
        answers("\n\n class \n Main  {\n\nint\nmain\n( \n) { return \n 1 ; \n} } \n\n ", 1);
        DUE.wrongAt("class Main{intmain^(){return 1;}}");
        DUE.wrongAt("class Main{int main(){return1^;}}");
        DUE.wrongAt("^classMain{int main(){return 1;}}");
        DUE.wrongAt(Due.main("print 1 ^2; return 1;"));
    }

    private static void firstBytesOfNames() {
        DUE.sentence("a NAME (a letter a .. z, A .. Z, and all letters and digits behind it; not one of the words that follow)");
        for (int b = 0; b < 256; b++) {
            String text = "class " + (char) b + "{ } " + MAIN;
            if (isBlank(b)) {
                answers(text, -1 - 7);
            } else {
                answers(text, isLetter(b) ? 2 : -1 - 6);
            }
        }
    }

    private static void innerBytesOfNames() {
        for (int b = 0; b < 256; b++) {
            String text = "class A" + (char) b + "c{ } " + MAIN;
            if (isLetter(b) || isDigit(b)) {
                answers(text, 2);
            } else if (b == ':') {
                answers(text, -10000 - 6);
            } else if (isBlank(b)) {
                answers(text, -1 - 8);
            } else if (b == '{') {
                answers(text, -1 - 9);
            } else {
                answers(text, -1 - 7);
            }
        }
        answers("class A { } class a { } class A0 { } class A00 { } class a0 { } " + MAIN, 6);
        DUE.badAt("class A0 { } class ^A0 { } " + MAIN);
    }

    private static void keptWords() {
        DUE.sentence("class int bool ints void if else while return throw try catch print new null true false this read as is, a NUMBER");
        for (String word : KEPT) {
            DUE.wrongAt("class ^" + word + " { } " + MAIN);
            DUE.wrongAt("class A : ^" + word + " { } " + MAIN);
            DUE.wrongAt("class A { int ^" + word + "; } " + MAIN);
            answers("class " + word + "1 { } class " + word + "s0 { } class x" + word + " { } class " + word.toUpperCase() + " { } "
                + MAIN, 5);
        }
        answers("class A { int Null; int Main; int main; int size; int x; } " + MAIN, 2);
    }

    private static void lengthsOfNames() {
        DUE.sentence("and all letters and digits behind it;");
        int most = 3000 - MAIN.length() - "class {}".length();
        answers("class " + "n".repeat(most) + "{}" + MAIN, 2);
        int half = (3000 - MAIN.length() - 2 * "class {}".length()) / 2;
        answers("class " + "n".repeat(half) + "{}class " + "n".repeat(half - 1) + "N{}" + MAIN, 3);
        answers("class " + "n".repeat(half) + "{}class " + "n".repeat(half - 1) + "{}" + MAIN, 3);
        answers("class " + "n".repeat(half) + "{}class " + "n".repeat(half) + "{}" + MAIN, -10000 - (6 + half + 2 + 6));
    }

    private static void numbers() {
        DUE.sentence("a NUMBER (all digits that stand there, 9 at most)");
        for (int digits = 1; digits <= 12; digits++) {
            for (String digit : new String[] {"0", "1", "9"}) {
                String number = digit.repeat(digits);
                if (digits <= 9) {
                    DUE.fine(Due.main("return " + number + ";"), 1);
                } else {
                    DUE.wrongAt(Due.main("return ^" + number + ";"));
                }
            }
        }
        DUE.wrongAt(Due.main("return ^" + "1".repeat(1000) + ";"));
        DUE.fine(Due.main("return 123456789 + 1;"), 1);
        DUE.wrongAt(Due.main("return 123456789 ^1;"));
        DUE.wrongAt(Due.main("return 123456789^a;"));
        DUE.wrongAt(Due.main("return 1^x1;"));
        DUE.wrongAt(Due.main("return 1^return;"));
        DUE.wrongAt("class Main { int main() { return 123456789^");
        DUE.wrongAt("class Main { int main() { return ^1234567890");
        // 9 digits within a NAME are no NUMBER.
        DUE.fine(Due.main("int a1234567890123 = 1; return a1234567890123;"), 1);
    }

    private static void valuesOfNumbers() {
        String[] texts = {"0", "000000000", "1", "000000001", "10", "010", "123456789", "999999999", "999999998", "100000000"};
        int[] wanted = {0, 0, 1, 1, 10, 10, 123456789, 999999999, 999999998, 100000000};
        for (int i = 0; i < texts.length; i++) {
            DUE.is(texts[i], DUE.ended(Due.main("return " + texts[i] + ";"), 1).result(), wanted[i]);
        }
    }

    private static void longerSigns() {
        DUE.sentence("the signs { } ( ) [ ] ; , . : = == != < <= + - * / % ! && || (the longer one counts).");
        DUE.fine(Due.main("print 1==1; print 1!=1; print 1<1; print 1<=1; print true&&true; print true||true; print!true; return-1;"), 1);
        DUE.wrongAt(Due.main("print 1 ^= = 1; return 1;"));
        DUE.wrongAt(Due.main("print 1 ^! = 1; return 1;"));
        DUE.wrongAt(Due.main("print 1 < ^= 1; return 1;"));
        DUE.wrongAt(Due.main("print true ^& & true; return 1;"));
        DUE.wrongAt(Due.main("print true ^| | true; return 1;"));
        DUE.wrongAt(Due.main("print 1 ==^= 1; return 1;"));
        DUE.wrongAt(Due.main("print 1 !=^= 1; return 1;"));
        DUE.wrongAt(Due.main("print 1 <=^= 1; return 1;"));
        DUE.wrongAt(Due.main("print 1 <^<= 1; return 1;"));
        DUE.wrongAt(Due.main("print true &&^& true; return 1;"));
        DUE.wrongAt(Due.main("print true ||^| true; return 1;"));
        DUE.wrongAt(Due.main("print true &&^&& true; return 1;"));
        DUE.wrongAt(Due.main("print 1 ^> 1; return 1;"));
        DUE.wrongAt(Due.main("print 1 ^=> 1; return 1;"));
        DUE.wrongAt(Due.main("int x; x == 1^; return 1;"));
        DUE.wrongAt(Due.main("int x ^== 1; return 1;"));
        DUE.fine(Due.main("int x; x=-1; print x==-1; print true&&!true; print 1<-1; print 1- -1; print 1--1; return 1;"), 1);
        DUE.wrongAt("class Main { int main() { print true ^&");
        DUE.wrongAt("class Main { int main() { print 1 ==^");
        DUE.wrongAt("class Main { int main() { print 1 <^");
        DUE.wrongAt("class Main { int main() { x =^");
    }

    /** What each sign does, so that none is taken for another. */
    private static void eachSign() {
        DUE.prints(Due.main("print 7 + 2; print 7 - 2; print 7 * 2; print 7 / 2; print 7 % 2; print 7 < 7; print 7 <= 7; print 7 == 7; print 7 != 7;"
            + " print !true; print true && false; print true || false; print -7; return 1;"), 9, 5, 14, 3, 1, 0, 1, 1, 0, 0, 0, 1, -7);
    }
}
