public final class P09ResultTest {
    public static void main(String[] args) {
        Due due = new Due("promise 9, result");
        ClassHouse x = new ClassHouse();
        due.is("without a run", x.result(), 0);
        Due.load(x, Due.main("return read;"));
        due.is("ahead of a run", x.result(), 0);
        x.input(17, -1, 0);
        int[] wanted = {17, -1, 0};
        for (int value : wanted) {
            x.start();
            due.is("as it begins", x.result(), 0);
            x.step(1);
            due.is("ahead of the return", x.result(), 0);
            x.step(1);
            due.is("what main returned", x.result(), value);
            due.is("and again", x.result(), value);
        }
        numbersOfClasses(due);
        Due.load(x, "class A");
        due.is("behind program()", x.result(), 0);
        due.is("no room", due.ended(Due.main("ints r = new ints[5000]; return 4;"), 3).result(), 0);
        due.is("too deep", due.ended("class Main { int f() { return f() + 1; } int main() { return f() + 1; } }", 4).result(), 0);
        due.close();
    }

    private static void numbersOfClasses(Due due) {
        String[] names = {"Null", "Bounds", "Zero", "Cast", "Size", "B", "A", "Main", "C"};
        for (int i = 0; i < names.length; i++) {
            String text = "class B : C { } class A { } class Main { int main() { throw new " + names[i] + "; } } class C { }";
            due.is("number of " + names[i], due.ended(text, 2).result(), i);
        }
    }
}
