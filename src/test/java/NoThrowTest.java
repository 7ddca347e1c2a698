import java.util.Random;

/** Calls with whatever arguments on whatever texts: nothing may ever throw, and all must end. */
public final class NoThrowTest {
    private static final String[] TEXTS = {
        Due.main("int a = 1; while (a < 50) { a = a + 1; try { print 100 / (a % 7); } catch (Zero z) { print a; } } return a;"),
        "class A : Zero { int x; A n; int f(int p) { if (p < 1) { throw this; } return n.f(p - 1); } } class B : A { ints r; int f(int p) { r = new ints[p]; return r[p]; } }"
            + " class Main { A a; B b; int main() { a = new A; a.n = new B; try { print a.f(3); } catch (A q) { print q.x; } catch2(); return 1; } void catch2() { b = a as B; } }",
        "class N { N l; N r; int v; void put(int k) { if (k < v) { if (l == null) { l = new N; l.v = k; } else { l.put(k); } } else { if (r == null) { r = new N; r.v = k; }"
            + " else { r.put(k); } } } int sum() { int s = v; if (l != null) { s = s + l.sum(); } if (r != null) { s = s + r.sum(); } return s; } }"
            + " class Main { int main() { N t = new N; int i = 0; while (i < 60) { t.put(i * 37 % 61); i = i + 1; } return t.sum(); } }"};
    private static final String[] WORDS = ("class int bool ints void if else while return throw try catch print new null true false this read as is"
        + " { } ( ) [ ] ; , . : = == != < <= + - * / % ! && || A B Main main x y f a b n 0 1 7 999999999 1234567890 # &").split(" ");

    private final Random random;
    private final ClassHouse house = new ClassHouse();
    private int calls;

    private NoThrowTest(long seed) {
        random = new Random(seed);
    }

    public static void main(String[] args) {
        Due due = new Due("nothing throws");
        int calls = 0;
        for (int seed = 0; seed < 3000; seed++) {
            NoThrowTest run = new NoThrowTest(seed);
            try {
                run.runOnce();
            } catch (RuntimeException | StackOverflowError e) {
                e.printStackTrace(System.out);
                due.is("throws with seed " + seed, 1, 0);
            }
            calls += run.calls;
        }
        due.is("calls were made", calls > 0 ? 1 : 0, 1);
        due.close();
    }

    private void runOnce() {
        for (int round = 0; round < 4; round++) {
            String text = text();
            Due.feed(house, text.substring(0, Math.min(text.length(), 3000)).getBytes(java.nio.charset.StandardCharsets.ISO_8859_1));
            for (int i = 0; i < 25; i++) {
                call();
            }
        }
    }

    private String text() {
        int kind = random.nextInt(4);
        StringBuilder text = new StringBuilder();
        if (kind == 0) {
            for (int i = random.nextInt(600); i >= 0; i--) {
                text.append(WORDS[random.nextInt(WORDS.length)]).append(' ');
            }
        } else if (kind == 1) {
            for (int i = random.nextInt(200); i >= 0; i--) {
                text.append((char) random.nextInt(256));
            }
        } else {
            text.append(TEXTS[random.nextInt(TEXTS.length)]);
            for (int i = random.nextInt(4); i > 0; i--) {
                int at = random.nextInt(text.length());
                text.replace(at, Math.min(text.length(), at + random.nextInt(3)), WORDS[random.nextInt(WORDS.length)]);
            }
        }
        return text.toString();
    }

    private int any() {
        int[] some = {0, 1, 2, 3, 7, 8, 10, 20, 100, 1000, 10000, 20000, -1, Integer.MAX_VALUE, Integer.MIN_VALUE, random.nextInt()};
        return some[random.nextInt(some.length)];
    }

    private void call() {
        calls++;
        switch (random.nextInt(16)) {
            case 0:
                house.feed(any(), any(), any(), any(), any());
                break;
            case 1:
                house.end(any());
                break;
            case 2:
            case 3:
                house.program();
                break;
            case 4:
                house.heap(any());
                break;
            case 5:
                house.input(any(), any(), any());
                break;
            case 6:
            case 7:
                house.start();
                break;
            case 8:
            case 9:
            case 10:
                house.step(any());
                break;
            case 11:
                house.result();
                break;
            case 12:
                house.output(any());
                break;
            default:
                house.count(any());
                break;
        }
    }
}
