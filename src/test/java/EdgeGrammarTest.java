/** Boundaries of reading: none, one and more of each part, and the first word that can't stand there. */
public final class EdgeGrammarTest {
    private static final Due DUE = new Due("edges of reading");
    private static final String MAIN = "class Main { int main() { return 1; } }";

    public static void main(String[] args) {
        classes();
        members();
        parameters();
        blocks();
        variables();
        branches();
        works();
        tries();
        gifts();
        joins();
        related();
        ones();
        firsts();
        arguments();
        lackingWords();
        firstOfSeveral();
        DUE.close();
    }

    private static void in(String marked) {
        DUE.wrongAt(Due.main(marked));
    }

    /** It must be read, whatever checking says of it. */
    private static void read(String body) {
        String text = Due.main(body);
        int answer = Due.load(new ClassHouse(), text);
        DUE.is("is read: " + text, answer > 0 || answer <= -10000 ? 1 : 0, 1);
    }

    private static void classes() {
        DUE.sentence("PROGRAM: one or more: class NAME, perhaps : NAME (its PARENT), { MEMBERS }.");
        DUE.wrongAt("^");
        DUE.wrongAt(" \n^");
        DUE.fine(MAIN, 1);
        DUE.fine(MAIN + MAIN.replace("Main", "A"), 2);
        DUE.fine("class A{}class B:A{}" + MAIN, 3);
        DUE.wrongAt("^A { }");
        DUE.wrongAt("class ^{ }");
        DUE.wrongAt("class ^: A { }");
        DUE.wrongAt("class A ^B { }");
        DUE.wrongAt("class A : ^{ }");
        DUE.wrongAt("class A : B ^, C { }");
        DUE.wrongAt("class A : ^: B { }");
        DUE.wrongAt("class A ^; ");
        DUE.wrongAt("class A { }^; " + MAIN);
        DUE.wrongAt("class A { } ^} " + MAIN);
        DUE.wrongAt("class A { ^" + MAIN);
    }

    private static void members() {
        DUE.sentence("MEMBER: TYPE NAME ; (a FIELD), or TYPE or void, NAME ( PARAMETERS ) BLOCK (a METHOD).");
        DUE.fine("class A { } class B { int a; } class C { int a; bool b; void f() { } ints c; int g() { return 1; } }" + MAIN, 4);
        DUE.wrongAt("class A { a^; }");
        DUE.wrongAt("class A { int a^} ");
        DUE.wrongAt("class A { int ^int; }");
        DUE.wrongAt("class A { int a ^b; }");
        DUE.wrongAt("class A { int a^[1]; }");
        DUE.wrongAt("class A { int a ^= 1; }");
        DUE.wrongAt("class A { int a^, b; }");
        DUE.wrongAt("class A { int a;^; }");
        DUE.wrongAt("class A { void a^; }");
        DUE.wrongAt("class A { void ^void a; }");
        DUE.wrongAt("class A { void ^() { } }");
        DUE.wrongAt("class A { f^() { } }");
        DUE.wrongAt("class A { int f()^; }");
        DUE.wrongAt("class A { int f() ^return 1; }");
        DUE.wrongAt("class A { int f() { }^; }");
        DUE.wrongAt("class A { ^print 1; }");
        DUE.wrongAt("class A { ^{ } }");
    }

    private static void parameters() {
        DUE.sentence("PARAMETERS: none, or TYPE NAME with , between. TYPE: int, bool, ints, or a NAME.");
        DUE.fine("class A { void f() { } void g(int a) { } void h(int a, bool b) { } void i(ints a, A b, Main c) { } }" + MAIN, 2);
        DUE.wrongAt("class A { void f(^,) { } }");
        DUE.wrongAt("class A { void f(int^) { } }");
        DUE.wrongAt("class A { void f(a^) { } }");
        DUE.wrongAt("class A { void f(int a^;) { } }");
        DUE.wrongAt("class A { void f(int a ^int b) { } }");
        DUE.wrongAt("class A { void f(int a, ^) { } }");
        DUE.wrongAt("class A { void f(int a, b^) { } }");
        DUE.wrongAt("class A { void f(int a,^, int b) { } }");
        DUE.wrongAt("class A { void f(^void a) { } }");
        DUE.wrongAt("class A { void f(^1) { } }");
        DUE.wrongAt("class A { void f(int ^1) { } }");
        DUE.wrongAt("class A { void f(int a^{ } }");
        DUE.wrongAt("class A { void f^{ } }");
    }

    private static void blocks() {
        DUE.sentence("BLOCK: { STATEMENTS }, none or more.");
        DUE.fine("class A { void f() { } void g() { f(); } void h() { f(); g(); } }" + MAIN, 2);
        in("^{ }");
        in("^;");
        in("print 1;^;");
        DUE.wrongAt("class A { void f() { ^");
        DUE.wrongAt("class A { void f() { } ^");
        DUE.wrongAt("class A { void f() { f(); ^");
    }

    private static void variables() {
        DUE.sentence("STATEMENT: TYPE NAME ; or TYPE NAME = EXPRESSION ; (where a NAME is followed by a NAME, too);");
        DUE.fine(Due.main("int a; bool b; ints c; Main d; int e = 1; bool f = true; ints g = null; Main h = null; return 1;"), 1);
        in("int^;");
        in("int ^1;");
        in("int ^= 1;");
        in("int a ^b;");
        in("int a^}");
        in("int a^, b;");
        in("int a = ^;");
        in("int a = 1 ^b;");
        in("int a = 1^}");
        in("int a ^+ 1;");
        in("int^[1] = 2;");
        in("int^.x = 1;");
        in("Main a ^b;");
        in("Main ^int a;");
        in("Main a = ^= 1;");
        in("Main a ^(");
        in("Main^;");
        in("Main ^1;");
        in("ints a^[1];");
        in("^void a;");
        read("Nope a;");
        read("Nope a = 1;");
    }

    private static void branches() {
        DUE.sentence("if ( EXPRESSION ) BLOCK, perhaps else BLOCK; while ( EXPRESSION ) BLOCK;");
        DUE.fine(Due.main("if (true) { } if (true) { } else { } while (false) { } return 1;"), 1);
        for (String word : new String[] {"if", "while"}) {
            in(word + " ^true { }");
            in(word + " ^{ }");
            in(word + " (^) { }");
            in(word + " (true^{ }");
            in(word + " (true^, false) { }");
            in(word + " (true^; false) { }");
            in(word + " (true ^= false) { }");
            in(word + " (true) ^print 1;");
            in(word + " (true)^;");
            in(word + " (^int a) { }");
            in(word + " (true) { }^; print 1;");
        }
        in("if (true) { } else ^if (true) { }");
        in("if (true) { } else ^print 1;");
        in("if (true) { } else ^(true) { }");
        in("if (true) { } else { } ^else { }");
        in("while (true) { } ^else { }");
        in("^else { }");
    }

    private static void works() {
        DUE.sentence("return ; or return EXPRESSION ; throw EXPRESSION ;");
        DUE.fine("class A { void f() { return; } int g() { return 1; } int h() { throw this; } void i() { print 1; } }" + MAIN, 2);
        in("return^}");
        in("return 1^}");
        in("return 1^, 2;");
        in("return ^int;");
        in("return ^return;");
        in("return 1;^;");
        in("throw^;");
        in("throw this^}");
        in("throw ^throw this;");
        DUE.sentence("print EXPRESSION ;");
        in("print^;");
        in("print 1^}");
        in("print 1^, 2;");
        in("print ^print 1;");
    }

    private static void tries() {
        DUE.sentence("try BLOCK catch ( NAME NAME ) BLOCK;");
        DUE.fine(Due.main("try { } catch (Zero z) { } try { print 1; } catch (Main m) { print 2; } return 1;"), 1);
        in("try ^print 1;");
        in("try ^(true) { }");
        in("try { }^; catch (Zero z) { }");
        in("try { } ^print 1;");
        in("try { } ^}");
        in("try { } ^else { }");
        in("try { } catch ^{ }");
        in("try { } catch (^) { }");
        in("try { } catch (Zero^) { }");
        in("try { } catch (Zero z ^z) { }");
        in("try { } catch (Zero z^, Null n) { }");
        in("try { } catch (^int z) { }");
        in("try { } catch (^ints z) { }");
        in("try { } catch (Zero ^int) { }");
        in("try { } catch (Zero z)^; ");
        in("try { } catch (Zero z) { } ^catch (Null n) { }");
        in("^catch (Zero z) { }");
        read("try { } catch (Nope z) { }");
    }

    private static void gifts() {
        DUE.sentence("else an EXPRESSION, which is a CALL, and ; or which is a PLACE (a NAME, E . NAME, E [ E ]), = EXPRESSION ;");
        for (String call : new String[] {"f()", "f(1)", "this.f()", "a.b.f()", "r[1].f()", "new A.f()", "(a).f()", "f().f()", "(f())", "((a.f()))", "1.f()", "(1 + 2).f()"}) {
            read(call + ";");
            in(call + " ^= 1;");
            in(call + " ^}");
        }
        for (String place : new String[] {"a", "this.a", "a.b", "a.b.c", "f().a", "r[1]", "a.r[1]", "f()[1]", "r[1][2]", "(a)", "((a.b))", "(r[1])", "1.a", "1[2]", "a.size", "new A.b", "(1 + 2).a"}) {
            read(place + " = 1;");
            in(place + "^;");
            in(place + " ^}");
            in(place + " = ^;");
            in(place + " = 1^}");
            in(place + " = 1 ^= 2;");
            in(place + " ^, a;");
        }
        for (String none : new String[] {"1", "true", "false", "null", "this", "read", "new A", "new ints[1]", "-a", "!a", "- -a", "a + b", "a - b", "a * b", "a / b", "a % b",
            "a < b", "a <= b", "a == b", "a != b", "a && b", "a || b", "a is A", "a as A", "f() as A", "f() is A", "-f()", "!f()", "1 + f()", "f() + 1", "a && f()", "(1)", "(a + b)", "(a as A)",
            "a.b + a.b", "true || a.b", "1 + r[1]"}) {
            in(none + "^;");
            in(none + " ^= 1;");
            in(none + " ^}");
        }
    }

    private static void joins() {
        DUE.sentence("EXPRESSION: ANDS with || between; AND: EQUALS with && between;");
        read("print a || b || c && d && e || f;");
        in("print ^|| a;");
        in("print a || ^;");
        in("print a || ^|| b;");
        in("print ^&& a;");
        in("print a && ^;");
        in("print a && ^|| b;");
        in("print a || ^&& b;");
        // && binds more closely than ||, from the left.
        DUE.prints(Due.main("print true || true && false; print (true || true) && false; print false && false || true; print false && (false || true); return 1;"), 1, 0, 1, 0);
    }

    private static void related() {
        DUE.sentence("EQUAL: RELATED, perhaps == or != and one more; RELATED: SUM, perhaps < or <= and a SUM, or is NAME;");
        String[] equals = {"==", "!="};
        String[] orders = {"<", "<="};
        for (String one : equals) {
            read("print a " + one + " b && c " + one + " d || e " + one + " f;");
            read("print (a " + one + " b) " + one + " c;");
            in("print a " + one + " ^;");
            in("print ^" + one + " a;");
            for (String two : equals) {
                in("print a " + one + " b ^" + two + " c;");
                in("print a < 1 " + one + " b ^" + two + " c;");
            }
            for (String order : orders) {
                read("print a " + order + " b " + one + " c " + order + " d;");
                in("print a " + order + " b " + one + " c " + order + " d ^" + one + " e;");
                in("print a " + order + " b " + one + " c " + order + " d ^" + order + " e;");
            }
            read("print a is A " + one + " b is B;");
        }
        for (String one : orders) {
            for (String two : orders) {
                in("print a " + one + " b ^" + two + " c;");
                read("print (a " + one + " b) " + two + " c;");
            }
            in("print a " + one + " b ^is A;");
            in("print a is A ^" + one + " b;");
            in("print a " + one + " ^;");
        }
        in("print a is ^;");
        in("print a is ^1;");
        in("print a is ^int;");
        in("print a is ^(A);");
        in("print a is A ^is A;");
        for (String behind : new String[] {"+ 1", "- 1", "* 1", "/ 1", "% 1", ".a", "[1]", "as A", "(1)", "! a"}) {
            in("print a is A ^" + behind + ";");
        }
    }

    private static void ones() {
        DUE.sentence("SUM: PRODUCTS with + or -; PRODUCT: ONES with * / or %; (all from the left);");
        for (String sign : new String[] {"+", "*", "/", "%"}) {
            in("print ^" + sign + " a;");
            in("print a " + sign + " ^;");
            in("print a " + sign + " ^" + sign + " b;");
            in("print -^" + sign + " a;");
        }
        in("print a - ^;");
        read("print a - - b;");
        DUE.prints(Due.main("print 10 - 3 - 2; print 10 - (3 - 2); print 100 / 10 / 5; print 100 / (10 / 5); print 2 + 3 * 4; print (2 + 3) * 4; print 7 % 4 * 2; print 7 * 4 % 5;"
            + " print 20 - 2 * 3 - 4; print 1 - 2 + 3; return 1;"), 5, 9, 2, 50, 14, 20, 6, 3, 10, 2);
        DUE.sentence("ONE: - ONE, ! ONE, or a FIRST with any number behind it of: . NAME, . NAME ( ARGUMENTS ), [ EXPRESSION ], as NAME.");
        read("print - - ! ! - a.b.c().d[1][2] as A as B . x;");
        in("print -^;");
        in("print !^;");
        in("print - ^= 1;");
        in("print a ^! b;");
        in("print a.^;");
        in("print a.^1;");
        in("print a.^int;");
        in("print a.^(b);");
        in("print a.^.b;");
        in("print a[^];");
        in("print a[1^;");
        in("print a[1^, 2];");
        in("print a[1^);");
        in("print a as ^;");
        in("print a as ^ints;");
        in("print a as ^1;");
        in("print a as A^(1);");
        in("print a[1]^(2);");
        // as and what else stands behind a FIRST bind more closely than - and !.
        DUE.prints("class Main { int i; int main() { i = 5; print -this.i; print -(this as Main).i; print -this as Main.i; return 1; } }", -5, -5, -5);
    }

    private static void firsts() {
        DUE.sentence("FIRST: a NUMBER, true, false, null, this, read, NAME, NAME ( ARGUMENTS ) (a CALL of this), ( EXPRESSION ), new NAME, new ints [ EXPRESSION ].");
        for (String first : new String[] {"1", "true", "false", "null", "this", "read", "a", "a()", "(a)", "new A", "new ints[1]"}) {
            read("print " + first + ";");
            read("print " + first + ".a;");
            read("print " + first + "[1] as A;");
            in("print " + first + " ^1;");
            in("print " + first + " ^true;");
            in("print " + first + " ^a;");
            in("print " + first + " ^new A;");
        }
        for (String one : new String[] {"1", "true", "false", "null", "this", "read", "new A", "new ints[1]", "(a)", "a()"}) {
            in("print " + one + " ^(1);");
        }
        for (String none : new String[] {"class", "int", "bool", "ints", "void", "if", "else", "while", "return", "throw", "try", "catch", "print", "as", "is",
            ")", "]", "{", "}", ";", ",", ".", ":", "=", "==", "!=", "<", "<=", "+", "*", "/", "%", "&&", "||"}) {
            in("print ^" + none + " a;");
            in("print 1 + ^" + none + " a;");
            in("print (^" + none + " a);");
        }
        in("print (^);");
        in("print (a^;");
        in("print (a ^];");
        in("print (a^, b);");
        in("print new ^;");
        in("print new ^1;");
        in("print new ^int;");
        in("print new ^bool[1];");
        in("print new ^(A);");
        in("print new ints^;");
        in("print new ints^(1);");
        in("print new ints[^];");
        in("print new ints[1^;");
    }

    private static void arguments() {
        DUE.sentence("ARGUMENTS: none, or EXPRESSIONS with , between. ( ) alone make nothing.");
        for (String call : new String[] {"f", "this.f"}) {
            read(call + "(); " + call + "(1); " + call + "(1, 2); " + call + "(1, 2 + 3, f(4, 5), -6);");
            in(call + "(^, 1);");
            in(call + "(1^;");
            in(call + "(1, ^);");
            in(call + "(1 ^2);");
            in(call + "(1,^, 2);");
            in(call + "(1^];");
            in(call + "(^int a);");
            in(call + "(1^; 2);");
        }
        DUE.prints("class Main { int x; void f() { print 3; } int main() { (x) = 4; ((this).x) = x + 1; (f()); ((this).f()); print ((x)); return (((1))); } }", 3, 3, 5);
    }

    private static void lackingWords() {
        DUE.sentence("the first byte of a word that can't stand there (the TAPE's length, if one lacks; a byte that begins no word; ten digits;"
            + " the = behind what is no PLACE, the ; behind what is no CALL)");
        String text = "class Main:Zero{Zero z;int main(int a,Main b){try{if(a<1){b.z=null;}else{ints r=new ints[a];}}catch(Null n){while(true){print-1;}}return main(1,this as Main);}}";
        // Cut at each place, a text lacks a word there, if it is not a NAME's or a longer sign's first half that stands there.
        int lacking = 0;
        for (int cut = 0; cut < text.length(); cut++) {
            int answer = Due.load(new ClassHouse(), text.substring(0, cut));
            boolean atTheEnd = answer == -1 - cut;
            int lastWord = cut;
            while (lastWord > 0 && Character.isLetter(text.charAt(lastWord - 1))) {
                lastWord--;
            }
            DUE.is("cut at " + cut, atTheEnd || answer == -1 - lastWord ? 1 : 0, 1);
            answer = Due.load(new ClassHouse(), text.substring(0, cut) + "  \n");
            DUE.is("cut with blanks at " + cut, answer == -1 - (cut + 3) || answer == -1 - lastWord ? 1 : 0, 1);
            lacking += atTheEnd ? 1 : 0;
        }
        DUE.is("most cuts are told by the TAPE's length", lacking > text.length() / 2 ? 1 : 0, 1);
        DUE.is("the whole text is read", Due.load(new ClassHouse(), text), -10000 - text.length());
        for (String odd : new String[] {"#", "$", "&", "|", ">", "@", "\"", "'", "?", "\\", "~", "`", "_", "\t", "\r", "\0", "\u007f", "\u00ff", "1234567890"}) {
            in("print 1 + ^" + odd + ";");
            in("^" + odd);
            in("print 1 ^" + odd + ";");
        }
    }

    /** Of several places the first one counts, as they are read. */
    private static void firstOfSeveral() {
        DUE.sentence("A program is WRONG at the first place (as it is read)");
        in("print ^+; print #; print 1234567890;");
        in("print 1; print ^#; print +;");
        in("print ^1234567890; print #;");
        in("1 ^= 2; 3;");
        in("1^; 2 = 3;");
        in("print (1 + ^); print #");
        DUE.wrongAt("class A { int f( ^} #");
        DUE.wrongAt("class A { } ^# class");
        DUE.wrongAt("class A { } class A { } class B : C { int x; int x; void f() { return 1; ^+ } }");
    }
}
