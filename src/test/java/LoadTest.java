/** Promises 3 and 6: texts of the language, their faults, and where these are. */
public final class LoadTest {
    private static final String LONGEST = "abcdefghijklmnop";

    public static void main(String[] args) {
        tokens();
        syntax();
        roomOfDeclarations();
        roomOfOpenSigns();
        roomOfStrings();
        roomOfTokens();
        toldTwice();
        names();
        calls();
        objects();
        mains();
        firstFromTheLeft();
        oneTextBehindAnother();
        whatLoadingLeaves();
        Check.finish();
    }

    private static void tokens() {
        Check.loadsWell(Check.inMain("var int " + LONGEST + "; let " + LONGEST + " = 32767 + 00001 + 0;"));
        Check.loadFault(1, Check.inMain("var int ^" + LONGEST + "q;"));
        Check.loadFault(1, Check.inMain("var int x; let x = ^32768;"));
        Check.loadFault(1, Check.inMain("var int x; let x = ^000001;"));
        Check.loadFault(1, Check.inMain("var int x; let x = ^12a;"));
        Check.loadFault(1, Check.inMain("var int x; let x = ^1_;"));
        Check.loadsWell(Check.inMain("do Output.printString(\"" + Check.times(60, "~") + "\");"));
        Check.loadFault(1, Check.inMain("do Output.printString(^\"" + Check.times(61, " ") + "\");"));
        Check.loadFault(1, Check.inMain("do Output.printString(^\"a\nb\");"));
        Check.loadFault(1, Check.inMain("do Output.printString(^\"a\u007Fb\");"));
        Check.loadFault(1, Check.inMain("do Output.printString(^\"a\u0080b\");"));
        Check.loadFault(1, Check.inMain("do Output.printString(^\"ab);"));
        Check.loadFault(1, "class Main ^\u00E4 { }");
        Check.loadFault(1, "class Main ^# { }");
        Check.loadFault(1, "class Main ^\u0000 { }");
        Check.loadsWell("\t\r\n // x \u00FF /* \n/* // \n \u0000 */class/**/Main{function void main(){}}// end");
        Check.loadFault(1, Check.inMain("") + " ^/* / ");
        Check.loadFault(1, Check.inMain("") + " ^/*/");
        Check.loadFault(1, Check.inMain("") + " ^/");
        Check.loadsWell(Check.inMain("var int x; let x = x / /* y */ x / // z\n x;"));
        Check.loadsWell("class Main { function void main() { var int _, _a1; let _ = _a1; } }");
        Check.loadFault(1, "class ^while { }");
        Check.loadsWell("class While { } " + Check.inMain(""));
    }

    private static void syntax() {
        Check.loadFault(1, "^x");
        Check.loadFault(1, "class^");
        Check.loadFault(1, "class Main  ^");
        Check.loadFault(1, "class Main { function void main() { } ^");
        Check.loadFault(1, Check.inMain("") + " ^}");
        Check.loadFault(1, "class Main { static ^void x; }");
        Check.loadFault(1, "class Main { field int x^}");
        Check.loadFault(1, "class Main { field int x, ^; }");
        Check.loadFault(1, "class Main { function void f() { } ^static int x; }");
        Check.loadFault(1, "class Main { function f^() { } }");
        Check.loadFault(1, "class Main { function f^(int a) { } }");
        Check.loadFault(1, "class Main { function void f(int a, ^) { } }");
        Check.loadFault(1, "class Main { function void f(int a ^int b) { } }");
        Check.loadFault(1, "class Main { function void f(^void a) { } }");
        Check.loadFault(1, Check.inMain("return; ^var int x;"));
        Check.loadFault(1, Check.inMain("let ^this = 1;"));
        Check.loadFault(1, Check.inMain("let x ^1;"));
        Check.loadFault(1, Check.inMain("let x[1^;"));
        Check.loadFault(1, Check.inMain("let x = ^;"));
        Check.loadFault(1, Check.inMain("let x = 1 ^2;"));
        Check.loadFault(1, Check.inMain("let x = 1 + ^* 2;"));
        Check.loadFault(1, Check.inMain("let x = (1 + 2^;"));
        Check.loadFault(1, Check.inMain("let x = y[1]^[2];"));
        Check.loadFault(1, Check.inMain("let x = a.b^;"));
        Check.loadFault(1, Check.inMain("let x = a.b^.c();"));
        Check.loadFault(1, Check.inMain("if ^x { }"));
        Check.loadFault(1, Check.inMain("if (1) ^return;"));
        Check.loadFault(1, Check.inMain("if (1) { } else ^if (2) { }"));
        Check.loadFault(1, Check.inMain("^else { }"));
        Check.loadFault(1, Check.inMain("while (^) { }"));
        Check.loadFault(1, Check.inMain("do ^5;"));
        Check.loadFault(1, Check.inMain("do x^;"));
        Check.loadFault(1, Check.inMain("do x(1,^);"));
        Check.loadFault(1, Check.inMain("do x() ^+ 1;"));
        Check.loadFault(1, Check.inMain("return 1 ^return;"));
        Check.loadFault(1, Check.inMain("^x = 1;"));
        Check.loadsWell(Check.inMain("var int x; let x = -~-(x) + ~x * (-1); return -x;"));
        Check.loadsWell("class Main { function Main main() { if (true) { } else { } while (false) { } return null; } }");
    }

    private static void roomOfDeclarations() {
        String main = Check.inMain("");
        Check.loadsWell(Check.times(11, "class C# { } ") + main);
        Check.loadFault(2, Check.times(12, "class C# { } ") + "class ^Main { }");
        Check.loadFault(1, Check.times(12, "class C# { } ") + "class ^5 { }");
        String subs = "class A { " + Check.times(30, "function int f#() { } ") + "} class Main { function int main() { } ";
        Check.loadsWell(subs + Check.times(29, "method int f#() { } ") + "}");
        Check.loadFault(2, subs + Check.times(29, "method int f#() { } ") + "constructor int ^f() { } }");
        String eleven = "class A { static int " + Check.listed(11, "a#") + "; } ";
        Check.loadsWell(eleven + "class B { static int b; } " + main);
        Check.loadFault(2, eleven + "class B { static int b, ^c; } " + main);
        Check.loadFault(2, eleven + "class B { static int b; } class C { static int ^c; } " + main);
        String twelveFields = "{ field int " + Check.listed(12, "a#") + "; } ";
        Check.loadsWell("class A " + twelveFields + "class B " + twelveFields + main);
        Check.loadFault(2, "class A { field int " + Check.listed(12, "a#") + "; field int ^b; } " + main);
        String parameters = "function int f(" + Check.listed(12, "int a#");
        String vars = "var int " + Check.listed(12, "b#");
        Check.loadsWell("class A { " + parameters + ") { " + vars + "; } } " + main);
        Check.loadFault(2, "class A { " + parameters + ", int ^x) { } } " + main);
        Check.loadFault(2, "class A { " + parameters + ") { " + vars + "; var int ^x; } } " + main);
        Check.loadFault(2, "class A { " + parameters + ") { " + vars + ", ^x; } } " + main);
    }

    /** Within the class and its sub 23 more may be open. */
    private static void roomOfOpenSigns() {
        String x = "var int x; let x = ";
        Check.loadsWell(Check.inMain(x + Check.times(23, "(") + "1" + Check.times(23, ")") + ";"));
        Check.loadFault(2, Check.inMain(x + Check.times(23, "(") + "^(1" + Check.times(24, ")") + ";"));
        Check.loadFault(1, Check.inMain(x + Check.times(23, "(") + "1^(1" + Check.times(24, ")") + ";"));
        Check.loadsWell(Check.inMain(x + Check.times(23, "-") + "1 + " + Check.times(23, "~") + "1;"));
        Check.loadFault(2, Check.inMain(x + Check.times(23, "-") + "^~1;"));
        Check.loadFault(2, Check.inMain(x + Check.times(22, "-") + "(^-1);"));
        Check.loadsWell(Check.inMain(x + Check.times(23, "x[") + "1" + Check.times(23, "]") + ";"));
        Check.loadFault(2, Check.inMain(x + Check.times(23, "x[") + "x^[1" + Check.times(24, "]") + ";"));
        Check.loadsWell(Check.inMain(x + Check.times(23, "Math.abs(") + "1" + Check.times(23, ")") + ";"));
        Check.loadFault(2, Check.inMain(x + Check.times(23, "Math.abs(") + "Math.abs^(1" + Check.times(24, ")") + ";"));
        Check.loadsWell(Check.inMain(Check.times(23, "if (1) { ") + Check.times(23, "} ")));
        Check.loadFault(2, Check.inMain(Check.times(23, "if (1) { ") + "while ^(1) { }" + Check.times(23, "} ")));
        Check.loadsWell(Check.inMain(Check.times(22, "while (1) { ") + "let x = 1; " + Check.times(22, "} "))
            .replace("main() {", "main() { var int x;"));
        Check.loadFault(2, Check.inMain(Check.times(22, "while (1) { ") + "do Math.abs(^(1));" + Check.times(22, "} ")));
        // What is closed is open no more.
        Check.loadsWell("class A { " + Check.times(15, "function int f#(int a) { } ") + "} " + Check.times(10, "class C# { } ")
            + Check.inMain("var int x; " + Check.times(30, "let x[1] = x[2]; ") + "let x = -1" + Check.times(30, " + (-x)") + ";"
            + Check.times(15, " if (x) { } while (0) { }")));
        Check.loadsWell(Check.inMain("var int x; " + Check.times(30, "if (1) { } else { } do Math.abs(x); ")));
        Check.loadsWell("class Main { function int f(int a) { return " + Check.times(23, "(") + "a" + Check.times(23, ")")
            + "; } function void main() { } }");
    }

    private static void roomOfStrings() {
        String sixty = "do Output.printString(\"" + Check.times(60, "s") + "\"); ";
        Check.loadsWell(Check.inMain(Check.times(5, sixty)));
        Check.loadsWell(Check.inMain(Check.times(5, sixty) + "do Output.printString(\"\");"));
        Check.loadFault(2, Check.inMain(Check.times(5, sixty) + "do Output.printString(^\"s\");"));
        Check.loadFault(1, Check.inMain(Check.times(5, sixty) + "let ^\"s\";"));
    }

    /** Of the 1000 tokens of the text 19 stand around the sum. */
    private static void roomOfTokens() {
        String head = "class Main { function void main() { var int x; let x = ";
        String sum = "x" + Check.times(490, "+1");
        Check.loadsWell(head + sum + "; } }");
        Check.loadsWell(head + sum + "; } } // more");
        Check.loadFault(2, head + "-" + sum + "; } ^}");
        Check.loadFault(2, head + sum + "; } } ^class A { }");
        Check.loadFault(2, head + sum + "; } } ^;");
        Check.loadFault(1, head + sum + "; } } ^\"");
        Check.loadFault(1, head + sum + "; } } ^/* ");
        Check.loadFault(1, head + sum + "; } ^;");
        Check.loadFault(1, head + "-" + sum + "; }^");
    }

    private static void toldTwice() {
        String main = Check.inMain("");
        Check.loadFault(3, main + " class A { } class ^A { }");
        Check.loadFault(3, main + " class ^Math { }");
        Check.loadFault(3, main + " class ^Sys { }");
        Check.loadFault(3, "class Main { function void main() { } method int ^main(int a) { } }");
        Check.loadFault(3, "class A { static int a; field int ^a; } " + main);
        Check.loadFault(3, "class A { field int b, ^b; } " + main);
        Check.loadFault(3, "class A { function int f(int a, int ^a) { } } " + main);
        Check.loadFault(3, "class A { function int f(int a) { var int b, ^a; } } " + main);
        Check.loadFault(3, Check.inMain("var int c; var char ^c;"));
        Check.loadsWell("class A { static int A, f; function int f(int A) { var int f; return A + f; } } "
            + "class B { static int A; function int f(int A) { } } " + main);
        // What is meant is the first one, the system's ahead of the text's.
        Check.loadFault(4, Check.inMain("var A a; do a.^g();") + "class A { method int f() { } } class A { method int g() { } }");
        Check.loadFault(3, Check.inMain("var A a; do a.f();") + "class A { method int f() { } } class ^A { }");
        Check.loadFault(4, Check.inMain("do String.^f();") + "class String { function int f() { } }");
        Check.loadFault(5, Check.inMain("do A.^f(1);") + "class A { function int f() { } function int f(int a) { } }");
    }

    private static void names() {
        String main = Check.inMain("");
        Check.loadFault(4, "class A { static ^B b; } " + main);
        Check.loadFault(4, "class A { field ^math b; } " + main);
        Check.loadFault(4, "class A { method ^B f() { } } " + main);
        Check.loadFault(4, "class A { method int f(^B b) { } } " + main);
        Check.loadFault(4, Check.inMain("var ^B b;"));
        Check.loadsWell("class A { static Main m; field Keyboard k; method Sys f(A a) { var Screen s; } } " + main);
        Check.loadFault(4, Check.inMain("let ^x = 1;"));
        Check.loadFault(4, Check.inMain("let ^Main = 1;"));
        Check.loadFault(4, Check.inMain("let ^x[1] = 1;"));
        Check.loadFault(4, Check.inMain("return 1 + ^x;"));
        Check.loadFault(4, Check.inMain("return ^x[1];"));
        Check.loadFault(4, Check.inMain("return ^Main;"));
        Check.loadFault(4, "class A { function int f() { var int x; return x; } function int g() { return ^x; } } " + main);
        Check.loadFault(4, "class A { static int s; } class B { function int f() { return ^s; } } " + main);
        Check.loadFault(4, Check.inMain("do ^x.f();"));
        Check.loadFault(4, "class A { static int a, b; } class B { function int f() { var int x, y, z; } function int g() {"
            + " return ^x; } } " + main);
        Check.loadFault(3, "class A { static int a, b; } class B { function int f(int c, int ^c) { } } " + main);
        Check.loadFault(4, Check.inMain("do Main.^f();"));
        Check.loadFault(4, Check.inMain("do Math.^length();"));
        Check.loadFault(4, Check.inMain("var int i; do i.^f();"));
        Check.loadFault(4, Check.inMain("var boolean Math; do Math.^abs(1);"));
        Check.loadFault(4, Check.inMain("do ^f();"));
        Check.loadFault(4, "class A { method int f() { do ^g(); } } " + main);
        Check.loadFault(4, "class A { method int f() { do ^length(); } } " + main);
    }

    private static void calls() {
        String main = Check.inMain("");
        Check.loadFault(5, Check.inMain("do String.^length();"));
        Check.loadFault(5, Check.inMain("var String s; do s.^new(1);"));
        Check.loadFault(5, Check.inMain("var Math m; do m.^abs(1);"));
        Check.loadFault(5, "class A { method int f() { do ^g(); } function int g() { } } " + main);
        Check.loadFault(5, "class A { method int f() { do ^g(); } constructor int g() { } } " + main);
        Check.loadFault(5, "class A { method int f() { do A.^f(); } } " + main);
        Check.loadFault(5, "class A { constructor A new() { do f(1); do ^f(); } method int f(int a) { } } " + main);
        Check.loadFault(5, Check.inMain("do Math.^abs();"));
        Check.loadFault(5, Check.inMain("do Math.^max(1, 2, 3);"));
        Check.loadFault(5, Check.inMain("var Array a; do a.^dispose(1);"));
        Check.loadFault(5, Check.inMain("do Screen.^drawLine(1, 2, 3);"));
        Check.loadsWell(Check.inMain("var A a; let a = A.new(A.f()); do a.g(1, 2); ")
            + "class A { constructor A new(int a) { do g(1, 2); } function int f() { } method int g(int a, int b) { } }");
        String all = "do Math.abs(1); do Math.min(1, 2); do Math.max(1, 2); do Math.multiply(1, 2); do Math.divide(1, 2);"
            + " do Math.sqrt(1); do Memory.peek(1); do Memory.poke(1, 2); do Memory.alloc(1); do Memory.deAlloc(1);"
            + " do Array.new(1); do a.dispose(); do String.new(1); do s.length(); do s.charAt(1); do s.setCharAt(1, 2);"
            + " do s.appendChar(1); do s.eraseLastChar(); do s.intValue(); do s.setInt(1); do s.dispose();"
            + " do String.newLine(); do String.doubleQuote(); do String.backSpace();";
        Check.loadsWell(Check.inMain("var Array a; var String s; " + all));
        Check.loadsWell(Check.inMain("do Output.printChar(1); do Output.printString(1); do Output.printInt(1);"
            + " do Output.println(); do Keyboard.keyPressed(); do Keyboard.readChar(); do Keyboard.readLine(1);"
            + " do Screen.clearScreen(); do Screen.setColor(1); do Screen.drawPixel(1, 2); do Screen.drawLine(1, 2, 3, 4);"
            + " do Screen.drawRectangle(1, 2, 3, 4); do Screen.drawCircle(1, 2, 3); do Sys.halt(); do Sys.error(1);"
            + " do Sys.wait(1);"));
    }

    private static void objects() {
        String main = Check.inMain("");
        Check.loadFault(6, "class A { field int x; function int f() { return ^x; } } " + main);
        Check.loadFault(6, "class A { field int x; function int f() { let ^x = 1; } } " + main);
        Check.loadFault(6, "class A { field int x; function int f() { let ^x[1] = 1; } } " + main);
        Check.loadFault(6, "class A { field String x; function int f() { do ^x.dispose(); } } " + main);
        Check.loadFault(6, "class A { function A f() { return ^this; } } " + main);
        Check.loadFault(6, "class A { function A f() { do ^g(); } method int g() { } } " + main);
        Check.loadFault(5, "class A { function A f() { do ^g(); } function int g() { } } " + main);
        Check.loadFault(5, "class A { function A f() { do ^g(1); } method int g() { } } " + main);
        Check.loadsWell("class A { field int x; function int f(int x) { let x = x; return x; } } " + main);
        Check.loadsWell("class A { field int x; constructor A f() { let x = x; do g(); return this; }"
            + " method int g() { let x = x; do g(); do this2(); return this; } method int this2() { } } " + main);
    }

    private static void mains() {
        Check.loadFault(7, "^");
        Check.loadFault(7, "class A { function void main() { } }  ^");
        Check.loadFault(7, "class Main { method void main() { } }^");
        Check.loadFault(7, "class Main { constructor Main main() { } }^");
        Check.loadFault(7, "class Main { function void main(int a) { } }^");
        Check.loadFault(7, "class Main { function void Main() { } } // x^");
        Check.loadFault(3, "class Main { method void main() { } function void ^main() { } }");
    }

    private static void firstFromTheLeft() {
        Check.loadFault(1, Check.inMain("let x = y; ^let2;"));
        Check.loadFault(2, "class Math { } " + Check.times(11, "class C# { } ") + "class ^D { }");
        Check.loadFault(5, Check.inMain("do Math.^abs(x, y);"));
        Check.loadFault(4, Check.inMain("do Math.abs(^x); do Math.abs(1, 2);"));
        Check.loadFault(4, "class A { function ^B f() { return this; } } class A { }");
        Check.loadFault(6, "class A { function A f() { return ^this; } } class A { }");
        Check.loadFault(3, "class A { } class ^A { function A f() { return this; } }");
        Check.loadFault(4, Check.inMain("do ^g(x);"));
    }

    /** Nothing of a text is left in the next one. */
    private static void oneTextBehindAnother() {
        TowerComputer x = new TowerComputer();
        String full = Check.times(11, "class C# { static int s; function int f() { } method int g() { } } ") + Check.inMain("");
        for (int i = 0; i < 3; i++) {
            Check.due("load of a full text", Check.load(x, full), 0);
            Check.due("load of a fault within open signs", Check.load(x, Check.inMain("if (1) { while (1) { let x = ((((-(5 5;")), 1);
            Check.due("load of a class without subs", Check.load(x, "class C0 { } " + Check.inMain("do C0.f();")), 4);
            Check.due("load of two classes without subs", Check.load(x, "class A { } class C1 { } class C2 { function int h() { } } "
                + Check.inMain("do C1.h();")), 4);
            Check.due("load of signs as deep as may be", Check.load(x, Check.inMain("var int x; let x = " + Check.times(23, "(")
                + "1" + Check.times(23, ")") + ";")), 0);
            Check.due("load without Main", Check.load(x, "class A { }"), 7);
            Check.due("load of a sub without a name", Check.load(x, "class A { function int f(int a, int b, int c) { } } x"), 1);
            Check.due("load of a sub without a name", Check.load(x, "class Main { function void 5"), 1);
            Check.due("load of all of Sys", Check.load(x, Check.inMain("do Sys.halt(); do Sys.error(1); do Sys.wait(1);")), 0);
            Check.due("load without the first {", Check.load(x, "class A ["), 1);
            Check.due("load of signs that are too deep", Check.load(x, Check.inMain("var int x; let x = " + Check.times(24, "-")
                + "1;")), 2);
            Check.due("load of the longest strings", Check.load(x, Check.inMain(Check.times(5, "do Output.printString(\""
                + Check.times(60, "x") + "\"); "))), 0);
        }
    }

    private static void whatLoadingLeaves() {
        TowerComputer x = Check.mainProgram("do Output.printInt(7 / 0);");
        Check.signs(x, "@5\nD=A");
        Check.chips(x, "CHIP A { IN a; OUT o; PARTS: Nand(a=a, b=a, out=o); }");
        x.run(10);
        Check.due("place() behind an error", x.place(), 36);
        Check.due("load", Check.load(x, Check.inMain("let x = 1;")), 4);
        Check.due("place() behind a fault", x.place(), 40);
        Check.due("error() behind load", x.error(), 3);
        Check.due("count(1) behind load", x.count(1), 2);
        Check.due("count(2) behind load", x.count(2), 1);
        Check.due("go behind load", x.go(10), 2);
        Check.due("pin behind load", x.pin(0), 1);
        Check.due("run without a program", x.run(10), -1);
        Check.due("load", Check.load(x, Check.inMain("")), 0);
        Check.due("place() without a fault", x.place(), -1);
        Check.due("count(7)", x.count(7), 1);
        Check.due("signs with a fault", Check.signs(x, " @"), 1);
        Check.due("place() of signs", x.place(), 1);
        Check.due("count(7) behind signs", x.count(7), 1);
        Check.due("chips with a fault", Check.chips(x, "  x"), 1);
        Check.due("place() of chips", x.place(), 2);
        Check.due("run", x.run(10), 0);
        Check.due("place() behind END 0", x.place(), -1);
    }
}
