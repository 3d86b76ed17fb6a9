/** The boundaries under 'COMMANDS' and of promise 12: a test at each, one below it and one beyond it. */
public final class CommandEdgesTest {
    private static final String MAIN = " class Main { function void main() { } }";
    private static final String OF_MAIN = ", push constant 0, return";

    public static void main(String[] args) {
        numbersOfClasses();
        numbersOfSubs();
        fieldsOfConstructors();
        numbersOfParameters();
        numbersOfVars();
        numbersOfStatics();
        numbersOfFields();
        valuesOfCalls();
        labels();
        labelsOfEachSub();
        constants();
        strings();
        endsOfSubs();
        whichCommand();
        whichNumber();
        longestTexts();
        Check.finish();
    }

    private static void made(String text, String want) {
        Check.due("commands of " + Check.shortened(text), CommandTest.all(Check.program(text)), want);
    }

    /** The text's classes are 8, 9, .., and there are up to 12 of them. */
    private static void numbersOfClasses() {
        for (int n : new int[] {0, 1, 10, 11}) {
            StringBuilder want = new StringBuilder();
            for (int i = 0; i < n; i++) {
                want.append("function ").append(800 + 100 * i).append(" 0, push constant 0, return, ");
            }
            made(Check.times(n, "class C# { function int f() { } } ") + MAIN, want + "function " + (800 + 100 * n) + " 0" + OF_MAIN);
        }
        made("class A { } class B { }" + MAIN, "function 1000 0" + OF_MAIN);
    }

    /** A class's subs are 0, 1, .., and there are up to 60 of them. */
    private static void numbersOfSubs() {
        for (int n : new int[] {1, 58, 59}) {
            StringBuilder want = new StringBuilder();
            for (int i = 0; i <= n; i++) {
                want.append("function ").append(800 + i).append(" 0, ").append(i == n ? "call " + (800 + n - 1) + " 0, pop temp 0, " : "")
                    .append("push constant 0, return").append(i == n ? "" : ", ");
            }
            made("class Main { " + Check.times(n, "function int f#() { } ") + "function void main() { do Main.f" + (n - 1) + "(); } }",
                want.toString());
        }
    }

    /** A constructor: as many words as its class has fields, 1 at least. */
    private static void fieldsOfConstructors() {
        for (int n : new int[] {0, 1, 2, 11, 12}) {
            made("class A { " + Check.times(n, "field int f#; ") + "constructor A new() { } }" + MAIN, "function 800 0, push constant "
                + Math.max(1, n) + ", call 102 1, pop pointer 0, push constant 0, return, function 900 0" + OF_MAIN);
        }
        made("class A { static int s, t; field int a; constructor A new() { } }" + MAIN,
            "function 800 0, push constant 1, call 102 1, pop pointer 0, push constant 0, return, function 900 0" + OF_MAIN);
    }

    /** Parameters are argument 0, 1, .., of a method 1, 2, .. */
    private static void numbersOfParameters() {
        String[][] kinds = {{"function", ""}, {"method", "push argument 0, pop pointer 0, "},
            {"constructor", "push constant 1, call 102 1, pop pointer 0, "}};
        for (String[] kind : kinds) {
            int first = kind[0].equals("method") ? 1 : 0;
            for (int n : new int[] {1, 2, 11, 12}) {
                made("class A { " + kind[0] + " int f(" + Check.listed(n, "int p#") + ") { let p" + (n - 1) + " = p0; } }" + MAIN,
                    "function 800 0, " + kind[1] + "push argument " + first + ", pop argument " + (first + n - 1)
                    + ", push constant 0, return, function 900 0" + OF_MAIN);
            }
        }
    }

    private static void numbersOfVars() {
        for (int n : new int[] {0, 1, 2, 11, 12}) {
            made(Check.inMain(Check.times(n, "var int v#; ") + (n == 0 ? "" : "let v" + (n - 1) + " = v0;")), "function 800 " + n + ", "
                + (n == 0 ? "" : "push local 0, pop local " + (n - 1) + ", ") + "push constant 0, return");
        }
    }

    /** Statics of a class are static 0, 1, .., in each class anew. */
    private static void numbersOfStatics() {
        made("class A { static int " + Check.listed(12, "s#") + "; function int f() { let s11 = s0; } }" + MAIN,
            "function 800 0, push static 0, pop static 11, push constant 0, return, function 900 0" + OF_MAIN);
        made("class A { static int " + Check.listed(11, "s#") + "; function int f() { let s10 = s0; } } class B { field int f;"
            + " static int t; function int f() { let t = t; } }" + MAIN,
            "function 800 0, push static 0, pop static 10, push constant 0, return, "
            + "function 900 0, push static 0, pop static 0, push constant 0, return, function 1000 0" + OF_MAIN);
        // The same number in two classes is not the same static.
        Check.due("statics of two classes", Runs.runOf("class A { static int " + Check.listed(11, "s#") + "; function int f() {"
            + " let s0 = 5; let s10 = 6; return s0; } function int g() { return s0 * 10 + s10; } } class Main { static int t;"
            + " function void main() { let t = 7; do A.f(); do Output.printInt(t * 100 + A.g()); } }"), "756");
    }

    private static void numbersOfFields() {
        for (int n : new int[] {1, 2, 11, 12}) {
            made("class A { field int " + Check.listed(n, "f#") + "; static int s; method int m() { let f" + (n - 1) + " = f0; } }" + MAIN,
                "function 800 0, push argument 0, pop pointer 0, push this 0, pop this " + (n - 1)
                + ", push constant 0, return, function 900 0" + OF_MAIN);
        }
    }

    /** CALL: a sub and how many values, with the object. */
    private static void valuesOfCalls() {
        for (int n : new int[] {0, 1, 11, 12}) {
            String values = Check.times(n, "push constant 7, ");
            String parameters = Check.listed(n, "int p#");
            String sevens = Check.listed(n, "7");
            made("class A { function int f(" + parameters + ") { do A.f(" + sevens + "); } }" + MAIN, "function 800 0, " + values
                + "call 800 " + n + ", pop temp 0, push constant 0, return, function 900 0" + OF_MAIN);
            made("class A { method int f(" + parameters + ") { do f(" + sevens + "); } }" + MAIN,
                "function 800 0, push argument 0, pop pointer 0, push pointer 0, " + values + "call 800 " + (n + 1)
                + ", pop temp 0, push constant 0, return, function 900 0" + OF_MAIN);
            made("class A { method int f(" + parameters + ") { var A a; do a.f(" + sevens + "); } }" + MAIN,
                "function 800 1, push argument 0, pop pointer 0, push local 0, " + values + "call 800 " + (n + 1)
                + ", pop temp 0, push constant 0, return, function 900 0" + OF_MAIN);
        }
    }

    private static String ifOf(int label) {
        return "push constant 1, push constant 0, eq, if " + label + ", label " + label + ", ";
    }

    /** An if and a while take two labels when they begin, also where one of them is not told. */
    private static void labels() {
        for (int n : new int[] {1, 2, 100}) {
            StringBuilder want = new StringBuilder("function 800 0, ");
            for (int i = 0; i < n; i++) {
                want.append(ifOf(2 * i));
            }
            made(Check.inMain(Check.times(n, "if (1) { } ")), want + "push constant 0, return");
        }
        made(Check.inMain("if (1) { if (1) { } } if (1) { }"), "function 800 0, push constant 1, push constant 0, eq, if 0, " + ifOf(2)
            + "label 0, " + ifOf(4) + "push constant 0, return");
        made(Check.inMain("if (1) { } else { if (1) { } }"), "function 800 0, push constant 1, push constant 0, eq, if 0, goto 1, label 0, "
            + ifOf(2) + "label 1, push constant 0, return");
        made(Check.inMain("while (1) { if (1) { } } if (1) { }"), "function 800 0, label 0, push constant 1, push constant 0, eq, if 1, "
            + ifOf(2) + "goto 0, label 1, " + ifOf(4) + "push constant 0, return");
        // As deep as signs may be open.
        StringBuilder deep = new StringBuilder("function 800 0, ");
        for (int i = 0; i < 23; i++) {
            deep.append("label ").append(2 * i).append(", push constant 1, push constant 0, eq, if ").append(2 * i + 1).append(", ");
        }
        for (int i = 22; i >= 0; i--) {
            deep.append("goto ").append(2 * i).append(", label ").append(2 * i + 1).append(", ");
        }
        made(Check.inMain(Check.times(23, "while (1) { ") + Check.times(23, "} ")), deep + "push constant 0, return");
    }

    private static void labelsOfEachSub() {
        made("class A { function int f() { if (1) { } if (1) { } } method int g() { if (1) { } } } class Main { function void main() {"
            + " if (1) { } } }", "function 800 0, " + ifOf(0) + ifOf(2) + "push constant 0, return, "
            + "function 801 0, push argument 0, pop pointer 0, " + ifOf(0) + "push constant 0, return, "
            + "function 900 0, " + ifOf(0) + "push constant 0, return");
        // A jump stays in its sub, though labels of other subs have the same numbers.
        Check.due("jumps", Runs.runOf("class Main { function int f(int n) { var int i; while (i < n) { let i = i + 1; if (i = 3) { return 3; }"
            + " else { do Output.printInt(i); } } return 0; } function void main() { if (Main.f(2)) { do Output.printInt(8); } else {"
            + " do Output.printInt(9); } while (Main.f(5)) { do Output.printInt(7); return; } } }"), "129127");
    }

    private static void constants() {
        for (int v : new int[] {0, 1, 32766, 32767}) {
            made(Check.inMain("return " + v + ";"), "function 800 0, push constant " + v + ", return, push constant 0, return");
            made(Check.inMain("return -" + v + ";"), "function 800 0, push constant " + v + ", neg, return, push constant 0, return");
        }
        made(Check.inMain("return true;"), "function 800 0, push constant 0, not, return, push constant 0, return");
        made(Check.inMain("return false;"), "function 800 0, push constant 0, return, push constant 0, return");
        made(Check.inMain("return null;"), "function 800 0, push constant 0, return, push constant 0, return");
    }

    /** A string: its bytes, String.new, and for each byte String.appendChar. */
    private static void strings() {
        for (int n : new int[] {0, 1, 59, 60}) {
            made(Check.inMain("return \"" + Check.times(n, "~") + "\";"), "function 800 0, push constant " + n + ", call 300 1, "
                + Check.times(n, "push constant 126, call 304 2, ") + "return, push constant 0, return");
        }
        made(Check.inMain("return \" !\";"), "function 800 0, push constant 2, call 300 1, push constant 32, call 304 2, "
            + "push constant 33, call 304 2, return, push constant 0, return");
    }

    /** PUSH constant 0 and RETURN end a sub always. */
    private static void endsOfSubs() {
        made(Check.inMain("return;"), "function 800 0, push constant 0, return, push constant 0, return");
        made(Check.inMain("return; return;"), "function 800 0, push constant 0, return, push constant 0, return, push constant 0, return");
        made(Check.inMain("return 5;"), "function 800 0, push constant 5, return, push constant 0, return");
    }

    /** Commands 0 to the last; -1 for another, and without a program. */
    private static void whichCommand() {
        TowerComputer x = Check.mainProgram("return 5;");
        for (int what = 0; what <= 2; what++) {
            for (int i : new int[] {Integer.MIN_VALUE, -2, -1, 5, 6, 2999, 3000, Integer.MAX_VALUE}) {
                Check.due("command(" + i + ", " + what + ")", x.command(i, what), -1);
            }
            Check.due("command(0, " + what + ")", x.command(0, what), what == 0 ? 14 : what == 1 ? 800 : 0);
            Check.due("command(1, " + what + ")", x.command(1, what), what == 2 ? 5 : 0);
            Check.due("command(4, " + what + ")", x.command(4, what), what == 0 ? 16 : 0);
        }
        // A longer program ahead of it leaves nothing behind the last command.
        Check.due("load", Check.load(x, Check.inMain(Check.times(20, "return 5; "))), 0);
        Check.due("command(42, 0)", x.command(42, 0), 16);
        Check.due("command(43, 0)", x.command(43, 0), -1);
        Check.due("load", Check.load(x, Check.inMain("")), 0);
        Check.due("command(2, 0)", x.command(2, 0), 16);
        Check.due("command(3, 0)", x.command(3, 0), -1);
        Check.due("load with a fault", Check.load(x, Check.inMain("return x;")), 4);
        Check.due("command(0, 0) without a program", x.command(0, 0), -1);
        Check.due("command(2, 0) without a program", x.command(2, 0), -1);
    }

    private static void whichNumber() {
        TowerComputer x = Check.mainProgram("return 5;");
        for (int i = 0; i < 5; i++) {
            for (int what : new int[] {Integer.MIN_VALUE, -2, -1, 3, 4, Integer.MAX_VALUE}) {
                Check.due("command(" + i + ", " + what + ")", x.command(i, what), -1);
            }
        }
        x.run(10);
        Check.due("command(0, 1) behind a run", x.command(0, 1), 800);
    }

    /** As many commands as 1000 tokens and 300 bytes of strings can make, nearly. */
    private static void longestTexts() {
        String strings = Check.times(5, "+\"" + Check.times(60, "s") + "\"");
        String text = Check.inMain("return \"\"" + Check.times(480, "+\"\"") + strings + ";");
        TowerComputer x = Check.program(text);
        int size = 1 + 2 + 480 * 3 + 5 * (2 + 120 + 1) + 1 + 2;
        Check.due("the last command", x.command(size - 1, 0), 16);
        Check.due("the last command but one", x.command(size - 2, 0), 0);
        Check.due("the last but two, of the text's return", x.command(size - 3, 0), 16);
        Check.due("behind the last command", x.command(size, 0), -1);
        TowerComputer y = Check.mainProgram(Check.times(164, "if(1){}") + "return;");
        int last = 1 + 164 * 5 + 2 + 2 - 1;
        Check.due("the last label", y.command(last - 4, 1), 2 * 163);
        Check.due("the last command", y.command(last, 0), 16);
        Check.due("behind the last command", y.command(last + 1, 0), -1);
        Check.due("run of all labels", y.run(5000), 0);
        Check.due("count(1)", y.count(1), 166);
    }
}
