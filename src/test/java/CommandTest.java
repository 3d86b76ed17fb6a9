/** Promise 12: the commands that a text is made into. */
public final class CommandTest {
    private static final String[] KINDS = {"push", "pop", "add", "sub", "neg", "and", "or", "not", "eq", "lt", "gt",
        "label", "goto", "if", "function", "call", "return"};
    private static final String[] SEGMENTS = {"constant", "argument", "local", "static", "this", "that", "pointer", "temp"};

    public static void main(String[] args) {
        numbers();
        emptySubs();
        statements();
        conditions();
        expressions();
        variables();
        calls();
        systemSubs();
        none();
        Check.finish();
    }

    /** A command as it is written: its kind and those numbers that it has. */
    private static String written(TowerComputer x, int i) {
        int kind = x.command(i, 0);
        int first = x.command(i, 1);
        int second = x.command(i, 2);
        if (kind < 0 || kind >= KINDS.length || kind <= 1 && (first < 0 || first >= SEGMENTS.length)) {
            return "?";
        }
        if (kind <= 1) {
            return KINDS[kind] + " " + SEGMENTS[first] + " " + second;
        }
        boolean labelled = kind >= 11 && kind <= 13;
        boolean called = kind == 14 || kind == 15;
        if (!called && second != 0 || !called && !labelled && first != 0) {
            return "?";
        }
        return KINDS[kind] + (labelled ? " " + first : called ? " " + first + " " + second : "");
    }

    static String all(TowerComputer x) {
        StringBuilder text = new StringBuilder();
        for (int i = 0; i < 3000 && x.command(i, 0) != -1; i++) {
            text.append(i == 0 ? "" : ", ").append(written(x, i));
        }
        return text.toString();
    }

    private static void madeInto(String text, String want) {
        Check.due("commands of " + text, all(Check.program(text)), want);
    }

    /** The commands of a body of main. */
    private static void made(String body, int vars, String want) {
        madeInto(Check.inMain(body), "function 800 " + vars + ", " + (want.isEmpty() ? "" : want + ", ")
            + "push constant 0, return");
    }

    private static void numbers() {
        TowerComputer x = Check.mainProgram("var int a, b; let b = 7;");
        int[][] rows = {{14, 800, 2}, {0, 0, 7}, {1, 2, 1}, {0, 0, 0}, {16, 0, 0}};
        for (int i = 0; i < rows.length; i++) {
            for (int what = 0; what <= 2; what++) {
                Check.due("command(" + i + ", " + what + ")", x.command(i, what), rows[i][what]);
            }
            Check.due("command(" + i + ", 3)", x.command(i, 3), -1);
            Check.due("command(" + i + ", -1)", x.command(i, -1), -1);
        }
        Check.due("command(5, 0)", x.command(5, 0), -1);
        Check.due("command(-1, 0)", x.command(-1, 0), -1);
        Check.due("command(2147483647, 0)", x.command(Integer.MAX_VALUE, 0), -1);
    }

    private static void emptySubs() {
        made("", 0, "");
        madeInto("class A { field int a, b, c; method void m(int p) { var int v; } constructor A new() { } }"
            + " class B { constructor B new() { } } class Main { function void f() { } function void main() { } }",
            "function 800 1, push argument 0, pop pointer 0, push constant 0, return, "
            + "function 801 0, push constant 3, call 102 1, pop pointer 0, push constant 0, return, "
            + "function 900 0, push constant 1, call 102 1, pop pointer 0, push constant 0, return, "
            + "function 1000 0, push constant 0, return, function 1001 0, push constant 0, return");
    }

    private static void statements() {
        made("var int x; let x = 5;", 1, "push constant 5, pop local 0");
        made("var int x, a; let a[x] = 5;", 2, "push local 1, push local 0, add, push constant 5, pop temp 0, pop pointer 1, "
            + "push temp 0, pop that 0");
        made("do Sys.halt();", 0, "call 700 0, pop temp 0");
        made("return;", 0, "push constant 0, return");
        made("return 3;", 0, "push constant 3, return");
    }

    private static void conditions() {
        made("if (1) { return; }", 0, "push constant 1, push constant 0, eq, if 0, push constant 0, return, label 0");
        made("if (1) { } else { return; }", 0, "push constant 1, push constant 0, eq, if 0, goto 1, label 0, "
            + "push constant 0, return, label 1");
        made("while (1) { return; }", 0, "label 0, push constant 1, push constant 0, eq, if 1, push constant 0, return, "
            + "goto 0, label 1");
        made("while (1) { if (2) { } else { } } if (3) { }", 0, "label 0, push constant 1, push constant 0, eq, if 1, "
            + "push constant 2, push constant 0, eq, if 2, goto 3, label 2, label 3, goto 0, label 1, "
            + "push constant 3, push constant 0, eq, if 4, label 4");
        madeInto("class Main { function void f() { if (1) { } } function void main() { if (1) { } } }",
            "function 800 0, push constant 1, push constant 0, eq, if 0, label 0, push constant 0, return, "
            + "function 801 0, push constant 1, push constant 0, eq, if 0, label 0, push constant 0, return");
    }

    private static void expressions() {
        made("return 1 + 2 - 3 & 4 | 5;", 0, "push constant 1, push constant 2, add, push constant 3, sub, push constant 4, and, "
            + "push constant 5, or, return");
        made("return 1 < 2 > 3 = 4;", 0, "push constant 1, push constant 2, lt, push constant 3, gt, push constant 4, eq, return");
        made("return 1 * 2 / 3;", 0, "push constant 1, push constant 2, call 3 2, push constant 3, call 4 2, return");
        made("return 1 * (2 / 3);", 0, "push constant 1, push constant 2, push constant 3, call 4 2, call 3 2, return");
        made("return -1 + ~2;", 0, "push constant 1, neg, push constant 2, not, add, return");
        made("return true + false + null;", 0, "push constant 0, not, push constant 0, add, push constant 0, add, return");
        made("return \"aZ\";", 0, "push constant 2, call 300 1, push constant 97, call 304 2, push constant 90, call 304 2, return");
        made("return \"\";", 0, "push constant 0, call 300 1, return");
        made("var int a; return a[1 + 2];", 1, "push local 0, push constant 1, push constant 2, add, add, pop pointer 1, "
            + "push that 0, return");
        made("return 32767;", 0, "push constant 32767, return");
    }

    private static void variables() {
        madeInto("class A { static int s; field int f; static int t; field int g; "
            + "method int m(int p, int q) { var int v; let s = t; let f = g; let p = q; let v = this; } } "
            + "class Main { static int u; function void main() { let u = 1; } }",
            "function 800 1, push argument 0, pop pointer 0, push static 1, pop static 0, push this 1, pop this 0, "
            + "push argument 2, pop argument 1, push pointer 0, pop local 0, push constant 0, return, "
            + "function 900 0, push constant 1, pop static 0, push constant 0, return");
        madeInto("class Main { function int f(int p, int q) { return p - q; } function void main() { } }",
            "function 800 0, push argument 0, push argument 1, sub, return, push constant 0, return, "
            + "function 801 0, push constant 0, return");
    }

    private static void calls() {
        madeInto("class Main { method int m(int a) { return m(2) + Main.f(); } function int f() { } "
            + "function void main() { var Main x; do x.m(1); } }",
            "function 800 0, push argument 0, pop pointer 0, push pointer 0, push constant 2, call 800 2, call 801 0, add, return, "
            + "push constant 0, return, function 801 0, push constant 0, return, "
            + "function 802 1, push local 0, push constant 1, call 800 2, pop temp 0, push constant 0, return");
        madeInto("class Main { function void main() { do B.f(B.new(1), 2); } } class A { method int h() { } } "
            + "class B { field A a; constructor B new(int a) { } function int f(B a, int b) { do a.g(); } "
            + "method int g() { do a.h(); } }",
            "function 800 0, push constant 1, call 1000 1, push constant 2, call 1001 2, pop temp 0, push constant 0, return, "
            + "function 900 0, push argument 0, pop pointer 0, push constant 0, return, "
            + "function 1000 0, push constant 1, call 102 1, pop pointer 0, push constant 0, return, "
            + "function 1001 0, push argument 0, call 1002 1, pop temp 0, push constant 0, return, "
            + "function 1002 0, push argument 0, pop pointer 0, push this 0, call 900 1, pop temp 0, push constant 0, return");
    }

    private static void systemSubs() {
        String[] calls = {"Math.abs(1)", "Math.min(1, 1)", "Math.max(1, 1)", "Math.multiply(1, 1)", "Math.divide(1, 1)",
            "Math.sqrt(1)", "Memory.peek(1)", "Memory.poke(1, 1)", "Memory.alloc(1)", "Memory.deAlloc(1)", "Array.new(1)",
            "a.dispose()", "String.new(1)", "s.length()", "s.charAt(1)", "s.setCharAt(1, 1)", "s.appendChar(1)",
            "s.eraseLastChar()", "s.intValue()", "s.setInt(1)", "s.dispose()", "String.newLine()", "String.doubleQuote()",
            "String.backSpace()", "Output.printChar(1)", "Output.printString(1)", "Output.printInt(1)", "Output.println()",
            "Keyboard.keyPressed()", "Keyboard.readChar()", "Keyboard.readLine(1)", "Screen.clearScreen()",
            "Screen.setColor(1)", "Screen.drawPixel(1, 1)", "Screen.drawLine(1, 1, 1, 1)", "Screen.drawRectangle(1, 1, 1, 1)",
            "Screen.drawCircle(1, 1, 1)", "Sys.halt()", "Sys.error(1)", "Sys.wait(1)"};
        int[] numbers = {0, 1, 2, 3, 4, 5, 100, 101, 102, 103, 200, 201, 300, 301, 302, 303, 304, 305, 306, 307, 308, 309,
            310, 311, 400, 401, 402, 403, 500, 501, 502, 600, 601, 602, 603, 604, 605, 700, 701, 702};
        for (int i = 0; i < calls.length; i++) {
            boolean object = calls[i].startsWith("a.") || calls[i].startsWith("s.");
            int values = calls[i].replaceAll("[^1]", "").length();
            String want = (object ? "push local " + (calls[i].startsWith("a.") ? 0 : 1) + ", " : "")
                + Check.times(values, "push constant 1, ") + "call " + numbers[i] + " " + (object ? values + 1 : values)
                + ", pop temp 0";
            made("var Array a; var String s; do " + calls[i] + ";", 2, want);
        }
    }

    private static void none() {
        TowerComputer x = new TowerComputer();
        Check.due("command(0, 0) without a program", x.command(0, 0), -1);
        Check.load(x, Check.inMain(""));
        Check.due("command(0, 0)", x.command(0, 0), 14);
        Check.load(x, "class Main { }");
        Check.due("command(0, 0) behind a fault", x.command(0, 0), -1);
        Check.load(x, Check.inMain("return 1;"));
        Check.due("commands of the new program", all(x), "function 800 0, push constant 1, return, push constant 0, return");
        String sixty = Check.times(60, "w");
        TowerComputer y = Check.mainProgram(Check.times(5, "do Output.printString(\"" + sixty + "\"); "));
        Check.due("commands of the longest strings", y.command(3 + 5 * (2 + 120 + 2) - 1, 0), 16);
        Check.due("no more commands", y.command(3 + 5 * (2 + 120 + 2), 0), -1);
    }
}
