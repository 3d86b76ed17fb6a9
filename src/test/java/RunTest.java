/** Promises 4 to 8, 10 and 11: keys, runs, how they end, and what they leave. */
public final class RunTest {
    public static void main(String[] args) {
        values();
        divisions();
        memory();
        variables();
        objects();
        conditions();
        steps();
        places();
        depth();
        deepStack();
        ends();
        output();
        keys();
        runsAreAlike();
        colorIsSetAtFirst();
        refused();
        Check.finish();
    }

    private static void values() {
        Runs.value("32767 + 1", -32768);
        Runs.value("-32767 - 2", 32767);
        Runs.value("2 + 3 * 4", 20);
        Runs.value("10 - 2 - 3", 5);
        Runs.value("300 * 300", 24464);
        Runs.value("-5 * 7", -35);
        Runs.value("12 & 10", 8);
        Runs.value("12 | 3", 15);
        Runs.value("~0", -1);
        Runs.value("~5", -6);
        Runs.value("-(-32767 - 1)", -32768);
        Runs.value("true", -1);
        Runs.value("false", 0);
        Runs.value("null", 0);
        Runs.value("1 < 2", -1);
        Runs.value("2 < 1", 0);
        Runs.value("-1 < 1", -1);
        Runs.value("2 > 1", -1);
        Runs.value("1 > 1", 0);
        Runs.value("3 = 3", -1);
        Runs.value("3 = 4", 0);
        Runs.value("1 < 2 + 5", 4);
        Runs.value("~(1 = 1)", 0);
        Runs.value("--3", 3);
        Runs.value("-3 + 5", 2);
        Runs.value("~-1", 0);
    }

    private static void divisions() {
        Runs.value("7 / 2", 3);
        Runs.value("-7 / 2", -3);
        Runs.value("7 / -2", -3);
        Runs.value("-7 / -2", 3);
        Runs.value("(-32767 - 1) / -1", -32768);
        Runs.value("(-32767 - 1) / 2", -16384);
        Runs.value("0 / 5", 0);
        Runs.fails(3, Check.inMain("^do Output.printInt(1 / 0);"));
        // Both sides are worked out ahead of the division.
        TowerComputer x = Runs.fails(3, "class Main { function int f() { do Output.printInt(5); return 0; }"
            + " function void main() { var int i; ^let i = 1 / Main.f(); } }");
        Check.due("right side", Check.output(x), "5");
    }

    private static void memory() {
        TowerComputer x = Check.mainProgram("var Array a; let a = 2048; let a[0] = 5; let a[12287] = -6;"
            + " let a = 16384; let a[0] = 7; let a[127] = a[0] + 1; let a = -31744; let a[-31744] = 9;");
        Check.due("run", x.run(100), 0);
        Check.due("word(2048)", x.word(2048), 9);
        Check.due("word(14335)", x.word(14335), -6);
        Check.due("word(16384)", x.word(16384), 7);
        Check.due("word(16511)", x.word(16511), 8);
        Check.due("word(2047)", x.word(2047), 100000);
        Check.due("word(14336)", x.word(14336), 100000);
        Check.due("word(16383)", x.word(16383), 100000);
        Check.due("word(16512)", x.word(16512), 100000);
        Check.due("word(2048 + 65536)", x.word(2048 + 65536), 100000);
        Check.due("word(-2147483648)", x.word(Integer.MIN_VALUE), 100000);
        for (String a : new String[] {"2047", "14336", "16383", "16512", "0", "-1", "-32767 - 1"}) {
            Runs.fails(20, Check.inMain("var Array a; let a = " + a + "; ^let a[0] = 1;"));
            Runs.fails(20, Check.inMain("var Array a; let a = " + a + "; ^do Output.printInt(a[0]);"));
        }
        Runs.fails(20, Check.inMain("var Array a; let a = 14335; ^let a[1] = 1;"));
        // The array and the index are worked out ahead of the value, the word is written behind it.
        TowerComputer y = Runs.fails(3, Check.inMain("var Array a; let a = 0; ^let a[0] = 1 / 0;"));
        Check.due("word(2048)", y.word(2048), 0);
        Check.due("order", Runs.written("var Array a; let a = 2048; let a[0] = 3; let a[a[0]] = 7; let a[1] = a[3];"
            + " do Output.printInt(a[1]);"), "7");
        TowerComputer z = Check.program("class Main { static Array s; function int f() { let s = 3000; return 1; }"
            + " function void main() { let s = 2048; let s[Main.f()] = 4; let s[Main.f()] = 5; } }");
        Check.due("run", z.run(100), 0);
        Check.due("word(2049), the array ahead of the index", z.word(2049), 4);
        Check.due("word(3001)", z.word(3001), 5);
    }

    private static void variables() {
        Check.due("vars at each call", Runs.runOf("class Main { function int f() { var int a, b; let a = a + 1; let b = b - 1;"
            + " return a * 10 - b; } function void main() { do Output.printInt(Main.f()); do Output.printInt(Main.f()); } }"),
            "1111");
        Check.due("statics of two classes", Runs.runOf("class A { static int a, b; function void put() { let a = 1; let b = 2; }"
            + " function int get() { return a * 10 + b; } } class Main { static int a; static char b;"
            + " function void main() { let a = 3; let b = 4; do A.put(); do Output.printInt(a * 10 + b);"
            + " do Output.printInt(A.get()); } }"), "3412");
        Check.due("parameters", Runs.runOf("class Main { function int f(int a, int b, int c) { let a = a * 2;"
            + " return a * 100 + (b * 10) + c; } function void main() { do Output.printInt(Main.f(1, 2, 3)); } }"), "223");
        Check.due("what a caller has stays", Runs.runOf("class A { field int x; constructor A new(int a) { let x = a; return this; }"
            + " method int f(A o, int p) { var int v, w; let v = 7; let w = o.get() + Main.id(p); let v = v + w; let x = x + 1;"
            + " return v * 100 + (p * 10) + x; } method int get() { var int u, v; let v = 9; return x; } } class Main {"
            + " function int id(int a) { var int b, c; let c = a; return c; } function void main() { var A a, b;"
            + " let a = A.new(1); let b = A.new(2); do Output.printInt(a.f(b, 3)); do Output.printInt(a.get()); } }"), "12322");
        Check.due("as many variables as there may be", Runs.runOf("class A { static int " + Check.listed(12, "s#") + "; field int "
            + Check.listed(12, "f#") + "; constructor A new() { " + Check.times(12, "let s# = 1; let f# = 10; ") + "return this; }"
            + " method int m(" + Check.listed(12, "int p#") + ") { var int " + Check.listed(12, "v#") + "; let v11 = 1000; let p11 = 100;"
            + " return s0 + s11 + f0 + f11 + p0 + p11 + v0 + v11; } } class Main { function void main() { var A a;"
            + " let a = A.new(); do Output.printInt(a.m(" + Check.listed(12, "5") + ")); } }"), "1127");
        Check.due("a var hides a field, and a field is no static", Runs.runOf("class Main { field int x; static int y;"
            + " constructor Main new() { let x = 1; let y = 2; return this; }"
            + " method int f(int x) { var int y; let y = 5; return x * 10 + y; } method int g() { return x * 10 + y; }"
            + " function void main() { var Main m; let m = Main.new(); do Output.printInt(m.f(4));"
            + " do Output.printInt(m.g()); } }"), "4512");
    }

    private static void objects() {
        String node = "class Node { field int v; field Node next; constructor Node new(int a, Node n) { let v = a;"
            + " let next = n; return this; } method int sum() { if (next = null) { return v; } return v + next.sum(); }"
            + " method int twice() { return sum() + sum(); } constructor Node lost() { } } ";
        TowerComputer x = Check.program(node + Check.inMain("var Node a; let a = Node.new(1, Node.new(2, Node.new(3, 0)));"
            + " do Output.printInt(a.sum()); do Output.printInt(a.twice()); do Output.printInt(Node.lost());"));
        Check.due("run", x.run(500), 0);
        Check.due("output", Check.output(x), "6120");
        // The block is made when the arguments are there: the inner ones come first.
        Check.due("word(2048)", x.word(2048), 3);
        Check.due("word(2049)", x.word(2049), 0);
        Check.due("word(2050)", x.word(2050), 2);
        Check.due("word(2051)", x.word(2051), 2048);
        Check.due("word(2052)", x.word(2052), 1);
        Check.due("count(3)", x.count(3), 8);
        Check.due("count(4)", x.count(4), 4);
        TowerComputer y = Check.program("class E { constructor E new() { return this; } } "
            + Check.inMain("var E e; let e = E.new(); do Output.printInt(e); do Output.printInt(E.new());"));
        Check.due("run", y.run(500), 0);
        Check.due("objects without fields", Check.output(y), "20482049");
        Runs.fails(20, "class A { field int x; method int f() { ^return x; } } " + Check.inMain("var A a; do a.f();"));
        Runs.fails(20, "class A { field int x; method int f() { ^let x = 1; } } " + Check.inMain("var A a; do a.f();"));
        // In the constructor itself no statement has begun when there is no room for the block.
        TowerComputer z = Runs.fails(6, "class A { field int x; constructor A new() { return this; } } "
            + Check.inMain("var int i; while (i < 101) { let i = i + 1; ^do A.new(); }"));
        Check.due("count(4)", z.count(4), 100);
        Check.due("count(2)", z.count(2), 2);
    }

    private static void conditions() {
        Check.due("if", Runs.written("if (5) { do Output.printInt(1); } if (0) { do Output.printInt(2); }"
            + " if (0) { do Output.printInt(3); } else { do Output.printInt(4); }"
            + " if (-1) { do Output.printInt(5); } else { do Output.printInt(6); }"), "145");
        Check.due("while", Runs.written("var int i; while (i < 3) { let i = i + 1; do Output.printInt(i); }"
            + " while (i) { let i = i - 1; } do Output.printInt(i);"), "1230");
        Check.due("nested", Runs.written("var int i, j; while (i < 3) { let j = 0; while (j < i) { if (j = 1) { do"
            + " Output.printChar(33); } else { do Output.printInt(j); } let j = j + 1; } let i = i + 1; }"), "00!");
        Check.due("return ends main", Runs.written("while (true) { do Output.printInt(1); return; }"), "1");
    }

    private static void steps() {
        Runs.steps(Check.inMain(""), 1);
        Runs.steps(Check.inMain("return;"), 2);
        Runs.steps(Check.inMain("if (0) { return; }"), 2);
        Runs.steps(Check.inMain("if (1) { return; }"), 3);
        Runs.steps(Check.inMain("if (0) { return; } else { return; }"), 3);
        Runs.steps(Check.inMain("while (0) { return; }"), 3);
        Runs.steps(Check.inMain("var int i; while (i < 3) { let i = i + 1; }"), 9);
        Runs.steps(Check.inMain("do Math.abs(Math.sqrt(4) * 3); let x = \"abc\";").replace("main() {", "main() { var int x;"), 3);
        Runs.steps("class Main { function int f(int a) { return a; } function void main() { do Main.f(Main.f(1)); } }", 6);
        Runs.steps("class Main { constructor Main new() { do m(); } method void m() { } function void main() { do Main.new(); } }", 5);
    }

    private static void places() {
        Runs.outOfFuel(0, " // x\n ^class Main { function void main() { return; } }");
        Runs.outOfFuel(0, "^class A { } class Main { function void main() { } }");
        Runs.outOfFuel(1, Check.inMain("^return;"));
        Runs.outOfFuel(1, Check.inMain("^let x = 1; return;").replace("main() {", "main() { var int x;"));
        Runs.outOfFuel(2, Check.inMain("let x = 1; ^return;").replace("main() {", "main() { var int x;"));
        Runs.outOfFuel(1, Check.inMain("^while (1) { do Sys.wait(1); }"));
        Runs.outOfFuel(2, Check.inMain("^while (1) { do Sys.wait(1); }"));
        Runs.outOfFuel(3, Check.inMain("while (1) { ^do Sys.wait(1); }"));
        Runs.outOfFuel(4, Check.inMain("^while (1) { do Sys.wait(1); }"));
        Runs.outOfFuel(5, Check.inMain("while (1) { ^do Sys.wait(1); }"));
        Runs.outOfFuel(2, Check.inMain("if (1) { ^return; }"));
        Runs.outOfFuel(3, Check.inMain("if (1) { if (0) { } } ^return;"));
        String two = "class Main { function int f(int a) { @let a = 1; #return a; } function void main() { $do Main.f(Main.f(1)); } }";
        Runs.outOfFuel(1, two.replace("$", "^").replaceAll("[@#]", ""));
        Runs.outOfFuel(2, two.replace("$", "^").replaceAll("[@#]", ""));
        Runs.outOfFuel(3, two.replace("@", "^").replaceAll("[$#]", ""));
        Runs.outOfFuel(4, two.replace("#", "^").replaceAll("[$@]", ""));
        Runs.outOfFuel(5, two.replace("$", "^").replaceAll("[@#]", ""));
        Runs.outOfFuel(6, two.replace("@", "^").replaceAll("[$#]", ""));
        Runs.fails(3, Check.inMain("var int i; ^while (6 / (3 - i)) { let i = i + 1; }"));
        Runs.fails(3, Check.inMain("var int i; while (true) { if (i = 2) { ^let i = 1 / 0; } let i = i + 1; }"));
        Runs.fails(3, Check.inMain("^if (1 / 0) { }"));
        Runs.fails(3, "class Main { function int f() { do Sys.wait(1); return 0; } function void main() { ^return 1 / Main.f(); } }");
        Runs.fails(7, "class Main { function int f() { if (1) { ^do Sys.error(7); } return 0; } function void main() { return Main.f(); } }");
        Runs.fails(-9, Check.inMain("^do Sys.error(-9);"));
        Runs.fails(0, Check.inMain("^do Sys.error(0);"));
    }

    private static void depth() {
        String text = "class Main { function int f(int n) { if (n = 0) { return 0; } return 1 + Main.f(n - 1); }"
            + " function void main() { do Output.printInt(Main.f(#)); } }";
        TowerComputer x = Check.program(text.replace("#", "38"));
        Check.due("run", x.run(5000), 0);
        Check.due("count(2)", x.count(2), 40);
        Check.due("output", Check.output(x), "38");
        TowerComputer y = Check.program(text.replace("#", "39"));
        Check.due("run", y.run(5000), 2);
        Check.due("count(2)", y.count(2), 40);
        Check.due("place()", y.place(), text.indexOf("return 1"));
        Check.due("error()", y.error(), 0);
        int steps = y.count(1);
        Check.due("count(1)", steps, 2 + 39 * 3 + 1);
        Check.due("the step of the call comes first", y.run(steps - 1), 1);
        Check.due("count(2)", y.count(2), 40);
        Check.due("run(4)", y.run(4), 1);
        Check.due("count(2) of a run that is less deep", y.count(2), 2);
        Check.due("run again", y.run(steps - 1), 1);
        Check.due("count(2)", y.count(2), 40);
        Check.due("place()", y.place(), text.indexOf("return 1"));
        TowerComputer z = Check.program(text.replace("#", "5"));
        Check.due("run(0)", z.run(0), 1);
        Check.due("count(2) of run(0)", z.count(2), 0);
        Check.due("run", z.run(500), 0);
        Check.due("count(2)", z.count(2), 7);
    }

    /** 40 calls, each with as many values that wait as 25 open signs allow. */
    private static void deepStack() {
        String call = "1 + f(" + Check.listed(11, "1") + ",";
        String deep = Check.times(22, call) + "g(a, a, a, a, a, a, a, a, a, a, a, n - 1)" + Check.times(22, ")");
        String text = "class Main { constructor Main new() { return this; } method int f(" + Check.listed(12, "int p#")
            + ") { return p11; } method int g(" + Check.listed(11, "int a#").replace("a0", "a") + ", int n) { if (n = 0) { return 0; }"
            + " return " + deep + "; } function void main() { var Main m; let m = Main.new();"
            + " do Output.printInt(m.g(" + Check.listed(11, "1") + ", 38)); } }";
        TowerComputer x = Check.program(text);
        Check.due("run of deep calls", x.run(5000), 0);
        Check.due("count(2) of deep calls", x.count(2), 40);
        for (int i = 0; i < 20; i++) {
            Check.due("run of deep calls for want of fuel", x.run(100), 1);
        }
        Check.due("run of deep calls again", x.run(5000), 0);
        Check.due("output of deep calls", Check.output(x), Integer.toString(22 * 38));
    }

    private static void ends() {
        TowerComputer x = Check.program("class Main { function int f() { do Sys.halt(); return 5; } function void main() {"
            + " do Output.printInt(1); do Output.printInt(Main.f()); } }");
        Check.due("run that halts", x.run(50), 0);
        Check.due("output", Check.output(x), "1");
        Check.due("place()", x.place(), -1);
        Check.due("count(1)", x.count(1), 5);
        Check.due("run with too little fuel", x.run(3), 1);
        Check.due("run that halts", x.run(5), 0);
        Check.due("place()", x.place(), -1);
        TowerComputer y = Check.mainProgram("do Sys.error(300);");
        Check.due("run", y.run(50), 3);
        Check.due("error()", y.error(), 300);
        Check.due("run(1)", y.run(1), 1);
        Check.due("error() behind END 1", y.error(), 0);
    }

    private static void output() {
        TowerComputer x = Check.mainProgram("do Output.printString(\"abcdefghi\"); do Output.printChar(511);");
        x.run(50);
        Check.due("count(5)", x.count(5), 10);
        Check.due("fetch()", x.fetch(), 0x0761626364656667L);
        Check.due("count(5)", x.count(5), 3);
        Check.due("fetch()", x.fetch(), 0x036869FF00000000L);
        Check.due("fetch()", x.fetch(), 0);
        Check.due("count(5)", x.count(5), 0);
        TowerComputer y = Check.mainProgram("var int i; while (i < 1001) { do Output.printInt(100 + (i - (i / 900 * 900)));"
            + " let i = i + 1; } do Output.printChar(65);");
        Check.due("run", y.run(5000), 0);
        Check.due("count(5)", y.count(5), 3000);
        String all = Check.output(y);
        Check.due("length of the output", all.length(), 3000);
        Check.due("end of the output", all.substring(2991), "197198199");
        Check.due("run again", y.run(10), 1);
        Check.due("count(5) of the new run", y.count(5), 9);
    }

    private static void keys() {
        TowerComputer x = Check.mainProgram("do Output.printInt(Keyboard.keyPressed()); do Output.printInt(Keyboard.readChar());"
            + " do Output.printInt(Keyboard.readChar()); do Output.printInt(Keyboard.readChar());");
        Check.due("run without keys", x.run(50), 0);
        Check.due("output", Check.output(x), "0000");
        Check.due("count(6)", x.count(6), 0);
        Check.due("keys", Check.keys(x, "AB"), true);
        Check.due("count(6) behind keys", x.count(6), 0);
        Check.due("run", x.run(50), 0);
        Check.due("output", Check.output(x), "6565660");
        Check.due("run with the same keys", x.run(3), 1);
        Check.due("count(6)", x.count(6), 1);
        Check.due("keys", Check.keys(x, Check.times(200, "k")), true);
        Check.due("count(6) behind keys", x.count(6), 1);
        Check.due("run", x.run(50), 0);
        Check.due("count(6)", x.count(6), 197);
        Check.feed(x, Check.times(220, "m"));
        Check.due("keys(201)", x.keys(201), false);
        Check.due("keys(-1)", x.keys(-1), false);
        Check.due("count(0)", x.count(0), 220);
        Check.due("keys(0)", x.keys(0), true);
        Check.due("run", x.run(50), 0);
        Check.due("count(6)", x.count(6), 0);
        Check.due("output", Check.output(x), "0000");
        Check.keys(x, "\u00FF\u0000C");
        x.run(50);
        Check.due("keys of 255 and 0", Check.output(x), "255255067");
    }

    private static void runsAreAlike() {
        TowerComputer x = Check.program("class Main { static int s; function void main() { var Array a; let s = s + 1;"
            + " do Output.printInt(s); let a = Array.new(3); do Output.printInt(a[1]); let a[1] = 5;"
            + " do Screen.setColor(s - 1); do Screen.drawPixel(s, 2); do Screen.setColor(0); do Screen.drawPixel(s, 2);"
            + " do Screen.setColor(1); do Screen.drawPixel(3, 3); do Screen.setColor(0); } }");
        for (int i = 0; i < 3; i++) {
            Check.due("run " + i, x.run(500), 0);
            Check.due("output of run " + i, Check.output(x), "10");
            Check.due("word(2049) of run " + i, x.word(2049), 5);
            Check.due("count(3) of run " + i, x.count(3), 3);
            Check.due("count(4) of run " + i, x.count(4), 1);
            Check.due("row(3) of run " + i, x.row(3), 8);
            Check.due("row(2) of run " + i, x.row(2), 0);
        }
    }

    private static void colorIsSetAtFirst() {
        TowerComputer x = Check.mainProgram("do Screen.drawPixel(5, 5); do Screen.setColor(0);");
        for (int i = 0; i < 3; i++) {
            Check.due("run " + i, x.run(500), 0);
            Check.due("row(5) of run " + i, x.row(5), 32);
        }
    }

    private static void refused() {
        TowerComputer x = Check.mainProgram("do Output.printInt(Sys.wait(0));");
        Check.due("run(5001)", x.run(5001), -1);
        Check.due("run(-1)", x.run(-1), -1);
        Check.due("run(5000)", x.run(5000), 3);
        Check.due("run(5001)", x.run(5001), -1);
        Check.due("error() behind a refused run", x.error(), 1);
        Check.due("place() behind a refused run", x.place(), 36);
        Check.due("count(1) behind a refused run", x.count(1), 2);
        Check.due("count(-1)", x.count(-1), -1);
        Check.due("count(8)", x.count(8), -1);
        Check.due("count(7)", x.count(7), 1);
    }
}
