/** The boundaries under 'RUNNING': for each sentence a test at it, one below it and one beyond it. */
public final class RunningEdgesTest {
    public static void main(String[] args) {
        whatIsNotZero();
        zeroAtFirst();
        objectAheadOfItsValues();
        valuesInOrder();
        sizesOfObjects();
        blockAheadOfAllElse();
        whatASubGives();
        stepsOfStatements();
        stepsOfWhiles();
        stepsOfCalls();
        placesForWantOfFuel();
        noStatementHasBegun();
        depthOfFunctions();
        depthOfMethodsAndConstructors();
        depthBehindItsStep();
        whatIsNotDeep();
        errorsEndARun();
        placesOfErrors();
        haltsEndARun();
        errorAndFuel();
        stringsAreMade();
        stringsWithoutRoom();
        Check.finish();
    }

    /** The statements of an if and a while are done when e is not 0. */
    private static void whatIsNotZero() {
        for (int v : new int[] {-32768, -32767, -256, -2, -1, 1, 2, 256, 32766, 32767}) {
            String e = ValueEdgesTest.term(v);
            Check.due("if of " + v, Runs.written("if (" + e + ") { do Output.printInt(1); } else { do Output.printInt(2); }"), "1");
            Check.due("if without else of " + v, Runs.written("if (" + e + ") { do Output.printInt(1); }"), "1");
            Check.due("while of " + v, Runs.written("var int i; let i = " + e + "; while (i) { do Output.printInt(1); let i = 0; }"), "1");
        }
        Check.due("if of 0", Runs.written("if (0) { do Output.printInt(1); } else { do Output.printInt(2); }"), "2");
        Check.due("if without else of 0", Runs.written("if (0) { do Output.printInt(1); } do Output.printInt(3);"), "3");
        Check.due("while of 0", Runs.written("while (0) { do Output.printInt(1); } do Output.printInt(3);"), "3");
    }

    /** Statics and vars are 0 at first, vars at each call, and all words of memory; so at each run. */
    private static void zeroAtFirst() {
        TowerComputer x = Check.program("class Main { static int s; function int f(int p) { var int v, w; do Output.printInt(v + w);"
            + " let v = p; let w = p; return 0; } function void main() { var int u; do Output.printInt(s + u); let s = 5; let u = 6;"
            + " do Main.f(7); do Main.f(8); do Output.printInt(Memory.peek(2048)); do Output.printInt(Memory.peek(14335));"
            + " do Output.printInt(Memory.peek(16384)); do Output.printInt(Memory.peek(16511)); do Memory.poke(2048, 1);"
            + " do Memory.poke(14335, 2); do Memory.poke(16384, 3); do Memory.poke(16511, 4); } }");
        for (int i = 0; i < 3; i++) {
            Check.due("run " + i, x.run(100), 0);
            Check.due("output of run " + i, Check.output(x), "0000000");
            Check.due("word(2048)", x.word(2048), 1);
            Check.due("word(14335)", x.word(14335), 2);
            Check.due("word(16384)", x.word(16384), 3);
            Check.due("word(16511)", x.word(16511), 4);
        }
        Check.due("run(0)", x.run(0), 1);
        Check.due("word(2048) of a run without a step", x.word(2048), 0);
        Check.due("word(16511) of a run without a step", x.word(16511), 0);
    }

    /** A call works out its object ahead of its e. */
    private static void objectAheadOfItsValues() {
        Check.due("the object is the one that the variable meant", Runs.runOf("class A { field int n; static A s; constructor A new(int a) {"
            + " let n = a; return this; } method int m(int a) { do Output.printInt(n); return a; } function int swap() {"
            + " let s = A.new(2); return 0; } function void go() { let s = A.new(1); do s.m(A.swap()); do s.m(0); } }"
            + " class Main { function void main() { do A.go(); } }"), "12");
    }

    private static void valuesInOrder() {
        Check.due("values in order", Runs.runOf("class Main { function int f(int a) { do Output.printInt(a); return a; }"
            + " function int g(int a, int b, int c) { return a * 100 + (b * 10) + c; } function void main() {"
            + " do Output.printInt(Main.g(Main.f(1), Main.f(2), Main.f(3))); do Output.printInt(Math.max(Main.f(4), Main.f(5))); } }"),
            "123123455");
        TowerComputer x = Runs.fails(3, "class Main { function int f(int a) { do Output.printInt(a); return a; }"
            + " function void main() { ^do Math.max(Main.f(1) / 0, Main.f(2)); } }");
        Check.due("values behind an error", Check.output(x), "1");
    }

    /** A constructor makes a block of as many words as its class has fields, 1 at least. */
    private static void sizesOfObjects() {
        for (int n : new int[] {0, 1, 2, 3, 11, 12}) {
            TowerComputer x = Check.program("class A { " + Check.times(n, "field int f#; ") + "constructor A new() {"
                + " return this; } } " + Check.inMain("do Output.printInt(A.new()); do Output.printInt(A.new());"));
            Check.due("run", x.run(50), 0);
            int words = Math.max(1, n);
            Check.due("objects of " + n + " fields", Check.output(x), "2048" + (2048 + words));
            Check.due("count(3)", x.count(3), 2 * words);
            Check.due("count(4)", x.count(4), 2);
        }
        String text = "class A { field int a, b; constructor A new() { return this; } } class Main { function void main() {"
            + " do Memory.alloc(@); ^do A.new(); } }";
        Check.due("an object in the last two words", Runs.runOf(text.replace("^", "").replace("@", "12286")), "");
        Runs.fails(6, text.replace("@", "12287"));
        Runs.fails(6, text.replace("@", "12288"));
    }

    /** The block is made behind the values, and ahead of all else in the constructor. */
    private static void blockAheadOfAllElse() {
        Check.due("order of blocks", Runs.runOf("class A { field int f; constructor A new(int a) { do Output.printInt(Memory.alloc(1) - a);"
            + " return this; } } class Main { function void main() { do Output.printInt(A.new(Memory.alloc(1))); } }"), "22049");
        TowerComputer x = Runs.fails(6, "class A { constructor A new() { do Output.printInt(1); return this; } } "
            + Check.inMain("do Memory.alloc(12288); ^do A.new();"));
        Check.due("no statement of the constructor has begun", Check.output(x), "");
        Check.due("steps: main, two statements, and the call", x.count(1), 4);
        Check.due("the call was at work", x.count(2), 2);
    }

    /** A sub that comes to its end, or return without e, gives 0. */
    private static void whatASubGives() {
        String[] zero = {"", "return;", "if (1) { return; } return 5;", "while (0) { return 5; }", "if (0) { return 5; }", "let v = 5;",
            "do Math.abs(7);", "return 0;"};
        for (String body : zero) {
            for (String kind : new String[] {"function int", "function void", "function boolean"}) {
                Check.due("what " + body + " gives", Runs.runOf("class Main { " + kind + " f(int a) { var int v; " + body + " }"
                    + " function void main() { do Output.printInt(5 + Main.f(9)); } }"), "5");
            }
        }
        Check.due("what a constructor gives", Runs.runOf("class A { constructor A a() { } constructor A b() { return; }"
            + " constructor A c() { return this; } constructor A d() { return 7; } } " + Check.inMain("do Output.printInt(A.a());"
            + " do Output.printInt(A.b()); do Output.printInt(A.c()); do Output.printInt(A.d());")), "0020507");
        Check.due("a void that gives something", Runs.runOf("class Main { function void f() { return 6; } function void main() {"
            + " do Output.printInt(Main.f()); return 9; } }"), "6");
    }

    /** A step for each statement when it begins. */
    private static void stepsOfStatements() {
        Runs.steps(Check.inMain(""), 1);
        for (String statement : new String[] {"let x = 1;", "let a[0] = 1;", "do Math.abs(1);", "return;", "return 1;", "if (0) { return; }",
            "if (1) { }", "if (0) { } else { }", "let x = \"string\";", "let x = -(1 + 2) * Math.sqrt(4);"}) {
            String head = "class Main { function void main() { var int x; var Array a; let a = 2048; ";
            Runs.steps(head + statement + " } }", 3);
            if (!statement.startsWith("return")) {
                Runs.steps(head + statement + " " + statement + " } }", 4);
            }
        }
        Runs.steps(Check.inMain("if (1) { return; } else { do Math.abs(1); return; }"), 3);
        Runs.steps(Check.inMain("if (0) { return; } else { do Math.abs(1); return; }"), 4);
        Runs.steps(Check.inMain("if (1) { if (1) { if (1) { } } }"), 4);
        Runs.steps(Check.inMain("return; return; return;"), 2);
    }

    /** A while takes a step when it begins, and one each time it looks at its e. */
    private static void stepsOfWhiles() {
        for (int n = 0; n <= 4; n++) {
            Runs.steps(Check.inMain("var int i; while (i < " + n + ") { let i = i + 1; }"), 1 + 1 + n + 1 + n);
            Runs.steps(Check.inMain("var int i; while (i < " + n + ") { let i = i + 1; if (i) { } }"), 1 + 1 + n + 1 + 2 * n);
        }
        Runs.steps(Check.inMain("while (1) { return; }"), 4);
        Runs.steps(Check.inMain("var int i; while (i < 2) { let i = i + 1; while (0) { } }"), 1 + 1 + 3 + 2 * 3);
        Runs.steps("class Main { static int i; function int f() { let i = i + 1; return i < 3; } function void main() {"
            + " while (Main.f()) { } } }", 1 + 1 + 3 * (1 + 1 + 2));
    }

    /** A step for each call of a sub of the text, Main.main too; none for one of the system. */
    private static void stepsOfCalls() {
        String text = "class Main { function int f() { } method int m() { } constructor Main c() { return this; } function void main() {"
            + " var Main x; let x = Main.c(); @ } }";
        Runs.steps(text.replace("@", ""), 4);
        Runs.steps(text.replace("@", "do Main.f();"), 6);
        Runs.steps(text.replace("@", "do x.m();"), 6);
        Runs.steps(text.replace("@", "do Main.c();"), 7);
        Runs.steps(text.replace("@", "do Math.abs(Main.f() + x.m());"), 7);
        Runs.steps(text.replace("@", "if (Main.f()) { }"), 6);
        Runs.steps(text.replace("@", "do Math.abs(Math.max(Math.min(1, 2), 3)); do String.newLine();"), 6);
    }

    /** For want of fuel: at the statement at hand, or at that which would begin, or ask its e again. */
    private static void placesForWantOfFuel() {
        String text = " A class Main { function int f(int n) { B if (n < 2) { C return n; } D let n = n - 1; E return n; }"
            + " function void main() { var int i; F let i = Main.f(1) + Main.f(2); G while (i < 4) { H if (i) { I let i = i + 1; } }"
            + " J do Main.f(i); } }";
        // main F f B C, f B D E, G looks H I, looks H I, looks, J f B D E
        String order = "A F F B C F B D E G G H I G H I G J J B D E";
        String[] places = order.split(" ");
        String bare = text;
        for (String letter : new String[] {"A", "B", "C", "D", "E", "F", "G", "H", "I", "J"}) {
            bare = bare.replace(" " + letter + " ", "   ");
        }
        TowerComputer x = Check.program(bare);
        for (int fuel = 0; fuel < places.length; fuel++) {
            Check.due("run(" + fuel + ")", x.run(fuel), 1);
            Check.due("place() behind run(" + fuel + ")", x.place(), text.indexOf(" " + places[fuel] + " ") + 3);
            Check.due("count(1) behind run(" + fuel + ")", x.count(1), fuel);
            Check.due("error() behind run(" + fuel + ")", x.error(), 0);
        }
        Check.due("run(" + places.length + ")", x.run(places.length), 0);
        Check.due("place() behind END 0", x.place(), -1);
        Check.due("count(1) behind END 0", x.count(1), places.length);
    }

    /** If no statement has begun, the place is the program's first token. */
    private static void noStatementHasBegun() {
        for (String head : new String[] {"", " ", "// x\n", "/* y */", "\n\n\t"}) {
            for (String body : new String[] {"", "return;", "while (1) { }"}) {
                TowerComputer x = Runs.outOfFuel(0, head + "^" + Check.inMain(body));
                Check.due("count(2)", x.count(2), 0);
                Runs.outOfFuel(0, head + "^class A { function int f() { return; } } " + Check.inMain(body));
            }
        }
        Runs.outOfFuel(1, Check.inMain("^return;"));
        Check.due("count(2) behind one step", Runs.outOfFuel(1, Check.inMain("^return;")).count(2), 1);
    }

    /** So many calls deep, Main.main with them. */
    private static String functionsOf(int depth) {
        return "class Main { function int f(int n) { if (n) { ^return Main.f(n - 1); } return 7; } function void main() {"
            + " do Output.printInt(Main.f(" + (depth - 2) + ")); } }";
    }

    /** 40 calls may be at work; a 41st is END 2. */
    private static void depthOfFunctions() {
        for (int depth : new int[] {2, 3, 39, 40}) {
            TowerComputer x = Check.program(functionsOf(depth).replace("^", ""));
            Check.due("run of depth " + depth, x.run(5000), 0);
            Check.due("count(2) of depth " + depth, x.count(2), depth);
            Check.due("output of depth " + depth, Check.output(x), "7");
        }
        for (int depth : new int[] {41, 42, 100, 5000}) {
            tooDeep(functionsOf(depth));
        }
    }

    private static void tooDeep(String marked) {
        TowerComputer x = Check.program(marked.replace("^", ""));
        Check.due("run of " + marked, x.run(5000), 2);
        Check.due("count(2) of " + marked, x.count(2), 40);
        Check.due("place() of " + marked, x.place(), marked.indexOf('^'));
        Check.due("error() of " + marked, x.error(), 0);
        Check.due("output of " + marked, Check.output(x), "");
    }

    private static void depthOfMethodsAndConstructors() {
        String methods = "class Main { constructor Main new() { return this; } method int f(int n) { if (n) { ^return f(n - 1); }"
            + " return 7; } function void main() { var Main m; let m = Main.new(); do Output.printInt(m.f(@)); } }";
        Check.due("40 methods deep", Runs.runOf(methods.replace("^", "").replace("@", "38")), "7");
        tooDeep(methods.replace("@", "39"));
        String constructors = "class Main { constructor Main new(int n) { if (n) { ^return Main.new(n - 1); } return 7; }"
            + " function void main() { do Output.printInt(Main.new(@)); } }";
        TowerComputer x = Check.program(constructors.replace("^", "").replace("@", "38"));
        Check.due("run of 40 constructors", x.run(5000), 0);
        Check.due("count(4)", x.count(4), 39);
        tooDeep(constructors.replace("@", "39"));
        TowerComputer y = Check.program(constructors.replace("^", "").replace("@", "39"));
        y.run(5000);
        Check.due("the 41st call makes no block", y.count(4), 39);
        tooDeep("class Main { function void main() { ^do Main.main(); } }");
    }

    /** The depth is looked at behind the step of the call. */
    private static void depthBehindItsStep() {
        String text = "class Main { function void main() { do Main.main(); } }";
        TowerComputer x = Check.program(text);
        Check.due("run", x.run(5000), 2);
        Check.due("count(1)", x.count(1), 81);
        Check.due("run(81)", x.run(81), 2);
        Check.due("count(2)", x.count(2), 40);
        Check.due("run(80)", x.run(80), 1);
        Check.due("count(1)", x.count(1), 80);
        Check.due("count(2)", x.count(2), 40);
        Check.due("place()", x.place(), text.indexOf("do"));
        Check.due("run(79)", x.run(79), 1);
        Check.due("count(2)", x.count(2), 40);
        Check.due("run(78)", x.run(78), 1);
        Check.due("count(2)", x.count(2), 39);
    }

    /** Calls that are done are not at work, nor are those of the system. */
    private static void whatIsNotDeep() {
        TowerComputer x = Check.program("class Main { function int f(int a) { return a; } function void main() { var int i;"
            + " while (i < 60) { let i = Main.f(Main.f(Main.f(i))) + 1; } } }");
        Check.due("run of calls that are done", x.run(5000), 0);
        Check.due("count(2)", x.count(2), 2);
        Check.due("a call of the system 40 deep", Runs.runOf("class Main { function int f(int n) { if (n) { return Main.f(n - 1); }"
            + " return Math.abs(Math.max(-3, -4)) * 2; } function void main() { do Output.printInt(Main.f(38)); } }"), "6");
    }

    /** An ERROR is END 3, with its number, and what comes behind it is not done. */
    private static void errorsEndARun() {
        for (int number : new int[] {-32768, -1, 0, 1, 2, 20, 21, 32767}) {
            TowerComputer x = Runs.fails(number, Check.inMain("do Output.printInt(1); ^do Sys.error(" + ValueEdgesTest.term(number)
                + "); do Output.printInt(2);"));
            Check.due("output", Check.output(x), "1");
            Check.due("run(2)", x.run(2), 1);
            Check.due("error() behind END 1", x.error(), 0);
        }
        TowerComputer y = Check.mainProgram("if (Keyboard.readChar()) { do Sys.error(9); }");
        Check.keys(y, "k");
        Check.due("run", y.run(50), 3);
        Check.due("error()", y.error(), 9);
        Check.keys(y, "");
        Check.due("run", y.run(50), 0);
        Check.due("error() behind END 0", y.error(), 0);
    }

    /** The statement at hand is the one that began last of those that are still at work. */
    private static void placesOfErrors() {
        String bad = "1 / 0";
        for (String body : new String[] {"^let x = @;", "^let x[@] = 1;", "^let x[0] = @;", "^if (@) { }", "^while (@) { }", "^do Math.abs(@);",
            "^return @;", "if (1) { ^return @; }", "if (0) { } else { ^return @; }", "while (1) { ^return @; }",
            "let x = 1; ^let x = @; let x = 2;", "if (1) { let x = 1; } ^return @;", "while (x < 1) { let x = 1; } ^return @;",
            "^while (9 / (2 - x)) { let x = x + 1; }", "^while (9 / (2 - x)) { if (1) { let x = x + 1; } }",
            "while (1) { if (x = 3) { ^return @; } let x = x + 1; }"}) {
            Runs.fails(3, Check.inMain("var int x; " + body.replace("@", bad)));
        }
        // Behind a call that is done the caller's statement is at hand again.
        Runs.fails(3, "class Main { static int x; function int f() { let x = 1; if (x) { do Math.abs(x); return 0; } }"
            + " function void main() { do Main.f(); ^do Math.abs(1 / Main.f()); } }");
        Runs.fails(3, "class Main { function int f(int n) { if (n) { ^return Main.f(n - 1) / 0; } return 1; } function void main() {"
            + " return Main.f(1); } }");
        Runs.fails(3, "class Main { function int f(int n) { if (n) { return Main.f(n - 1); } ^return 1 / 0; } function void main() {"
            + " return Main.f(5); } }");
    }

    /** Behind Main.main, or Sys.halt: END 0. */
    private static void haltsEndARun() {
        String text = "class Main { function int f(int n) { if (n) { return Main.f(n - 1); } do Output.printInt(1); do Sys.halt();"
            + " do Output.printInt(2); return 0; } function void main() { do Main.f(@); do Output.printInt(3); } }";
        for (int n : new int[] {0, 1, 37, 38}) {
            Check.due("halt " + (n + 2) + " deep", Runs.runOf(text.replace("@", Integer.toString(n))), "1");
        }
        Check.due("halt within e", Runs.written("do Output.printInt(1); do Output.printInt(Sys.halt() / 0);"), "1");
        Check.due("halt alone", Runs.written("do Sys.halt();"), "");
        Runs.steps(Check.inMain("do Sys.halt(); return;"), 2);
        Check.due("return from main", Runs.written("return 5; do Output.printInt(1);"), "");
        Runs.fails(5, Check.inMain("^do Sys.error(5); do Sys.halt();"));
    }

    /** With the last of the fuel a statement still begins, and its error is the end. */
    private static void errorAndFuel() {
        TowerComputer x = Check.mainProgram("do Sys.wait(1); do Sys.wait(0); return;");
        Check.due("run(2)", x.run(2), 1);
        Check.due("run(3)", x.run(3), 3);
        Check.due("count(1)", x.count(1), 3);
        Check.due("run(4)", x.run(4), 3);
        Check.due("count(1)", x.count(1), 3);
        Check.due("run(1)", x.run(1), 1);
        Check.due("run(0)", x.run(0), 1);
        TowerComputer y = Check.program("class A { constructor A new() { } } " + Check.inMain("do Memory.alloc(12288); do A.new();"));
        Check.due("run(3), the call has no step", y.run(3), 1);
        Check.due("run(4), the call finds no room", y.run(4), 3);
        Check.due("error()", y.error(), 6);
    }

    /** A string makes a String as by String.new with the number of its bytes. */
    private static void stringsAreMade() {
        for (int n : new int[] {0, 1, 2, 59, 60}) {
            TowerComputer x = Check.mainProgram("var String s; let s = \"" + Check.times(n, "q") + "\"; do Output.printInt(s.length());");
            Check.due("run", x.run(50), 0);
            Check.due("length of a string of " + n, Check.output(x), Integer.toString(n));
            Check.due("word(2048)", x.word(2048), n);
            Check.due("word(2049)", x.word(2049), n);
            Check.due("the word behind its last", x.word(2050 + n), 0);
            Check.due("count(3)", x.count(3), n + 2);
            if (n > 0) {
                Check.due("its first byte", x.word(2050), 'q');
                Check.due("its last byte", x.word(2049 + n), 'q');
            }
        }
        TowerComputer y = Check.mainProgram("var int i; while (i < 3) { let i = i + 1; do Output.printString(\"ab\"); }");
        Check.due("run", y.run(50), 0);
        Check.due("a string is made each time", y.count(4), 3);
        Check.due("count(3)", y.count(3), 12);
    }

    private static void stringsWithoutRoom() {
        for (int n : new int[] {0, 1, 5, 60}) {
            String text = Check.inMain("do Memory.alloc(@); ^return \"" + Check.times(n, "q") + "\";");
            String fits = Integer.toString(12288 - n - 2);
            String tooMany = Integer.toString(12288 - n - 1);
            Check.due("a string of " + n + " at the end", Runs.runOf(text.replace("^", "").replace("@", fits)), "");
            TowerComputer x = Runs.fails(6, text.replace("@", tooMany));
            Check.due("count(4)", x.count(4), 1);
        }
    }
}
