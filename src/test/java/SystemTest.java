/** Promises 5, 7, 9 and 10 where they rest on the subs of the system. */
public final class SystemTest {
    public static void main(String[] args) {
        math();
        memoryAndBlocks();
        blocksRunOut();
        strings();
        stringErrors();
        stringOrder();
        numbersInStrings();
        outputs();
        keyboard();
        points();
        lines();
        rectanglesAndCircles();
        sys();
        Check.finish();
    }

    private static void math() {
        Runs.value("Math.abs(-5)", 5);
        Runs.value("Math.abs(5)", 5);
        Runs.value("Math.abs(-32767 - 1)", -32768);
        Runs.value("Math.min(-3, 2)", -3);
        Runs.value("Math.min(4, 2)", 2);
        Runs.value("Math.max(-3, 2)", 2);
        Runs.value("Math.max(4, 2)", 4);
        Runs.value("Math.multiply(300, -300)", -24464);
        Runs.value("Math.divide(-9, 2)", -4);
        Runs.value("Math.divide(-32767 - 1, -1)", -32768);
        Runs.failsInMain(3, "do Math.divide(5, 0);");
        Runs.value("Math.sqrt(0)", 0);
        Runs.value("Math.sqrt(3)", 1);
        Runs.value("Math.sqrt(4)", 2);
        Runs.value("Math.sqrt(32760)", 180);
        Runs.value("Math.sqrt(32761)", 181);
        Runs.value("Math.sqrt(32767)", 181);
        Runs.failsInMain(4, "do Math.sqrt(-1);");
    }

    private static void memoryAndBlocks() {
        Runs.value("Memory.poke(2048, 5)", 0);
        Runs.value("Memory.peek(2048)", 0);
        Check.due("poke and peek", Runs.written("do Memory.poke(14335, -7); do Output.printInt(Memory.peek(14335));"), "-7");
        Runs.failsInMain(20, "do Memory.poke(14336, 1);");
        Runs.failsInMain(20, "do Memory.peek(2047);");
        Runs.value("Memory.alloc(1)", 2048);
        Runs.value("Memory.alloc(12288)", 2048);
        Runs.failsInMain(6, "do Memory.alloc(12289);");
        Runs.failsInMain(5, "do Memory.alloc(0);");
        Runs.failsInMain(5, "do Memory.alloc(-1);");
        Runs.failsInMain(2, "do Array.new(0);");
        Runs.failsInMain(2, "do Array.new(-32767 - 1);");
        Runs.failsInMain(6, "do Array.new(32767);");
        Runs.value("Array.new(4) + Memory.alloc(1)", 2048 + 2052);
        Runs.failsInMain(21, "do Memory.deAlloc(2048);");
        Runs.failsInMain(21, "do Memory.alloc(5); do Memory.deAlloc(2049);");
        Runs.value("Memory.alloc(3) + Memory.deAlloc(2048) + Memory.alloc(3)", 4096);
        // The least address from which there is room.
        String three = "var Array a, b, c, d; let a = Array.new(10); let b = Array.new(5); let c = Array.new(7); ";
        Check.due("a gap that fits", Runs.written(three + "do b.dispose(); do Output.printInt(Array.new(5));"), "2058");
        Check.due("a gap that is too small", Runs.written(three + "do b.dispose(); do Output.printInt(Array.new(6));"), "2070");
        Check.due("a gap ahead of all", Runs.written(three + "do a.dispose(); do Output.printInt(Memory.alloc(4));"
            + " do Output.printInt(Memory.alloc(6)); do Output.printInt(Memory.alloc(1));"), "204820522070");
        Check.due("two gaps as one", Runs.written(three + "do a.dispose(); do b.dispose(); do Output.printInt(Memory.alloc(15));"), "2048");
        TowerComputer x = Check.mainProgram(three + "let b[2] = 9; do Memory.deAlloc(b); let d = Memory.alloc(3);");
        x.run(50);
        Check.due("count(3)", x.count(3), 20);
        Check.due("count(4)", x.count(4), 3);
        Check.due("words stay as they were", x.word(2060), 9);
    }

    private static void blocksRunOut() {
        String loop = "var int i; while (i < #) { let i = i + 1; do Memory.alloc(1); } ";
        TowerComputer x = Runs.failsInMain(6, loop.replace("#", "101"));
        Check.due("count(4)", x.count(4), 100);
        Check.due("count(3)", x.count(3), 100);
        Check.due("a block less", Runs.written(loop.replace("#", "100") + "do Memory.deAlloc(2099); do Output.printInt(Memory.alloc(1));"),
            "2099");
        Check.due("the first of 100", Runs.written(loop.replace("#", "100") + "do Memory.deAlloc(2048); do Output.printInt(Memory.alloc(1));"
            + " do Memory.deAlloc(2147); do Memory.deAlloc(2048); do Memory.deAlloc(2146); do Output.printInt(Memory.alloc(2));"),
            "20482146");
        TowerComputer y = Check.mainProgram(loop.replace("#", "100") + "do Memory.deAlloc(2147); do Memory.deAlloc(2048);"
            + " do Memory.alloc(2); do Memory.alloc(1); do Memory.deAlloc(2147);");
        Check.due("run", y.run(5000), 0);
        Check.due("count(3)", y.count(3), 99);
        Check.due("count(4)", y.count(4), 99);
        Runs.failsInMain(5, loop.replace("#", "100") + "do Memory.alloc(0);");
        Runs.failsInMain(2, loop.replace("#", "100") + "do Array.new(0);");
        Runs.failsInMain(6, "var Array a, b, c; let a = Array.new(6000); let b = Array.new(100); let c = Array.new(6188);"
            + " do a.dispose(); let a = Array.new(6001);");
    }

    private static void strings() {
        TowerComputer x = Check.mainProgram("var String s; let s = String.new(3); do Output.printInt(s.length());"
            + " do Output.printInt(s.appendChar(65)); do s.appendChar(66); do s.setCharAt(0, 67);"
            + " do Output.printInt(s.charAt(0)); do Output.printInt(s.charAt(1)); do Output.printInt(s.length());"
            + " do Output.printString(s); do s.eraseLastChar(); do Output.printInt(s.length()); do Output.printString(s);"
            + " do Output.printInt(s.setCharAt(0, -1)); do Output.printInt(s.eraseLastChar()); do Output.printInt(s.setInt(5));");
        Check.due("run", x.run(50), 0);
        Check.due("output", Check.output(x), "0204867662CB1C000");
        Check.due("word(2048)", x.word(2048), 3);
        Check.due("word(2049)", x.word(2049), 1);
        Check.due("word(2050)", x.word(2050), '5');
        Check.due("word(2051)", x.word(2051), 66);
        Check.due("count(3)", x.count(3), 5);
        TowerComputer y = Check.mainProgram("var String s; let s = \"a~\"; let s = \"\"; do Output.printInt(s); do s.dispose();");
        Check.due("run", y.run(50), 0);
        Check.due("an empty string", Check.output(y), "2052");
        Check.due("word(2048)", y.word(2048), 2);
        Check.due("word(2049)", y.word(2049), 2);
        Check.due("word(2051)", y.word(2051), '~');
        Check.due("count(3)", y.count(3), 4);
        TowerComputer z = Check.mainProgram("var String s; do Memory.poke(2048, 7); do Memory.poke(2049, 7); do Memory.poke(2050, 7);"
            + " let s = String.new(3); do Output.printInt(s.length()); do s.appendChar(65); do s.appendChar(66); do s.appendChar(67);"
            + " do s.setCharAt(1, 68); do s.setCharAt(2, 69); do Output.printString(s);");
        Check.due("run", z.run(50), 0);
        Check.due("a string where other words were", Check.output(z), "0ADE");
        TowerComputer u = Check.mainProgram("do Memory.poke(2050, 7); do String.new(3);");
        u.run(50);
        Check.due("other words stay", u.word(2050), 7);
        Runs.value("String.newLine()", 10);
        Runs.value("String.doubleQuote()", 34);
        Runs.value("String.backSpace()", 8);
    }

    private static void stringErrors() {
        Runs.failsInMain(14, "do String.new(-1);");
        Runs.failsInMain(14, "do String.new(-32767 - 1);");
        Runs.failsInMain(5, "do String.new(32767);");
        Runs.failsInMain(5, "do String.new(32766);");
        Runs.failsInMain(6, "do String.new(32765);");
        Runs.failsInMain(6, "do String.new(12287);");
        Runs.value("String.new(12286)", 2048);
        Runs.value("String.new(0)", 2048);
        String ab = "var String s; let s = \"ab\"; ";
        Runs.failsInMain(15, ab + "do s.charAt(2);");
        Runs.failsInMain(15, ab + "do s.charAt(-1);");
        Runs.failsInMain(16, ab + "do s.setCharAt(2, 1);");
        Runs.failsInMain(15, "var String s; let s = String.new(4); do s.appendChar(1); do s.charAt(1);");
        Runs.failsInMain(16, "var String s; let s = String.new(4); do s.appendChar(1); do s.setCharAt(1, 1);");
        Runs.failsInMain(16, ab + "do s.setCharAt(-1, 1);");
        Runs.failsInMain(17, ab + "do s.appendChar(1);");
        Runs.failsInMain(17, "var String s; let s = String.new(0); do s.appendChar(1);");
        Runs.failsInMain(18, "var String s; let s = String.new(4); do s.eraseLastChar();");
        Runs.failsInMain(17, "var String s; let s = String.new(2); do s.setInt(-10);");
        Runs.failsInMain(21, ab + "do s.dispose(); do s.dispose();");
        String nothing = "var String s; ";
        Runs.failsInMain(20, nothing + "do s.length();");
        Runs.failsInMain(20, nothing + "do s.charAt(0);");
        Runs.failsInMain(15, nothing + "do s.charAt(-1);");
        Runs.failsInMain(20, nothing + "do s.setCharAt(0, 0);");
        Runs.failsInMain(16, nothing + "do s.setCharAt(-1, 0);");
        Runs.failsInMain(20, nothing + "do s.appendChar(0);");
        Runs.failsInMain(20, nothing + "do s.eraseLastChar();");
        Runs.failsInMain(20, nothing + "do s.intValue();");
        Runs.failsInMain(20, nothing + "do s.setInt(1);");
        Runs.failsInMain(20, nothing + "do Output.printString(s);");
        Runs.failsInMain(20, nothing + "do Keyboard.readLine(s);");
        Runs.failsInMain(21, nothing + "do s.dispose();");
    }

    /** What has been written when an error comes, and objects that lie across other words. */
    private static void stringOrder() {
        TowerComputer x = Runs.failsInMain(17, "var String s; let s = String.new(3); do s.setInt(-1234);");
        Check.due("word(2049)", x.word(2049), 3);
        Check.due("word(2052)", x.word(2052), '2');
        TowerComputer y = Runs.failsInMain(20, "var String s; let s = 16383; do Memory.poke(16384, 5); do s.setInt(7);");
        Check.due("the length is 0 first", y.word(16384), 0);
        TowerComputer z = Check.mainProgram("var String s; let s = 3000; do Memory.poke(3000, 9); do Memory.poke(3001, -1);"
            + " do s.appendChar(70); do Output.printInt(s.length());");
        Check.due("run", z.run(50), 0);
        Check.due("the length is one more than it was read to be", Check.output(z), "0");
        TowerComputer u = Check.mainProgram("var String s; let s = 3000; do Memory.poke(3000, 9); do Memory.poke(3001, -2);"
            + " do s.appendChar(70);");
        Check.due("run", u.run(50), 0);
        Check.due("word(3000)", u.word(3000), 70);
        Check.due("word(3001)", u.word(3001), -1);
        TowerComputer v = Runs.failsInMain(20, "var String s; let s = 14332; do Memory.poke(14332, 9); do Memory.poke(14333, 3);"
            + " do Memory.poke(14334, 65); do Memory.poke(14335, 66); do Output.printString(s);");
        Check.due("written ahead of the error", Check.output(v), "AB");
        TowerComputer w = Runs.failsInMain(20, "var String s; let s = 14333; do Memory.poke(14333, 9); do Memory.poke(14334, 1);"
            + " do s.appendChar(3);");
        Check.due("word(14334)", w.word(14334), 1);
        TowerComputer q = Check.mainProgram("do Memory.poke(2049, -5); do Output.printString(2048);");
        Check.due("run with a length below 0", q.run(50), 0);
        Check.due("output with a length below 0", Check.output(q), "");
    }

    private static void numbersInStrings() {
        String[][] pairs = {{"", "0"}, {"-", "0"}, {"7", "7"}, {"-12", "-12"}, {"12-3", "12"}, {"--3", "0"}, {" 5", "0"},
            {"32768", "-32768"}, {"-32768", "-32768"}, {"65537", "1"}, {"99999", "-31073"}, {"0012x", "12"}, {"+5", "0"}};
        for (String[] pair : pairs) {
            Check.due("intValue of " + pair[0], Runs.written("var String s; let s = \"" + pair[0]
                + "\"; do Output.printInt(s.intValue());"), pair[1]);
        }
        Check.due("what is behind the length is no digit", Runs.written("var String s; let s = \"1234\"; do s.eraseLastChar();"
            + " do Output.printInt(s.intValue()); do s.eraseLastChar(); do s.eraseLastChar(); do s.eraseLastChar();"
            + " do Output.printInt(s.intValue());"), "1230");
        Check.due("no character is read if there is none", Runs.written("var String s; let s = 14334; do Output.printInt(s.intValue());"), "0");
        for (String v : new String[] {"0", "7", "10", "100", "999", "1000", "9999", "10000", "32767", "-1", "-10", "-32767 - 1"}) {
            String want = v.equals("-32767 - 1") ? "-32768" : v;
            Check.due("setInt of " + v, Runs.written("var String s; let s = String.new(6); do s.setInt(" + v
                + "); do Output.printString(s); do Output.printInt(s.intValue()); do Output.printInt(s.length());"),
                want + want + want.length());
            Check.due("printInt of " + v, Runs.written("do Output.printInt(" + v + ");"), want);
        }
    }

    private static void outputs() {
        Check.due("printChar", Runs.written("do Output.printChar(65); do Output.printChar(-1); do Output.printChar(256 + 66);"),
            "A\u00FFB");
        Check.due("println", Runs.written("do Output.println(); do Output.printInt(Output.println());"), "\n\n0");
        String[] giveNothing = {"Memory.poke(2048, 1)", "Memory.deAlloc(Memory.alloc(1))", "Output.printChar(120)",
            "Output.printString(\"x\")", "Screen.clearScreen()", "Screen.setColor(1)", "Screen.drawPixel(1, 1)",
            "Screen.drawLine(1, 1, 2, 2)", "Screen.drawRectangle(1, 1, 2, 2)", "Screen.drawCircle(5, 5, 2)", "Sys.wait(3)",
            "s.setCharAt(0, 1)", "s.eraseLastChar()", "s.setInt(1)", "s.dispose()", "a.dispose()"};
        for (String call : giveNothing) {
            String out = call.startsWith("Output") ? "x0" : "0";
            Check.due(call + " gives 0", Runs.written("var String s; var Array a; let s = \"ab\"; let a = Array.new(1);"
                + " do Output.printInt(" + call + ");"), out);
        }
        Check.due("printInt gives 0", Runs.written("do Output.printInt(Output.printInt(5));"), "50");
    }

    private static void keyboard() {
        TowerComputer x = Check.mainProgram("var String s; let s = Keyboard.readLine(\"? \"); do Output.printString(s);"
            + " do Output.printInt(s.length()); let s = Keyboard.readLine(\"\"); do Output.printInt(s.length());"
            + " do Output.printInt(s.charAt(0)); let s = Keyboard.readLine(\"!\"); do Output.printInt(s.length());");
        Check.keys(x, "line\n\u0000z");
        Check.due("run", x.run(50), 0);
        Check.due("output", Check.output(x), "? line4" + "20" + "!0");
        Check.due("count(6)", x.count(6), 0);
        Check.due("words of a line", x.word(2048 + 4), 80);
        TowerComputer y = Check.mainProgram("do Keyboard.readLine(\"\");");
        Check.keys(y, Check.times(80, "k") + "\nrest");
        Check.due("run with 80 keys", y.run(50), 0);
        Check.due("count(6)", y.count(6), 4);
        Check.keys(y, Check.times(82, "k") + "\n");
        Check.due("run with 82 keys", y.run(50), 3);
        Check.due("error()", y.error(), 17);
        Check.due("the key that has no room is taken", y.count(6), 2);
        TowerComputer z = Check.mainProgram("do Memory.alloc(12280); do Keyboard.readLine(\"ab\");");
        Check.keys(z, "abc");
        Check.due("run without room for a line", z.run(50), 3);
        Check.due("error()", z.error(), 6);
        Check.due("output ahead of it", Check.output(z), "ab");
        Check.due("keys that are not taken", z.count(6), 3);
    }

    private static void points() {
        TowerComputer x = Check.mainProgram("do Screen.drawPixel(0, 0); do Screen.drawPixel(63, 0); do Screen.drawPixel(15, 31);"
            + " do Screen.drawPixel(16, 31); do Screen.drawPixel(33, 5); do Screen.setColor(0); do Screen.drawPixel(0, 0);"
            + " do Screen.setColor(-1); do Screen.drawPixel(2, 0); do Output.printInt(Screen.drawPixel(1, 1));");
        Check.due("run", x.run(50), 0);
        Check.due("row(0)", x.row(0), Long.MIN_VALUE + 4);
        Check.due("row(31)", x.row(31), 3L << 15);
        Check.due("row(5)", x.row(5), 1L << 33);
        Check.due("row(32)", x.row(32), 0);
        Check.due("row(-1)", x.row(-1), 0);
        Check.due("word(16384)", x.word(16384), 4);
        Check.due("word(16387)", x.word(16387), -32768);
        Check.due("word(16384 + 22)", x.word(16384 + 22), 2);
        Check.due("word(16508)", x.word(16508), -32768);
        Check.due("word(16509)", x.word(16509), 1);
        for (String at : new String[] {"64, 0", "-1, 0", "0, 32", "0, -1"}) {
            Runs.failsInMain(7, "do Screen.drawPixel(" + at + ");");
        }
        TowerComputer y = Check.mainProgram("do Memory.poke(16386, -1); do Output.printInt(Screen.setColor(0));");
        Check.due("run", y.run(50), 0);
        Check.due("row(0) of words", y.row(0), 0xFFFFL << 32);
        TowerComputer z = Check.mainProgram("do Memory.poke(16511, 5); do Memory.poke(16384, 5); do Memory.poke(14335, 5);"
            + " do Screen.clearScreen();");
        z.run(50);
        Check.due("row(0) cleared", z.row(0), 0);
        Check.due("row(31) cleared", z.row(31), 0);
        Check.due("word(14335) not cleared", z.word(14335), 5);
    }

    /** The points of a drawing, row by row. */
    private static String picture(TowerComputer x, int width, int height) {
        StringBuilder all = new StringBuilder();
        for (int y = 0; y < height; y++) {
            for (int i = 0; i < width; i++) {
                all.append((x.row(y) >> i & 1) == 1 ? '#' : '.');
            }
            all.append('/');
        }
        return all.toString();
    }

    private static String drawn(String body, int width, int height) {
        TowerComputer x = Check.mainProgram(body);
        Check.due("run of " + body, x.run(100), 0);
        return picture(x, width, height);
    }

    private static void lines() {
        Check.due("flat line", drawn("do Screen.drawLine(1, 0, 3, 0);", 5, 2), ".###./...../");
        Check.due("flat line back", drawn("do Screen.drawLine(3, 0, 1, 0);", 5, 2), ".###./...../");
        Check.due("upright line", drawn("do Screen.drawLine(1, 0, 1, 2);", 3, 4), ".#./.#./.#./.../");
        Check.due("point", drawn("do Screen.drawLine(1, 1, 1, 1);", 3, 3), ".../.#./.../");
        Check.due("slanted line", drawn("do Screen.drawLine(0, 0, 3, 1);", 5, 3), "#..../####./...../");
        Check.due("slanted line back", drawn("do Screen.drawLine(3, 1, 0, 0);", 5, 3), "####./...#./...../");
        Check.due("steep line", drawn("do Screen.drawLine(0, 0, 1, 3);", 3, 4), "#../##./.#./.#./");
        Check.due("diagonal", drawn("do Screen.drawLine(2, 0, 0, 2);", 3, 3), "..#/.##/##./");
        Check.due("cleared line", drawn("do Screen.drawRectangle(0, 0, 3, 1); do Screen.setColor(false);"
            + " do Screen.drawLine(1, 0, 2, 0);", 4, 2), "#..#/####/");
        for (String at : new String[] {"0, 0, 64, 0", "0, 0, 0, 32", "-1, 0, 5, 5", "0, -1, 5, 5", "64, 0, 0, 0", "0, 0, -1, 0"}) {
            Runs.failsInMain(8, "do Screen.drawLine(" + at + ");");
        }
        Check.due("longest line", drawn("do Screen.drawLine(63, 31, 0, 0);", 1, 1), "#/");
    }

    private static void rectanglesAndCircles() {
        Check.due("rectangle", drawn("do Screen.drawRectangle(1, 1, 3, 2);", 5, 4), "...../.###./.###./...../");
        Check.due("rectangle of a point", drawn("do Screen.drawRectangle(2, 1, 2, 1);", 4, 3), "..../..#./..../");
        TowerComputer x = Check.mainProgram("do Screen.drawRectangle(0, 0, 63, 31); do Screen.setColor(0);"
            + " do Screen.drawRectangle(14, 3, 49, 3);");
        Check.due("run", x.run(50), 0);
        Check.due("row(0)", x.row(0), -1);
        Check.due("row(31)", x.row(31), -1);
        Check.due("row(3)", x.row(3), ~((1L << 50) - (1L << 14)));
        for (String at : new String[] {"3, 1, 2, 1", "1, 3, 1, 2", "-1, 0, 5, 5", "0, 0, 64, 5", "0, 0, 5, 32", "0, -1, 5, 5"}) {
            Runs.failsInMain(9, "do Screen.drawRectangle(" + at + ");");
        }
        Check.due("circle", drawn("do Screen.drawCircle(3, 3, 3);", 7, 7),
            "...#.../.#####./.#####./#######/.#####./.#####./...#.../");
        Check.due("circle of a point", drawn("do Screen.drawCircle(1, 1, 0);", 3, 3), ".../.#./.../");
        for (String at : new String[] {"5, 5, -1", "2, 5, 3", "5, 2, 3", "61, 5, 3", "5, 29, 3", "30, 15, 16", "32, 16, 32", "5, 5, 32767"}) {
            Runs.failsInMain(13, "do Screen.drawCircle(" + at + ");");
        }
        Check.due("largest circle", drawn("do Screen.drawCircle(15, 15, 15);", 1, 1), "./");
    }

    private static void sys() {
        Runs.value("Sys.wait(1)", 0);
        Runs.value("Sys.wait(32767)", 0);
        Runs.failsInMain(1, "do Sys.wait(0);");
        Runs.failsInMain(1, "do Sys.wait(-1);");
        Runs.failsInMain(-32768, "do Sys.error(-32767 - 1);");
        Runs.failsInMain(77, "do Sys.error(77);");
        Check.due("halt", Runs.written("do Output.printInt(1); do Sys.halt(); do Output.printInt(2);"), "1");
    }
}
