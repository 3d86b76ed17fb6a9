/** The boundaries under 'THE SYSTEM': for each sentence a test at it, one below it and one beyond it. */
public final class SystemEdgesTest {
    private static final int[] VALUES = {-32768, -32767, -1, 0, 1, 32766, 32767};

    public static void main(String[] args) {
        absolutes();
        leastAndMost();
        products();
        roots();
        peeksAndPokes();
        endsOfBlocks();
        arrays();
        newStrings();
        lengths();
        charactersAt();
        charactersSet();
        belowZeroAheadOfAllElse();
        charactersAppended();
        appendedInOrder();
        charactersErased();
        integersRead();
        integersGoRound();
        integersAtTheEndOfMemory();
        integersWritten();
        integersWithoutRoom();
        lowestEightBits();
        stringsPrinted();
        integersPrinted();
        keysAtTheEnd();
        lines();
        linesWithoutRoom();
        waits();
        Check.finish();
    }

    private static String term(int v) {
        return ValueEdgesTest.term(v);
    }

    private static void fails(int number, String body) {
        Runs.fails(number, Check.inMain(body));
    }

    private static void absolutes() {
        int[][] rows = {{-32768, -32768}, {-32767, 32767}, {-2, 2}, {-1, 1}, {0, 0}, {1, 1}, {32767, 32767}};
        for (int[] row : rows) {
            Runs.value("Math.abs(" + term(row[0]) + ")", row[1]);
        }
    }

    private static void leastAndMost() {
        for (int x : VALUES) {
            for (int y : VALUES) {
                Runs.value("Math.min(" + term(x) + ", " + term(y) + ")", Math.min(x, y));
                Runs.value("Math.max(" + term(x) + ", " + term(y) + ")", Math.max(x, y));
            }
        }
    }

    private static void products() {
        for (int x : VALUES) {
            for (int y : VALUES) {
                Runs.value("Math.multiply(" + term(x) + ", " + term(y) + ")", (short) (x * y));
                if (y == 0) {
                    fails(3, "^do Math.divide(" + term(x) + ", 0);");
                } else {
                    Runs.value("Math.divide(" + term(x) + ", " + term(y) + ")", (short) (x / y));
                }
            }
        }
    }

    /** The root without what is behind the point; of less than 0 ERROR 4. */
    private static void roots() {
        for (int r : new int[] {1, 2, 3, 4, 15, 16, 90, 127, 128, 180, 181}) {
            Runs.value("Math.sqrt(" + (r * r - 1) + ")", r - 1);
            Runs.value("Math.sqrt(" + r * r + ")", r);
            Runs.value("Math.sqrt(" + Math.min(32767, r * r + 1) + ")", r);
            Runs.value("Math.sqrt(" + Math.min(32767, r * r + 2 * r) + ")", r);
        }
        Runs.value("Math.sqrt(0)", 0);
        Runs.value("Math.sqrt(32767)", 181);
        for (int x : new int[] {-1, -2, -4, -32767, -32768}) {
            fails(4, "^do Math.sqrt(" + term(x) + ");");
        }
    }

    private static void peeksAndPokes() {
        for (int v : VALUES) {
            TowerComputer x = Check.mainProgram("do Memory.poke(2048, " + term(v) + "); do Memory.poke(16511, Memory.peek(2048));");
            Check.due("run", x.run(50), 0);
            Check.due("word(2048)", x.word(2048), v);
            Check.due("word(16511)", x.word(16511), v);
        }
    }

    /** deAlloc(a): the block that begins there; ERROR 21 if none does. */
    private static void endsOfBlocks() {
        String two = "do Memory.alloc(3); do Memory.alloc(2); ";
        for (int a : new int[] {2048, 2051}) {
            TowerComputer x = Check.mainProgram(two + "do Memory.deAlloc(" + a + ");");
            Check.due("run", x.run(50), 0);
            Check.due("count(3) without the block at " + a, x.count(3), a == 2048 ? 2 : 3);
            Check.due("count(4) without the block at " + a, x.count(4), 1);
            fails(21, two + "do Memory.deAlloc(" + a + "); ^do Memory.deAlloc(" + a + ");");
        }
        for (int a : new int[] {2047, 2049, 2050, 2052, 2053, 0, -1, -32768, 32767, 14335, 14336, 16384}) {
            TowerComputer x = Runs.fails(21, Check.inMain(two + "^do Memory.deAlloc(" + term(a) + ");"));
            Check.due("count(4) behind ERROR 21", x.count(4), 2);
            Check.due("count(3) behind ERROR 21", x.count(3), 5);
        }
        fails(21, "^do Memory.deAlloc(2048);");
        for (String dispose : new String[] {"Array", "String"}) {
            TowerComputer x = Check.mainProgram("var " + dispose + " a; let a = Memory.alloc(7); do a.dispose();");
            Check.due("run", x.run(50), 0);
            Check.due("count(4) behind dispose() of " + dispose, x.count(4), 0);
            fails(21, "var " + dispose + " a; let a = Memory.alloc(7) + 1; ^do a.dispose();");
            fails(21, "var " + dispose + " a; let a = Memory.alloc(7); do a.dispose(); ^do a.dispose();");
            fails(21, "var " + dispose + " a; ^do a.dispose();");
        }
    }

    /** Array.new(n): ERROR 2 for n below 1, else a block. */
    private static void arrays() {
        for (int n : new int[] {-32768, -1, 0}) {
            fails(2, "^do Array.new(" + term(n) + ");");
        }
        for (int n : new int[] {1, 2, 12287, 12288}) {
            TowerComputer x = Check.mainProgram("do Output.printInt(Array.new(" + n + "));");
            Check.due("run", x.run(50), 0);
            Check.due("Array.new(" + n + ")", Check.output(x), "2048");
            Check.due("count(3)", x.count(3), n);
        }
        fails(6, "^do Array.new(12289);");
        fails(6, "^do Array.new(32767);");
    }

    /** String.new(n): ERROR 14 for n below 0, else a block of n + 2, which goes round: ERROR 5 for n above 32765. */
    private static void newStrings() {
        for (int n : new int[] {-32768, -32767, -2, -1}) {
            fails(14, "^do String.new(" + term(n) + ");");
        }
        for (int n : new int[] {0, 1, 2, 12285, 12286}) {
            TowerComputer x = Check.mainProgram("do Memory.poke(2048, 9); do Memory.poke(2049, 9); do Memory.poke(2050, 9);"
                + " do Output.printInt(String.new(" + n + "));");
            Check.due("run", x.run(50), 0);
            Check.due("String.new(" + n + ")", Check.output(x), "2048");
            Check.due("word o of String.new(" + n + ")", x.word(2048), n);
            Check.due("length of String.new(" + n + ")", x.word(2049), 0);
            Check.due("the words behind stay", x.word(2050), 9);
            Check.due("count(3)", x.count(3), n + 2);
        }
        for (int n : new int[] {12287, 12288, 32764, 32765}) {
            fails(6, "^do String.new(" + n + ");");
        }
        fails(5, "^do String.new(32766);");
        fails(5, "^do String.new(32767);");
    }

    private static boolean isMemory(int address) {
        return address >= 2048 && address <= 14335 || address >= 16384 && address <= 16511;
    }

    /** length(): word o + 1, whatever o is. */
    private static void lengths() {
        for (int o : new int[] {2046, 2047, 14334, 14335, 16382, 16383, 16510, 16511, 0, -1, -32768, 32767}) {
            String body = "var String s; let s = " + term(o) + "; ";
            if (isMemory(o + 1)) {
                Check.due("length() at " + o, Runs.written(body + "do Memory.poke(s + 1, -7); do Output.printInt(s.length());"), "-7");
            } else {
                fails(20, body + "^do s.length();");
            }
        }
    }

    /** charAt(j): ERROR 15 if j is below 0 or not below the length. */
    private static void charactersAt() {
        for (int length = 0; length <= 3; length++) {
            String s = "var String s; let s = String.new(3); " + Check.times(length, "do s.appendChar(65 + #); ");
            for (int j : new int[] {-32768, -1, 0, 1, 2, 3, 4, 32767}) {
                if (j >= 0 && j < length) {
                    Check.due("charAt(" + j + ") of " + length, Runs.written(s + "do Output.printInt(s.charAt(" + j + "));"),
                        Integer.toString(65 + j));
                } else {
                    fails(15, s + "^do s.charAt(" + term(j) + ");");
                }
            }
        }
        // The length may be more than there was room for; the words end with the memory.
        String high = "var String s; let s = 14331; do Memory.poke(14332, 4); do Memory.poke(14335, 77); ";
        Check.due("charAt(2), the last word", Runs.written(high + "do Output.printInt(s.charAt(2));"), "77");
        fails(20, high + "^do s.charAt(3);");
        fails(15, high + "^do s.charAt(4);");
        // What room there is, word o, is not asked for.
        String low = "var String s; let s = 2047; do Memory.poke(2048, 1); do Memory.poke(2049, 78); ";
        Check.due("charAt(0) of an object without a word o", Runs.written(low + "do Output.printInt(s.charAt(0));"), "78");
    }

    /** setCharAt(j, c): ERROR 16 likewise. */
    private static void charactersSet() {
        for (int length = 0; length <= 3; length++) {
            String s = "var String s; let s = String.new(3); " + Check.times(length, "do s.appendChar(65 + #); ");
            for (int j : new int[] {-32768, -1, 0, 1, 2, 3, 4, 32767}) {
                if (j >= 0 && j < length) {
                    TowerComputer x = Check.mainProgram(s + "do s.setCharAt(" + j + ", -500);");
                    Check.due("run", x.run(50), 0);
                    Check.due("the word of setCharAt(" + j + ")", x.word(2050 + j), -500);
                    Check.due("the length", x.word(2049), length);
                } else {
                    TowerComputer x = Runs.fails(16, Check.inMain(s + "^do s.setCharAt(" + term(j) + ", -500);"));
                    Check.due("the word behind the length", x.word(2050 + length), 0);
                }
            }
        }
        String high = "var String s; let s = 14331; do Memory.poke(14332, 4); ";
        Check.due("setCharAt(2, 77), the last word", Runs.written(high + "do s.setCharAt(2, 77); do Output.printInt(Memory.peek(14335));"),
            "77");
        fails(20, high + "^do s.setCharAt(3, 77);");
        fails(16, high + "^do s.setCharAt(4, 77);");
    }

    /** That j is below 0 is looked at ahead of all else, also of an object that is none. */
    private static void belowZeroAheadOfAllElse() {
        for (int o : new int[] {0, 2046, 14335, 16511}) {
            String s = "var String s; let s = " + o + "; ";
            fails(15, s + "^do s.charAt(-1);");
            fails(20, s + "^do s.charAt(0);");
            fails(16, s + "^do s.setCharAt(-1, 5);");
            fails(20, s + "^do s.setCharAt(0, 5);");
        }
    }

    /** appendChar(c): ERROR 17 if the length is not below word o; gives o. */
    private static void charactersAppended() {
        for (int n = 0; n <= 3; n++) {
            for (int k = 0; k <= n + 1; k++) {
                String body = "var String s; let s = String.new(" + n + "); " + Check.times(k, "do s.appendChar(65 + #); ");
                if (k <= n) {
                    TowerComputer x = Check.mainProgram(body);
                    Check.due("run of " + k + " in a String of " + n, x.run(50), 0);
                    Check.due("length of " + k + " in a String of " + n, x.word(2049), k);
                    Check.due("the last of " + k, x.word(2049 + k), k == 0 ? 0 : 64 + k);
                } else {
                    TowerComputer x = Runs.failsInMain(17, body);
                    Check.due("length behind ERROR 17", x.word(2049), n);
                    Check.due("nothing is written", x.word(2050 + n), 0);
                }
            }
        }
        String raw = "var String s; let s = 3000; do Memory.poke(3000, @); do Memory.poke(3001, #); ";
        int[][] fine = {{1, 0}, {0, -1}, {-1, -2}, {32767, 100}, {5, 4}};
        for (int[] row : fine) {
            TowerComputer x = Check.mainProgram(raw.replace("@", term(row[0])).replace("#", term(row[1]))
                + "do Output.printInt(s.appendChar(7));");
            Check.due("run with word o " + row[0] + ", length " + row[1], x.run(50), 0);
            Check.due("appendChar gives o", Check.output(x), "3000");
            Check.due("length", x.word(3001), row[1] + 1);
        }
        int[][] full = {{0, 0}, {1, 1}, {1, 2}, {-1, -1}, {-1, 0}, {-32768, -32768}, {32767, 32767}, {5, 5}, {5, 32767}};
        for (int[] row : full) {
            fails(17, raw.replace("@", term(row[0])).replace("#", term(row[1])) + "^do s.appendChar(7);");
        }
    }

    /** The character is written first, then the length, which is one more than it was read to be. */
    private static void appendedInOrder() {
        String raw = "var String s; let s = 3000; do Memory.poke(3000, 9); do Memory.poke(3001, #); do s.appendChar(50);";
        TowerComputer x = Check.mainProgram(raw.replace("#", "-1"));
        Check.due("run", x.run(50), 0);
        Check.due("the length, which the character has gone to first", x.word(3001), 0);
        TowerComputer y = Check.mainProgram(raw.replace("#", "-2"));
        Check.due("run", y.run(50), 0);
        Check.due("word o, which the character has gone to", y.word(3000), 50);
        Check.due("the length", y.word(3001), -1);
        TowerComputer z = Check.mainProgram("var String s; let s = 14333; do Memory.poke(s, 3); do s.appendChar(50);");
        Check.due("run", z.run(50), 0);
        Check.due("the last word of the heap", z.word(14335), 50);
        TowerComputer u = Runs.fails(20, Check.inMain("var String s; let s = 14333; do Memory.poke(s, 3); do s.appendChar(50);"
            + " ^do s.appendChar(51);"));
        Check.due("the length stays where no character is written", u.word(14334), 1);
        for (int o : new int[] {0, 2046, 2047, 14335, 14336, 16382, 16383, 16511}) {
            fails(20, "var String s; let s = " + o + "; ^do s.appendChar(50);");
        }
    }

    /** eraseLastChar(): ERROR 18 if the length is below 1. */
    private static void charactersErased() {
        for (int length : new int[] {-32768, -1, 0, 1, 2, 32767}) {
            String body = "var String s; let s = 3000; do Memory.poke(3001, " + term(length) + "); ^do s.eraseLastChar();";
            if (length < 1) {
                TowerComputer x = Runs.fails(18, Check.inMain(body));
                Check.due("length behind ERROR 18", x.word(3001), length);
            } else {
                TowerComputer x = Check.mainProgram(body.replace("^", ""));
                Check.due("run", x.run(50), 0);
                Check.due("length", x.word(3001), length - 1);
            }
        }
        fails(20, "var String s; let s = 2046; ^do s.eraseLastChar();");
        fails(20, "var String s; let s = 14335; ^do s.eraseLastChar();");
    }

    private static String intValue(String s) {
        return Runs.written("var String s; let s = \"" + s + "\"; do Output.printInt(s.intValue());");
    }

    /** intValue(): perhaps 45, then digits 48 .. 57 as far as they go; 0 without any. */
    private static void integersRead() {
        String[][] rows = {{"", "0"}, {"-", "0"}, {"0", "0"}, {"9", "9"}, {"-0", "0"}, {"-9", "-9"}, {"--9", "0"}, {"-9-", "-9"}, {"9-9", "9"},
            {"/", "0"}, {":", "0"}, {"1/2", "1"}, {"1:2", "1"}, {"1 2", "1"}, {",5", "0"}, {".5", "0"}, {" 5", "0"}, {"5.", "5"}, {"-/", "0"},
            {"007", "7"}, {"-x7", "0"}, {"01234", "1234"}};
        for (String[] row : rows) {
            Check.due("intValue() of " + row[0], intValue(row[0]), row[1]);
        }
        // Characters are words: what is a digit or - but for higher bits is none.
        for (int c : new int[] {45, 47, 48, 57, 58, 45 + 256, 48 + 256, 57 - 256}) {
            int want = c >= 48 && c <= 57 ? 10 * (c - 48) + 5 : c == 45 ? -5 : 0;
            Check.due("intValue() from " + c, Runs.written("var String s; let s = \"x5\"; do s.setCharAt(0, " + term(c)
                + "); do Output.printInt(s.intValue());"), Integer.toString(want));
        }
        // As far as the length goes.
        for (int length = 0; length <= 4; length++) {
            Check.due("intValue() of length " + length, Runs.written("var String s; let s = \"1234\"; do Memory.poke(s + 1, " + length
                + "); do Output.printInt(s.intValue());"), length == 0 ? "0" : "1234".substring(0, length));
        }
        Check.due("intValue() of a length below 0", Runs.written("var String s; let s = \"1234\"; do Memory.poke(s + 1, -1);"
            + " do Output.printInt(s.intValue());"), "0");
    }

    private static void integersGoRound() {
        long[] numbers = {32766, 32767, 32768, 32769, 65535, 65536, 65537, 99999, 100000, 4294967295L, 4294967296L, 4294967297L};
        for (long n : numbers) {
            Check.due("intValue() of " + n, intValue(Long.toString(n)), Integer.toString((short) n));
            Check.due("intValue() of -" + n, intValue("-" + n), Integer.toString((short) -n));
        }
        java.math.BigInteger most = new java.math.BigInteger(Check.times(60, "9"));
        Check.due("intValue() of 60 digits", intValue(Check.times(60, "9")), Integer.toString(most.shortValue()));
    }

    /** A digit that is beyond the memory is ERROR 20, if what is ahead of it goes as far. */
    private static void integersAtTheEndOfMemory() {
        String high = "var String s; let s = 14332; do Memory.poke(14333, #); do Memory.poke(14334, 49); do Memory.poke(14335, @); ";
        Check.due("two digits", Runs.written(high.replace("#", "2").replace("@", "50") + "do Output.printInt(s.intValue());"), "12");
        fails(20, high.replace("#", "3").replace("@", "50") + "^do s.intValue();");
        Check.due("a digit and another", Runs.written(high.replace("#", "3").replace("@", "65") + "do Output.printInt(s.intValue());"), "1");
        fails(20, "var String s; let s = 14334; do Memory.poke(14335, 1); ^do s.intValue();");
        Check.due("nothing to read", Runs.written("var String s; let s = 14334; do Output.printInt(s.intValue());"), "0");
        fails(20, "var String s; let s = 14335; ^do s.intValue();");
        fails(20, "var String s; ^do s.intValue();");
    }

    private static final int[] INTEGERS = {-32768, -32767, -10000, -9999, -1000, -999, -100, -99, -10, -9, -1, 0, 1, 9, 10, 11, 99, 100, 101,
        999, 1000, 1001, 9999, 10000, 10001, 32766, 32767};

    /** setInt(v): the length is 0, then - and digits are appended. */
    private static void integersWritten() {
        for (int v : INTEGERS) {
            String want = Integer.toString(v);
            Check.due("setInt(" + v + ")", Runs.written("var String s; let s = String.new(" + want.length() + "); do s.setInt(" + term(v)
                + "); do Output.printString(s); do Output.println(); do Output.printInt(s.intValue()); do Output.println();"
                + " do Output.printInt(s.length());"), want + "\n" + want + "\n" + want.length());
        }
        Check.due("setInt where other characters were", Runs.written("var String s; let s = \"abcdef\"; do s.setInt(12);"
            + " do Output.printString(s); do Output.printInt(s.length());"), "122");
    }

    /** They are appended one by one as by appendChar: without room ERROR 17, and what is ahead of it is there. */
    private static void integersWithoutRoom() {
        for (int v : INTEGERS) {
            String want = Integer.toString(v);
            for (int room = 0; room < want.length(); room++) {
                TowerComputer x = Runs.fails(17, Check.inMain("var String s; let s = String.new(" + room + "); ^do s.setInt(" + term(v)
                    + ");"));
                Check.due("length behind setInt(" + v + ") with room " + room, x.word(2049), room);
                for (int i = 0; i < room; i++) {
                    Check.due("character " + i, x.word(2050 + i), want.charAt(i));
                }
            }
        }
        TowerComputer y = Runs.fails(20, Check.inMain("var String s; let s = 14333; do Memory.poke(14333, 9); do Memory.poke(14334, 5);"
            + " ^do s.setInt(78);"));
        Check.due("the first digit", y.word(14335), '7');
        Check.due("the length", y.word(14334), 1);
        TowerComputer z = Runs.fails(20, Check.inMain("var String s; let s = 2047; do Memory.poke(2048, 5); ^do s.setInt(78);"));
        Check.due("the length is 0 ahead of all else", z.word(2048), 0);
        fails(20, "var String s; ^do s.setInt(78);");
    }

    /** printChar(c): its lowest 8 bits are written. */
    private static void lowestEightBits() {
        for (int c : new int[] {-32768, -257, -256, -255, -1, 0, 1, 10, 127, 128, 254, 255, 256, 257, 511, 512, 32767}) {
            Check.due("printChar(" + c + ")", Runs.written("do Output.printChar(" + term(c) + ");"), Character.toString((char) (c & 255)));
            Check.due("printString with " + c, Runs.written("var String s; let s = \"ab\"; do s.setCharAt(0, " + term(c)
                + "); do Output.printString(s);"), (char) (c & 255) + "b");
        }
        Check.due("println", Runs.written("do Output.println();"), "\n");
        Runs.value("String.newLine()", 10);
        Runs.value("String.doubleQuote()", 34);
        Runs.value("String.backSpace()", 8);
    }

    /** printString(s): as many characters as its length. */
    private static void stringsPrinted() {
        for (int length : new int[] {-32768, -1, 0, 1, 2, 4}) {
            String body = "var String s; let s = \"abcd\"; do Memory.poke(s + 1, " + term(length) + "); do Output.printString(s);";
            Check.due("printString of length " + length, Runs.written(body), "abcd".substring(0, Math.max(0, length)));
        }
        TowerComputer x = Runs.fails(20, Check.inMain("var String s; let s = 14332; do Memory.poke(14333, 3); do Memory.poke(14334, 65);"
            + " do Memory.poke(14335, 66); ^do Output.printString(s);"));
        Check.due("what is ahead of the end of memory", Check.output(x), "AB");
        Check.due("as far as the memory goes", Runs.written("var String s; let s = 14332; do Memory.poke(14333, 2);"
            + " do Memory.poke(14334, 65); do Memory.poke(14335, 66); do Output.printString(s);"), "AB");
        for (int s : new int[] {0, 2046, 14335, 16382, 16511, -1}) {
            fails(20, "^do Output.printString(" + term(s) + ");");
        }
        for (int s : new int[] {2047, 14334, 16383, 16510}) {
            Check.due("an empty string at " + s, Runs.written("do Output.printString(" + s + ");"), "");
        }
    }

    private static void integersPrinted() {
        for (int v : INTEGERS) {
            Runs.value(term(v), v);
        }
    }

    /** keyPressed(): the next key, or 0; readChar(): the same, and it is taken. */
    private static void keysAtTheEnd() {
        TowerComputer x = Check.mainProgram("var int i; while (i < 3) { let i = i + 1; do Output.printInt(Keyboard.keyPressed());"
            + " do Output.printInt(Keyboard.keyPressed()); do Output.printInt(Keyboard.readChar()); do Output.println(); }");
        String[] keys = {"", "A", "AB", "ABC", "ABCD", "\u0000\u00FF\n"};
        String[] outputs = {"000\n000\n000\n", "656565\n000\n000\n", "656565\n666666\n000\n", "656565\n666666\n676767\n",
            "656565\n666666\n676767\n", "000\n255255255\n101010\n"};
        for (int i = 0; i < keys.length; i++) {
            Check.keys(x, keys[i]);
            Check.due("run with " + keys[i].length() + " keys", x.run(50), 0);
            Check.due("output", Check.output(x), outputs[i]);
            Check.due("count(6) with " + keys[i].length() + " keys", x.count(6), Math.max(0, keys[i].length() - 3));
        }
        TowerComputer y = Check.mainProgram("do Keyboard.keyPressed(); do Keyboard.keyPressed();");
        Check.keys(y, "A");
        y.run(50);
        Check.due("a key that is only looked at is not taken", y.count(6), 1);
    }

    private static TowerComputer readsLine(String keys) {
        TowerComputer x = Check.mainProgram("var String s; let s = Keyboard.readLine(\"?\"); do Output.printString(s);"
            + " do Output.printInt(s.length());");
        Check.keys(x, keys);
        return x;
    }

    /** readLine(s): a String new(80), to which keys are appended up to a 10, which is taken too, or the end. */
    private static void lines() {
        for (int n : new int[] {0, 1, 79, 80}) {
            for (String behind : new String[] {"", "\n", "\nrest", "\n\n"}) {
                TowerComputer x = readsLine(Check.times(n, "k") + behind);
                Check.due("run with a line of " + n, x.run(50), 0);
                Check.due("output with a line of " + n, Check.output(x), "?" + Check.times(n, "k") + n);
                Check.due("count(6) with a line of " + n, x.count(6), Math.max(0, behind.length() - 1));
                Check.due("room of a line", x.word(2051), 80);
                Check.due("count(3)", x.count(3), 3 + 82);
                Check.due("count(4)", x.count(4), 2);
            }
        }
        for (int n : new int[] {81, 82, 199}) {
            TowerComputer x = readsLine(Check.times(n, "k") + "\n");
            Check.due("run with a line of " + n, x.run(50), 3);
            Check.due("error()", x.error(), 17);
            Check.due("output with a line of " + n, Check.output(x), "?");
            Check.due("the length of a line that is full", x.word(2052), 80);
            Check.due("count(6), the key without room is taken", x.count(6), n + 1 - 81);
        }
        TowerComputer y = readsLine("\u0000\u00FF\r9\nz");
        Check.due("run with other keys", y.run(50), 0);
        Check.due("a 0 is a key like others", Check.output(y), "?\u0000\u00FF\r94");
        Check.due("count(6)", y.count(6), 1);
    }

    private static void linesWithoutRoom() {
        String text = "do Memory.alloc(@); ^do Keyboard.readLine(2048);";
        TowerComputer x = Check.mainProgram(text.replace("^", "").replace("@", "12206"));
        Check.keys(x, "ab\nc");
        Check.due("run with 82 words left", x.run(50), 0);
        Check.due("count(6)", x.count(6), 1);
        TowerComputer y = Check.mainProgram(text.replace("^", "").replace("@", "12207"));
        Check.keys(y, "ab\nc");
        Check.due("run with 81 words left", y.run(50), 3);
        Check.due("error()", y.error(), 6);
        Check.due("count(6), no key is taken", y.count(6), 4);
        for (int blocks : new int[] {99, 100}) {
            TowerComputer z = Check.mainProgram("var int i; while (i < " + blocks + ") { let i = i + 1; do Memory.alloc(1); }"
                + " do Keyboard.readLine(2047);");
            Check.due("run with " + blocks + " blocks", z.run(5000), blocks == 100 ? 3 : 0);
            Check.due("error()", z.error(), blocks == 100 ? 6 : 0);
        }
        TowerComputer u = Check.mainProgram("do Keyboard.readLine(0);");
        Check.keys(u, "ab\n");
        Check.due("run with a string that is none", u.run(50), 3);
        Check.due("error()", u.error(), 20);
        Check.due("count(4), no String is made", u.count(4), 0);
        Check.due("count(6), no key is taken", u.count(6), 3);
    }

    /** wait(n): ERROR 1 for n below 1. */
    private static void waits() {
        for (int n : VALUES) {
            if (n < 1) {
                fails(1, "^do Sys.wait(" + term(n) + ");");
            } else {
                Runs.value("Sys.wait(" + n + ")", 0);
            }
        }
    }
}
