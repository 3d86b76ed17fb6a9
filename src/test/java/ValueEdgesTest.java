/** The boundaries under 'VALUES': for each sentence a test at it, one below it and one beyond it. */
public final class ValueEdgesTest {
    private static final int[] VALUES = {-32768, -32767, -16384, -256, -2, -1, 0, 1, 2, 181, 182, 255, 256, 16384, 32766, 32767};
    /** Addresses on both sides of all ends of the memory, and those that are the farthest. */
    private static final int[] ADDRESSES = {2047, 2048, 14335, 14336, 16383, 16384, 16511, 16512, -32768, -1, 0, 32767};

    public static void main(String[] args) {
        constants();
        sumsGoRound();
        productsGoRound();
        quotients();
        divisionsByZero();
        bits();
        comparisons();
        signsOfATerm();
        fromTheLeft();
        bothSidesTheLeftFirst();
        endsOfMemory();
        indexGoesRound();
        orderOfAnIndex();
        writtenWhenTheValueIsThere();
        fieldsAreWords();
        sizesOfBlocks();
        leastAddress();
        mostBlocks();
        errorsOfBlocksInOrder();
        wordsStayAsTheyWere();
        Check.finish();
    }

    /** A term that has this value; -32768 is no number, nor is one below 0. */
    static String term(int v) {
        return v == -32768 ? "(-32767 - 1)" : v < 0 ? "(" + v + ")" : Integer.toString(v);
    }

    private static boolean isMemory(int address) {
        return address >= 2048 && address <= 14335 || address >= 16384 && address <= 16511;
    }

    /** All pairs of values with one operator, worked out in one program and its runs. */
    private static String allPairs(String operator) {
        StringBuilder all = new StringBuilder();
        for (int left : VALUES) {
            StringBuilder body = new StringBuilder("var int a; let a = " + term(left) + ";");
            for (int right : VALUES) {
                body.append(" do Output.printInt(a ").append(operator).append(' ').append(term(right)).append("); do Output.println();");
            }
            all.append(Runs.written(body.toString()));
        }
        return all.toString();
    }

    private static void constants() {
        Runs.value("true", -1);
        Runs.value("false", 0);
        Runs.value("null", 0);
        Runs.value("32767", 32767);
        Runs.value("0", 0);
    }

    /** All are words that go round. */
    private static void sumsGoRound() {
        Runs.value("32766 + 1", 32767);
        Runs.value("32767 + 1", -32768);
        Runs.value("-32767 - 1", -32768);
        Runs.value("-32767 - 2", 32767);
        StringBuilder sums = new StringBuilder();
        StringBuilder differences = new StringBuilder();
        for (int left : VALUES) {
            for (int right : VALUES) {
                sums.append((short) (left + right)).append('\n');
                differences.append((short) (left - right)).append('\n');
            }
        }
        Check.due("all sums", allPairs("+"), sums.toString());
        Check.due("all differences", allPairs("-"), differences.toString());
    }

    /** Of a product the lowest 16 bits. */
    private static void productsGoRound() {
        Runs.value("181 * 181", 32761);
        Runs.value("182 * 182", -32412);
        Runs.value("256 * 127", 32512);
        Runs.value("256 * 128", -32768);
        Runs.value("256 * 256", 0);
        StringBuilder products = new StringBuilder();
        for (int left : VALUES) {
            for (int right : VALUES) {
                products.append((short) (left * right)).append('\n');
            }
        }
        Check.due("all products", allPairs("*"), products.toString());
    }

    /** Division goes towards 0, and -32768 / -1 is -32768. */
    private static void quotients() {
        int[][] rows = {{3, 4, 0}, {4, 4, 1}, {5, 4, 1}, {7, 4, 1}, {8, 4, 2}, {-3, 4, 0}, {-4, 4, -1}, {-5, 4, -1}, {-7, 4, -1}, {-8, 4, -2},
            {3, -4, 0}, {4, -4, -1}, {7, -4, -1}, {-3, -4, 0}, {-4, -4, 1}, {-7, -4, 1}, {-32768, -1, -32768}, {-32767, -1, 32767},
            {-32768, 1, -32768}, {-32768, -2, 16384}, {-32768, 2, -16384}, {32767, -1, -32767}, {32767, -32768, 0}, {-32768, 32767, -1},
            {-32768, -32768, 1}, {0, -32768, 0}, {0, 1, 0}};
        for (int[] row : rows) {
            Runs.value(term(row[0]) + " / " + term(row[1]), row[2]);
            Runs.value("Math.divide(" + term(row[0]) + ", " + term(row[1]) + ")", row[2]);
        }
    }

    private static void divisionsByZero() {
        for (int v : VALUES) {
            Runs.fails(3, Check.inMain("^return " + term(v) + " / 0;"));
            Runs.fails(3, Check.inMain("^do Math.divide(" + term(v) + ", 0);"));
            Runs.value("1 / " + term(v == 0 ? 1 : v), Math.abs(v) <= 1 ? (v < 0 ? -1 : 1) : 0);
        }
    }

    private static void bits() {
        StringBuilder ands = new StringBuilder();
        StringBuilder ors = new StringBuilder();
        for (int left : VALUES) {
            for (int right : VALUES) {
                ands.append(left & right).append('\n');
                ors.append(left | right).append('\n');
            }
        }
        Check.due("all ands", allPairs("&"), ands.toString());
        Check.due("all ors", allPairs("|"), ors.toString());
    }

    /** The signs < > = give true or false, also where the difference would go round. */
    private static void comparisons() {
        StringBuilder less = new StringBuilder();
        StringBuilder more = new StringBuilder();
        StringBuilder same = new StringBuilder();
        for (int left : VALUES) {
            for (int right : VALUES) {
                less.append(left < right ? -1 : 0).append('\n');
                more.append(left > right ? -1 : 0).append('\n');
                same.append(left == right ? -1 : 0).append('\n');
            }
        }
        Check.due("all <", allPairs("<"), less.toString());
        Check.due("all >", allPairs(">"), more.toString());
        Check.due("all =", allPairs("="), same.toString());
    }

    private static void signsOfATerm() {
        for (int v : VALUES) {
            Runs.value("-" + term(v), (short) -v);
            Runs.value("~" + term(v), ~v);
            Runs.value("--" + term(v), v);
            Runs.value("-~" + term(v), (short) (v + 1));
        }
        Runs.value("-1 + 2", 1);
        Runs.value("~1 & 1", 0);
        Runs.value("-(1 + 2)", -3);
    }

    private static void fromTheLeft() {
        Runs.value("1 + 2 * 3", 9);
        Runs.value("1 + (2 * 3)", 7);
        Runs.value("10 - 3 - 2", 5);
        Runs.value("1 = 1 = -1", -1);
        Runs.value("1 < 2 < 0", -1);
        Runs.value("8 / 2 * 4", 16);
        Runs.value("1 | 2 & 4", 0);
    }

    /** Both sides are worked out, the left one first; also of & and |, whatever the left one is. */
    private static void bothSidesTheLeftFirst() {
        String f = "class Main { function int f(int a) { do Output.printInt(a); return a; } function void main() { ";
        for (String operator : new String[] {"+", "-", "*", "/", "&", "|", "<", ">", "="}) {
            Check.due("both sides of " + operator, Runs.runOf(f + "do Math.abs(Main.f(0) " + operator + " Main.f(5));"
                + " do Math.abs(Main.f(-1) " + operator + " Main.f(6)); } }"), "05-16");
            TowerComputer x = Runs.fails(3, f + "^return Main.f(7) " + operator + " (1 / 0); } }");
            Check.due("the left side of " + operator, Check.output(x), "7");
            TowerComputer y = Runs.fails(3, f + "^return (1 / 0) " + operator + " Main.f(7); } }");
            Check.due("the right side of " + operator, Check.output(y), "");
        }
    }

    /** The heap, 2048 .. 14335, and the screen, 16384 .. 16511; another address is ERROR 20. */
    private static void endsOfMemory() {
        for (int a : ADDRESSES) {
            String set = "var Array a; let a = " + term(a) + "; ";
            String[] reads = {"return a[0];", "return Memory.peek(a);", "do Math.abs(a[0]);"};
            String[] writes = {"let a[0] = 77;", "do Memory.poke(a, 77);"};
            for (String read : reads) {
                reached(a, set + "^" + read);
            }
            for (String write : writes) {
                TowerComputer x = reached(a, set + "^" + write);
                Check.due("word(" + a + ")", x.word(a), isMemory(a) ? 77 : 100000);
            }
        }
    }

    private static TowerComputer reached(int address, String marked) {
        if (!isMemory(address)) {
            return Runs.fails(20, Check.inMain(marked));
        }
        TowerComputer x = Check.mainProgram(marked.replace("^", ""));
        Check.due("run of " + marked, x.run(50), 0);
        return x;
    }

    /** The address is a word, too: a plus e goes round. */
    private static void indexGoesRound() {
        int[] arrays = {-32768, -32767, -1, 0, 1, 32766, 32767};
        for (int a : arrays) {
            for (int address : new int[] {2047, 2048, 14335, 14336, 16384, 16511, 16512}) {
                String body = "var Array a; let a = " + term(a) + "; ^let a[" + term((short) (address - a)) + "] = 5;";
                TowerComputer x = reached(address, body);
                Check.due("word(" + address + ") by " + a, x.word(address), isMemory(address) ? 5 : 100000);
            }
        }
    }

    /** The value of a is worked out ahead of that of e. */
    private static void orderOfAnIndex() {
        String head = "class Main { static Array s; function int f(int a) { let s = a; return 1; } function void main() { ";
        TowerComputer x = Check.program(head + "let s = 2048; do Memory.poke(2049, 5); do Memory.poke(3001, 6);"
            + " do Output.printInt(s[Main.f(3000)]); do Output.printInt(s[1]); let s[Main.f(4000)] = s[0]; let s[1] = Main.f(5000); } }");
        Check.due("run", x.run(50), 0);
        Check.due("read by the array as it was", Check.output(x), "56");
        Check.due("written by the array as it was", x.word(4001), 1);
    }

    /** A word is written when the value is there: neither ahead of it nor, with a wrong address, instead of it. */
    private static void writtenWhenTheValueIsThere() {
        String head = "class Main { function int f(int a) { do Output.printInt(Memory.peek(2048)); return a; } function void main() {"
            + " var Array a; let a = 2048; let a[0] = 3; ";
        TowerComputer x = Check.program(head + "let a[0] = Main.f(4); let a[0] = Main.f(5); } }");
        Check.due("run", x.run(50), 0);
        Check.due("the word while its value is worked out", Check.output(x), "34");
        Check.due("word(2048)", x.word(2048), 5);
        TowerComputer y = Runs.fails(20, head + "^let a[-1] = Main.f(4); } }");
        Check.due("the value is worked out ahead of ERROR 20", Check.output(y), "3");
        TowerComputer z = Runs.fails(3, head + "^let a[0] = 1 / 0; } }");
        Check.due("word(2048) behind an error", z.word(2048), 3);
    }

    /** A field is the word at this plus its number in its class. */
    private static void fieldsAreWords() {
        String text = "class A { field int a, b; static int s; field int c; method int get(int i) { if (i = 0) { return a; }"
            + " if (i = 1) { return b; } return c; } method void put(int i, int v) { if (i = 0) { let a = v; } if (i = 1) { let b = v; }"
            + " if (i = 2) { let c = v; } } } class Main { function void main() { var A x; let x = @; do x.put(#, 9);"
            + " do Output.printInt(x.get(#)); } }";
        for (int a : ADDRESSES) {
            for (int i = 0; i < 3; i++) {
                for (int start : new int[] {a, (short) (a - i)}) {
                    TowerComputer x = Check.program(text.replace("@", term(start)).replace("#", Integer.toString(i)));
                    int at = (short) (start + i);
                    Check.due("run with field " + i + " of " + start, x.run(50), isMemory(at) ? 0 : 3);
                    Check.due("error() with field " + i + " of " + start, x.error(), isMemory(at) ? 0 : 20);
                    Check.due("word(" + at + ")", x.word(at), isMemory(at) ? 9 : 100000);
                    Check.due("output", Check.output(x), isMemory(at) ? "9" : "");
                }
            }
        }
    }

    /** For n below 1 ERROR 5, and for more words than there are ERROR 6. */
    private static void sizesOfBlocks() {
        for (int n : new int[] {-32768, -2, -1, 0}) {
            Runs.fails(5, Check.inMain("^do Memory.alloc(" + term(n) + ");"));
        }
        for (int n : new int[] {1, 2, 12287, 12288}) {
            TowerComputer x = Check.mainProgram("do Output.printInt(Memory.alloc(" + n + "));");
            Check.due("run", x.run(50), 0);
            Check.due("address of a block of " + n, Check.output(x), "2048");
            Check.due("count(3)", x.count(3), n);
            Check.due("count(4)", x.count(4), 1);
        }
        for (int n : new int[] {12289, 12290, 32766, 32767}) {
            TowerComputer x = Runs.fails(6, Check.inMain("^do Memory.alloc(" + n + ");"));
            Check.due("count(3)", x.count(3), 0);
            Check.due("count(4)", x.count(4), 0);
        }
        Check.due("the last word of the heap", Runs.written("do Memory.alloc(12287); do Output.printInt(Memory.alloc(1));"), "14335");
        Runs.fails(6, Check.inMain("do Memory.alloc(12287); ^do Memory.alloc(2);"));
        Runs.fails(6, Check.inMain("do Memory.alloc(12288); ^do Memory.alloc(1);"));
    }

    private static String allocated(int n, String blocks) {
        return Runs.written("var int i; " + blocks + " do Output.printInt(Memory.alloc(" + n + "));");
    }

    /** The least address from which n words are in no block. */
    private static void leastAddress() {
        // Gaps of 3 ahead of all, of 5 between, and of 4 at the end.
        String gaps = "do Memory.alloc(3); do Memory.alloc(10); do Memory.alloc(5); do Memory.alloc(12266);"
            + " do Memory.deAlloc(2048); do Memory.deAlloc(2061);";
        Check.due("1 word", allocated(1, gaps), "2048");
        Check.due("3 words", allocated(3, gaps), "2048");
        Check.due("4 words", allocated(4, gaps), "2061");
        Check.due("5 words", allocated(5, gaps), "2061");
        Runs.fails(6, Check.inMain(gaps + " ^do Memory.alloc(6);"));
        Check.due("4 words twice", allocated(4, gaps + " do Memory.alloc(4);"), "14332");
        Check.due("3 words twice", allocated(3, gaps + " do Memory.alloc(3);"), "2061");
        Check.due("behind a part of a gap", allocated(2, gaps + " do Memory.alloc(1);"), "2049");
        Check.due("not behind a part of a gap", allocated(3, gaps + " do Memory.alloc(1);"), "2061");
        Check.due("1 word behind 3 and 4", allocated(1, gaps + " do Memory.alloc(3); do Memory.alloc(4);"), "2065");
        Runs.fails(6, Check.inMain(gaps + " do Memory.alloc(4); do Memory.alloc(4); ^do Memory.alloc(4);"));
        // Two gaps with no block between are one.
        Check.due("gaps that meet", allocated(18, gaps + " do Memory.deAlloc(2051);"), "2048");
        Runs.fails(6, Check.inMain(gaps + " do Memory.deAlloc(2051); ^do Memory.alloc(19);"));
        Check.due("gaps that meet at the end", allocated(12275, gaps + " do Memory.deAlloc(2066);"), "2061");
        Runs.fails(6, Check.inMain(gaps + " do Memory.deAlloc(2066); ^do Memory.alloc(12276);"));
    }

    private static String blocks(int n) {
        return "var int i; while (i < " + n + ") { let i = i + 1; do Memory.alloc(2); } ";
    }

    /** Up to 100 blocks; a 101st is ERROR 6, whoever makes it. */
    private static void mostBlocks() {
        String[] makers = {"do Memory.alloc(1);", "do Array.new(1);", "do String.new(0);", "do E.new();", "return \"\";", "return \"s\";"};
        for (String maker : makers) {
            for (int n : new int[] {98, 99}) {
                TowerComputer x = Check.program(Check.inMain(blocks(n) + maker) + " class E { constructor E new() { } }");
                Check.due("run with " + n + " blocks and " + maker, x.run(5000), 0);
                Check.due("count(4) with " + n + " blocks and " + maker, x.count(4), n + 1);
            }
            TowerComputer y = Runs.fails(6, Check.inMain(blocks(100) + "^" + maker) + " class E { constructor E new() { } }");
            Check.due("count(4) behind " + maker, y.count(4), 100);
            Check.due("count(3) behind " + maker, y.count(3), 200);
        }
        TowerComputer z = Check.mainProgram(blocks(100) + "do Memory.deAlloc(2048); do Memory.alloc(2);");
        Check.due("run with a block less and one more", z.run(5000), 0);
        Check.due("count(4)", z.count(4), 100);
        TowerComputer u = Runs.fails(6, Check.inMain(blocks(100) + "do Memory.deAlloc(2048); do Memory.alloc(1); ^do Memory.alloc(1);"));
        Check.due("count(3)", u.count(3), 199);
    }

    /** With 100 blocks, or without room, what is asked first comes first. */
    private static void errorsOfBlocksInOrder() {
        for (String full : new String[] {blocks(100), "do Memory.alloc(12288); "}) {
            Runs.fails(5, Check.inMain(full + "^do Memory.alloc(0);"));
            Runs.fails(5, Check.inMain(full + "^do Memory.alloc(-1);"));
            Runs.fails(6, Check.inMain(full + "^do Memory.alloc(1);"));
            Runs.fails(2, Check.inMain(full + "^do Array.new(0);"));
            Runs.fails(6, Check.inMain(full + "^do Array.new(1);"));
            Runs.fails(14, Check.inMain(full + "^do String.new(-1);"));
            Runs.fails(6, Check.inMain(full + "^do String.new(0);"));
            Runs.fails(6, Check.inMain(full + "^do String.new(32765);"));
            Runs.fails(5, Check.inMain(full + "^do String.new(32766);"));
        }
    }

    /** The words of a block stay as they were, when it is made and when it is none any more. */
    private static void wordsStayAsTheyWere() {
        TowerComputer x = Check.mainProgram("var Array a; do Memory.poke(2048, 5); do Memory.poke(2049, 6); let a = Memory.alloc(2);"
            + " do Output.printInt(a[0]); let a[1] = 7; do Memory.deAlloc(a); do Output.printInt(Memory.peek(2049));"
            + " let a = Array.new(3); do Output.printInt(a[1]); do a.dispose();");
        Check.due("run", x.run(50), 0);
        Check.due("words", Check.output(x), "577");
        Check.due("word(2048)", x.word(2048), 5);
        Check.due("word(2049)", x.word(2049), 7);
        Check.due("count(3)", x.count(3), 0);
        Check.due("count(4)", x.count(4), 0);
    }
}
