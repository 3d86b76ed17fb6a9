/** The boundaries of the calls themselves, promise by promise, and that a refused call changes nothing. */
public final class CallEdgesTest {
    private static final int[] FAR = {Integer.MIN_VALUE, Integer.MIN_VALUE + 1, -65536, 1 << 20, Integer.MAX_VALUE - 1, Integer.MAX_VALUE};

    public static void main(String[] args) {
        aNewObject();
        roomOfTheTape();
        bytesOfAFeed();
        lengthsOfALoad();
        lengthsOfSignsAndChips();
        onlyTheFirstBytes();
        longestTexts();
        programsAndFaults();
        lengthsOfKeys();
        keysOfTheNextRuns();
        fuel();
        runsWithoutAProgram();
        placesOfTheLastCall();
        errorsOfTheLastRun();
        bytesOfAFetch();
        mostBytesWritten();
        rowsOfTheScreen();
        addressesOfWords();
        counts();
        countsThatStay();
        wordsOfTheProcessor();
        addressesOfTheStore();
        valuesOfTheStore();
        registers();
        refusedCallsOne();
        refusedByANewObject();
        textsOfOneFloorLeaveTheOthers();
        as512Calls();
        Check.finish();
    }

    /** Promise 1: no program, no keys; the tape is empty. */
    private static void aNewObject() {
        TowerComputer x = new TowerComputer();
        Check.due("count(0)", x.count(0), 0);
        Check.due("count(7)", x.count(7), 0);
        Check.due("run(0)", x.run(0), -1);
        Check.due("load(0) of an empty tape", x.load(0), 7);
        Check.due("place()", x.place(), 0);
        Check.due("load", Check.load(x, Check.inMain("do Output.printInt(Keyboard.keyPressed());")), 0);
        Check.due("run", x.run(9), 0);
        Check.due("no key", Check.output(x), "0");
        Check.due("count(6)", x.count(6), 0);
    }

    /** Promise 2: false if more than 4000 bytes would be there. */
    private static void roomOfTheTape() {
        TowerComputer x = new TowerComputer();
        for (int i = 1; i <= 199; i++) {
            x.feed(0, 0, 0, 0, 0);
        }
        Check.due("count(0)", x.count(0), 3980);
        Check.due("feed up to 4000", x.feed(0, 0, 0, 0, 0), true);
        Check.due("count(0)", x.count(0), 4000);
        for (int i = 0; i < 3; i++) {
            Check.due("feed beyond 4000", x.feed(-1, -1, -1, -1, -1), false);
            Check.due("count(0)", x.count(0), 4000);
        }
        Check.due("load(4001)", x.load(4001), -1);
        Check.due("load(4000)", x.load(4000), 1);
        Check.due("count(0)", x.count(0), 0);
        Check.due("feed", x.feed(0, 0, 0, 0, 0), true);
        Check.due("count(0)", x.count(0), 20);
    }

    /** 20 bytes come behind the tape, the highest of a first: each byte of each number, for all values. */
    private static void bytesOfAFeed() {
        TowerComputer x = Check.mainProgram("var int i; while (i < 200) { let i = i + 1; do Output.printChar(Keyboard.readChar()); }");
        StringBuilder all = new StringBuilder();
        for (int start = 0; start < 256; start += 200) {
            for (int i = start; i < start + 200; i += 20) {
                int[] five = new int[5];
                for (int k = 0; k < 20; k++) {
                    five[k / 4] |= (i + k & 255) << 24 - 8 * (k % 4);
                }
                Check.due("feed", x.feed(five[0], five[1], five[2], five[3], five[4]), true);
            }
            Check.due("keys(200)", x.keys(200), true);
            Check.due("run", x.run(5000), 0);
            all.append(Check.output(x));
        }
        for (int i = 0; i < 400; i++) {
            Check.due("byte " + i, all.charAt(i), i & 255);
        }
    }

    /** Promise 3: -1, refused, if n is not 0 .. the bytes that there are. */
    private static void lengthsOfALoad() {
        for (int bytes : new int[] {0, 20, 40}) {
            for (int n : new int[] {-2, -1, bytes + 1, bytes + 2, 4001}) {
                TowerComputer x = fed(bytes);
                Check.due("load(" + n + ") of " + bytes, x.load(n), -1);
                Check.due("count(0)", x.count(0), bytes);
                Check.due("place()", x.place(), -1);
            }
            for (int n : new int[] {0, bytes / 2, Math.max(0, bytes - 1), bytes}) {
                TowerComputer x = fed(bytes);
                Check.due("load(" + n + ") of " + bytes, x.load(n), 7);
                Check.due("count(0)", x.count(0), 0);
                Check.due("place()", x.place(), n);
            }
        }
    }

    /** A tape of so many blanks. */
    private static TowerComputer fed(int bytes) {
        TowerComputer x = new TowerComputer();
        for (int i = 0; i < bytes; i += 20) {
            x.feed(0x20202020, 0x20202020, 0x20202020, 0x20202020, 0x20202020);
        }
        return x;
    }

    /** Promises 13 and 19 likewise. */
    private static void lengthsOfSignsAndChips() {
        for (int bytes : new int[] {0, 20, 40}) {
            for (int n : new int[] {-2, -1, bytes + 1, bytes + 2, 4001}) {
                TowerComputer x = fed(bytes);
                Check.due("signs(" + n + ") of " + bytes, x.signs(n), -1);
                Check.due("chips(" + n + ") of " + bytes, x.chips(n), -1);
                Check.due("count(0)", x.count(0), bytes);
                Check.due("place()", x.place(), -1);
            }
            for (int n : new int[] {0, bytes / 2, Math.max(0, bytes - 1), bytes}) {
                TowerComputer x = fed(bytes);
                Check.due("signs(" + n + ") of " + bytes, x.signs(n), 0);
                Check.due("count(0)", x.count(0), 0);
                TowerComputer y = fed(bytes);
                Check.due("chips(" + n + ") of " + bytes, y.chips(n), 1);
                Check.due("count(0)", y.count(0), 0);
                Check.due("place()", y.place(), n);
            }
        }
    }

    /** The first n bytes are the text; the rest of the tape is gone. */
    private static void onlyTheFirstBytes() {
        String text = Check.inMain("do Output.printInt(7);");
        for (int less = 1; less <= 3; less++) {
            TowerComputer x = new TowerComputer();
            Check.feed(x, text + "$$$");
            Check.due("load of " + less + " less", x.load(text.length() - less), 1);
            Check.due("place()", x.place(), text.length() - less);
            Check.due("count(0)", x.count(0), 0);
        }
        TowerComputer y = new TowerComputer();
        Check.feed(y, text + "$$$");
        Check.due("load of the text", y.load(text.length()), 0);
        Check.due("count(0)", y.count(0), 0);
        Check.feed(y, text + "$$$");
        Check.due("load of one more", y.load(text.length() + 1), 1);
        Check.due("place()", y.place(), text.length());
        Check.feed(y, "@1\n@2\n@3\n");
        Check.due("signs(5)", y.signs(5), 0);
        Check.due("register(3)", y.register(3), 2);
        String chip = "CHIP B { IN a; OUT o; PARTS: }";
        Check.feed(y, chip + " $");
        Check.due("chips", y.chips(chip.length()), 0);
        Check.feed(y, chip + " $");
        Check.due("chips of one less", y.chips(chip.length() - 1), 1);
        Check.due("place()", y.place(), chip.length() - 1);
        // What stood on the tape ahead of it is not read.
        Check.feed(y, Check.times(50, "$$$$"));
        Check.due("signs(0)", y.signs(0), 0);
        Check.due("load behind longer texts", Check.load(y, text), 0);
    }

    /** A text that ends with the last of so many bytes. */
    private static String atTheEnd(int bytes, String text) {
        return Check.times(bytes - text.length(), "\n") + text;
    }

    /** Texts of 4000 bytes, and of one less, are read to their last byte. */
    private static void longestTexts() {
        for (int bytes : new int[] {3999, 4000}) {
            TowerComputer x = new TowerComputer();
            Check.due("load", Check.load(x, atTheEnd(bytes, Check.inMain("do Sys.wait(0);"))), 0);
            Check.due("run", x.run(9), 3);
            Check.due("place()", x.place(), bytes - "do Sys.wait(0); } }".length());
            Check.loadAt(7, bytes, atTheEnd(bytes, "class A { }"));
            Check.loadAt(1, bytes, atTheEnd(bytes, "class A {"));
            Check.loadAt(1, bytes - 1, atTheEnd(bytes, "class A { }$"));
            Check.loadAt(1, bytes - 2, atTheEnd(bytes, "class A { } /*"));
            Check.loadAt(1, bytes - 1, atTheEnd(bytes, "class A { function int f() { return \""));
            Check.loadAt(1, bytes, atTheEnd(bytes, "class A { function int f() { return 1"));
            Check.loadAt(1, bytes, atTheEnd(bytes, "class A"));
            Check.loadAt(7, bytes, atTheEnd(bytes, "class A { } //"));
            for (String sign : new String[] {"@7", "@name", "(L)", "D=A", "0;JMP", "D", "AMD=D|M;JMP", "//", "@7 //"}) {
                Check.signsAt(0, -1, atTheEnd(bytes, sign));
            }
            Check.signsAt(1, bytes - 1, atTheEnd(bytes, "/"));
            Check.signsAt(1, bytes - 1, atTheEnd(bytes, "@"));
            Check.signsAt(3, bytes - 3, atTheEnd(bytes, "(L)\n(L)"));
            Check.chipsAt(0, -1, atTheEnd(bytes, "CHIP B { IN a; OUT o; PARTS: Nand(a=a, b=true, out=o); }"));
            Check.chipsAt(1, bytes, atTheEnd(bytes, "CHIP B"));
            Check.chipsAt(1, bytes - 1, atTheEnd(bytes, "CHIP B { IN a[1."));
            Check.chipsAt(6, bytes, atTheEnd(bytes, "CHIP B { IN a; OUT o; PARTS: Nand(a=x, out=x); }"));
        }
    }

    /** Promise 3: 1 to 7 a fault, and there is no program then. */
    private static void programsAndFaults() {
        String[] faults = {"$", Check.times(13, "class C# { } "), "class Math { }", Check.inMain("return x;"), Check.inMain("do Math.abs();"),
            "class A { function int f() { return this; } }", "class A { }"};
        for (int i = 0; i < faults.length; i++) {
            TowerComputer x = Check.mainProgram("do Sys.error(9);");
            Check.due("count(7)", x.count(7), 1);
            Check.due("run", x.run(9), 3);
            Check.due("load", Check.load(x, faults[i]), i + 1);
            Check.due("count(7) behind fault " + (i + 1), x.count(7), 0);
            Check.due("run behind fault " + (i + 1), x.run(9), -1);
            Check.due("command(0, 0) behind fault " + (i + 1), x.command(0, 0), -1);
            Check.due("error() behind fault " + (i + 1), x.error(), 9);
            Check.due("load again", Check.load(x, Check.inMain("")), 0);
            Check.due("count(7)", x.count(7), 1);
            Check.due("place()", x.place(), -1);
            Check.due("error() behind a load", x.error(), 9);
            Check.due("run", x.run(9), 0);
            Check.due("error()", x.error(), 0);
        }
    }

    /** Promise 4: false, refused, if n is not 0 .. 200, or there are not as many bytes. */
    private static void lengthsOfKeys() {
        for (int n : new int[] {0, 1, 199, 200}) {
            TowerComputer x = fed(220);
            Check.due("keys(" + n + ")", x.keys(n), true);
            Check.due("count(0)", x.count(0), 0);
            Check.load(x, Check.inMain(""));
            x.run(9);
            Check.due("count(6)", x.count(6), n);
        }
        for (int n : new int[] {-1, -200, 201, 202, 220, 221}) {
            TowerComputer x = fed(220);
            Check.due("keys(" + n + ")", x.keys(n), false);
            Check.due("count(0)", x.count(0), 220);
        }
        for (int n : new int[] {19, 20, 21}) {
            TowerComputer x = fed(20);
            Check.due("keys(" + n + ") of 20", x.keys(n), n <= 20);
            Check.due("count(0)", x.count(0), n <= 20 ? 0 : 20);
        }
        Check.due("keys(1) of none", new TowerComputer().keys(1), false);
        Check.due("keys(0) of none", new TowerComputer().keys(0), true);
    }

    /** The keys are those of the next runs, all of them at each run, until others come. */
    private static void keysOfTheNextRuns() {
        TowerComputer x = new TowerComputer();
        Check.due("keys ahead of a program", Check.keys(x, "AB"), true);
        Check.load(x, Check.inMain("do Output.printInt(Keyboard.readChar());"));
        for (int i = 0; i < 3; i++) {
            Check.due("run", x.run(9), 0);
            Check.due("output", Check.output(x), "65");
            Check.due("count(6)", x.count(6), 1);
        }
        Check.feed(x, "CDE");
        Check.due("refused keys", x.keys(201), false);
        x.run(9);
        Check.due("output behind refused keys", Check.output(x), "65");
        Check.due("keys(3)", x.keys(3), true);
        x.run(9);
        Check.due("output with other keys", Check.output(x), "67");
        Check.due("count(6)", x.count(6), 2);
        Check.load(x, Check.inMain("do Output.printInt(Keyboard.keyPressed());"));
        x.run(9);
        Check.due("keys stay behind a load", Check.output(x), "67");
        Check.due("count(6)", x.count(6), 3);
        Check.due("keys(0)", x.keys(0), true);
        x.run(9);
        Check.due("output without keys", Check.output(x), "0");
    }

    /** Promise 5: -1, refused, if fuel is not 0 .. 5000. */
    private static void fuel() {
        TowerComputer x = Check.mainProgram("while (1) { }");
        for (int n : new int[] {0, 1, 2, 4999, 5000}) {
            Check.due("run(" + n + ")", x.run(n), 1);
            Check.due("count(1)", x.count(1), n);
        }
        for (int n : new int[] {-1, -2, 5001, 5002, Integer.MIN_VALUE, Integer.MAX_VALUE}) {
            Check.due("run(" + n + ")", x.run(n), -1);
            Check.due("count(1) behind a refused run", x.count(1), 5000);
        }
        TowerComputer y = Check.mainProgram("var int i; while (i < 2498) { let i = i + 1; }");
        Check.due("run of 4999 steps", y.run(4999), 0);
        Check.due("count(1)", y.count(1), 4999);
        Check.due("run(4998)", y.run(4998), 1);
        Check.due("run(5000)", y.run(5000), 0);
    }

    private static void runsWithoutAProgram() {
        TowerComputer x = new TowerComputer();
        for (int n : new int[] {-1, 0, 1, 5000, 5001}) {
            Check.due("run(" + n + ") without a program", x.run(n), -1);
        }
        Check.due("count(1)", x.count(1), 0);
        Check.load(x, Check.inMain(""));
        Check.due("run(0)", x.run(0), 1);
        Check.due("run(1)", x.run(1), 0);
    }

    /** Promise 6: of the last load(), signs() or chips(), or of a run that came later and ended 1 to 3. */
    private static void placesOfTheLastCall() {
        TowerComputer x = new TowerComputer();
        Check.due("place() at first", x.place(), -1);
        Check.load(x, "   $");
        Check.due("place() of load()", x.place(), 3);
        Check.signs(x, "  @");
        Check.due("place() of signs()", x.place(), 2);
        Check.chips(x, " $");
        Check.due("place() of chips()", x.place(), 1);
        Check.due("refused calls", x.load(-1) + x.signs(-1) + x.chips(-1) + x.run(9), -4);
        Check.due("place() behind refused calls", x.place(), 1);
        Check.keys(x, "k");
        Check.due("place() behind keys()", x.place(), 1);
        Check.signs(x, "@1");
        Check.due("place() of signs() without a fault", x.place(), -1);
        Check.load(x, Check.inMain("do Sys.wait(0);"));
        Check.due("place() of load() without a fault", x.place(), -1);
        Check.chips(x, "$");
        x.run(9);
        Check.due("place() behind END 3", x.place(), 36);
        x.go(1);
        x.set(0, 1);
        Check.due("run(5001)", x.run(5001), -1);
        Check.due("place() behind a refused run", x.place(), 36);
        x.run(0);
        Check.due("place() behind END 1", x.place(), 0);
        Check.chips(x, "CHIP B { IN a; OUT o; PARTS: }");
        Check.due("place() of chips() without a fault", x.place(), -1);
        x.run(9);
        Check.due("place() behind END 3", x.place(), 36);
        Check.signs(x, "@1\n@");
        Check.due("place() of signs() behind a run", x.place(), 3);
        Check.load(x, Check.inMain("do Main.main();"));
        x.run(5000);
        Check.due("place() behind END 2", x.place(), 36);
        Check.load(x, Check.inMain(""));
        Check.signs(x, "$");
        x.run(9);
        Check.due("place() behind END 0", x.place(), -1);
    }

    private static void errorsOfTheLastRun() {
        TowerComputer x = Check.mainProgram("if (Keyboard.keyPressed()) { do Sys.error(Keyboard.readChar()); } do Main.main();");
        Check.due("error() ahead of all runs", x.error(), 0);
        Check.keys(x, "A");
        Check.due("run", x.run(99), 3);
        Check.due("error()", x.error(), 65);
        Check.due("refused run", x.run(-1), -1);
        Check.due("error() behind a refused run", x.error(), 65);
        Check.keys(x, "");
        Check.due("error() behind keys", x.error(), 65);
        Check.due("run", x.run(5000), 2);
        Check.due("error() behind END 2", x.error(), 0);
        Check.keys(x, "A");
        x.run(99);
        Check.due("run(1)", x.run(1), 1);
        Check.due("error() behind END 1", x.error(), 0);
    }

    /** Promise 8: at most 7 bytes, in the highest byte how many, then these, the first one highest. */
    private static void bytesOfAFetch() {
        for (int n : new int[] {0, 1, 2, 6, 7, 8, 13, 14, 15}) {
            String text = "\u00FEbcdefghijklmnop".substring(0, n);
            TowerComputer x = Check.mainProgram(Check.times(n, "do Output.printChar(97 + #); ").replace("97 + 0)", "254)"));
            x.run(99);
            for (int from = 0; from <= n; from += 7) {
                Check.due("count(5)", x.count(5), n - from);
                int many = Math.min(7, n - from);
                long want = (long) many << 56;
                for (int k = 0; k < many; k++) {
                    want |= (long) text.charAt(from + k) << 48 - 8 * k;
                }
                Check.due("fetch() at " + from + " of " + n, x.fetch(), want);
            }
            Check.due("count(5)", x.count(5), 0);
            Check.due("fetch() of nothing", x.fetch(), 0);
            Check.due("fetch() of nothing", x.fetch(), 0);
        }
        Check.due("fetch() ahead of all runs", new TowerComputer().fetch(), 0);
    }

    /** What is beyond 3000 bytes is left out. */
    private static void mostBytesWritten() {
        for (int n : new int[] {2999, 3000, 3001, 3060}) {
            // Three strings of 60 bytes, some 180 at a time, then the rest one by one.
            int rest = n - 180 * 16;
            TowerComputer x = Check.mainProgram("var int i; var String a; let a = \"" + Check.times(60, "a") + "\"; while (i < 16) {"
                + " let i = i + 1; do Output.printString(a); do Output.printString(a); do Output.printString(a); } let i = 0;"
                + " while (i < " + rest + ") { let i = i + 1; do Output.printChar(i); } do Output.printString(\"\");");
            Check.due("run", x.run(5000), 0);
            Check.due("count(5) of " + n, x.count(5), Math.min(3000, n));
            String all = Check.output(x);
            Check.due("length of the output of " + n, all.length(), Math.min(3000, n));
            Check.due("its last byte", all.charAt(all.length() - 1), Math.min(120, rest));
            Check.due("count(5) behind all", x.count(5), 0);
        }
    }

    /** Promise 9: 0 for no such row. */
    private static void rowsOfTheScreen() {
        TowerComputer x = Check.mainProgram("do Screen.drawRectangle(0, 0, 63, 31);");
        for (int y : new int[] {-1, 0, 31, 32}) {
            Check.due("row(" + y + ") ahead of all runs", x.row(y), 0);
        }
        x.run(9);
        for (int y = 0; y < 32; y++) {
            Check.due("row(" + y + ")", x.row(y), -1);
        }
        for (int y : new int[] {-2, -1, 32, 33}) {
            Check.due("row(" + y + ")", x.row(y), 0);
        }
        for (int y : FAR) {
            Check.due("row(" + y + ")", x.row(y), 0);
        }
        x.run(0);
        Check.due("row(0) of a run without a step", x.row(0), 0);
        TowerComputer z = Check.mainProgram("do Screen.drawPixel(0, 0); do Screen.drawPixel(63, 31);");
        z.run(9);
        Check.due("point 0 is the lowest bit", z.row(0), 1);
        Check.due("point 63 is the highest bit", z.row(31), Long.MIN_VALUE);
    }

    /** Promise 10: 100000 for an address that is not of the memory. */
    private static void addressesOfWords() {
        TowerComputer x = Check.mainProgram("do Memory.poke(2048, 1); do Memory.poke(14335, 2); do Memory.poke(16384, 3);"
            + " do Memory.poke(16511, -4);");
        int[] addresses = {-1, 0, 2047, 2048, 2049, 14334, 14335, 14336, 16383, 16384, 16385, 16510, 16511, 16512, 32767, 65536 + 2048,
            2048 - 65536};
        int[] words = {100000, 100000, 100000, 1, 0, 0, 2, 100000, 100000, 3, 0, 0, -4, 100000, 100000, 100000, 100000};
        for (int i = 0; i < addresses.length; i++) {
            Check.due("word(" + addresses[i] + ") ahead of all runs", x.word(addresses[i]), words[i] == 100000 ? 100000 : 0);
        }
        x.run(9);
        for (int i = 0; i < addresses.length; i++) {
            Check.due("word(" + addresses[i] + ")", x.word(addresses[i]), words[i]);
        }
        for (int a : FAR) {
            Check.due("word(" + a + ")", x.word(a), 100000);
        }
        Check.load(x, "$");
        Check.due("word(2048) behind a load", x.word(2048), 1);
        Check.keys(x, "");
        Check.due("word(16511) behind keys", x.word(16511), -4);
    }

    /** Promise 11: 0 to 7, and -1 for another what. */
    private static void counts() {
        TowerComputer x = Check.mainProgram("do Array.new(3); do Array.new(4); do Output.printString(\"12345\"); do Keyboard.readChar();");
        for (int what = 1; what <= 6; what++) {
            Check.due("count(" + what + ") ahead of all runs", x.count(what), 0);
        }
        Check.keys(x, "abcd");
        Check.feed(x, "on the tape");
        x.run(9);
        int[] due = {20, 5, 1, 14, 3, 5, 3, 1};
        for (int what = 0; what <= 7; what++) {
            Check.due("count(" + what + ")", x.count(what), due[what]);
        }
        for (int what : new int[] {-2, -1, 8, 9}) {
            Check.due("count(" + what + ")", x.count(what), -1);
        }
        for (int what : FAR) {
            Check.due("count(" + what + ")", x.count(what), -1);
        }
    }

    /** A load or keys() leaves counts 1 to 6. */
    private static void countsThatStay() {
        TowerComputer x = Check.mainProgram("do Array.new(3); do Output.printString(\"12345\"); do Keyboard.readChar();");
        Check.keys(x, "abcd");
        x.run(9);
        int[] due = {0, 4, 1, 10, 2, 5, 3};
        String[] texts = {"$", Check.inMain(""), "class A { }"};
        for (String text : texts) {
            Check.load(x, text);
            Check.keys(x, "a");
            Check.signs(x, "@1");
            Check.chips(x, "$");
            for (int what = 1; what <= 6; what++) {
                Check.due("count(" + what + ") behind other calls", x.count(what), due[what]);
            }
        }
        x.fetch();
        Check.due("count(5) behind fetch()", x.count(5), 0);
        Check.due("count(1) behind fetch()", x.count(1), 4);
    }

    /** Promise 14: -1 if there is no such word. */
    private static void wordsOfTheProcessor() {
        TowerComputer x = new TowerComputer();
        Check.due("code(0) without words", x.code(0), -1);
        Check.signs(x, "@32767\nAMD=D|M;JMP");
        int[] due = {-1, 32767, 57344 + 4096 + 64 * 21 + 63, -1, -1};
        for (int i = -1; i <= 3; i++) {
            Check.due("code(" + i + ")", x.code(i), due[i + 1]);
        }
        for (int i : FAR) {
            Check.due("code(" + i + ")", x.code(i), -1);
        }
    }

    /** Promises 16 and 17: addresses are 0 .. 32767. */
    private static void addressesOfTheStore() {
        TowerComputer x = new TowerComputer();
        for (int a : new int[] {0, 1, 32766, 32767}) {
            Check.due("set(" + a + ", 9)", x.set(a, 9), true);
            Check.due("store(" + a + ")", x.store(a), 9);
        }
        for (int a : new int[] {-2, -1, 32768, 32769, 65536}) {
            Check.due("set(" + a + ", 8)", x.set(a, 8), false);
            Check.due("store(" + a + ")", x.store(a), 100000);
        }
        for (int a : FAR) {
            Check.due("set(" + a + ", 8)", x.set(a, 8), false);
            Check.due("store(" + a + ")", x.store(a), 100000);
        }
        for (int a : new int[] {0, 1, 32766, 32767}) {
            Check.due("store(" + a + ") behind refused calls", x.store(a), 9);
        }
        Check.due("store(2)", x.store(2), 0);
    }

    /** A word is the lowest 16 bits of v. */
    private static void valuesOfTheStore() {
        TowerComputer x = new TowerComputer();
        for (int v : new int[] {0, 1, 32766, 32767, 32768, 32769, 65535, 65536, 65537, -1, -32767, -32768, -32769, -65535, -65536, -65537}) {
            x.set(7, v);
            Check.due("store(7) of " + v, x.store(7), (short) v);
        }
        for (int v : FAR) {
            x.set(7, v);
            Check.due("store(7) of " + v, x.store(7), (short) v);
        }
    }

    /** Promise 18: 0 for another what. */
    private static void registers() {
        TowerComputer x = new TowerComputer();
        Check.signs(x, "@9\nD=-A\n@s\nA=-A\n(L)\n@1");
        x.go(4);
        int[] due = {0, 0, -16, -9, 4, 5, 4, 2, 0, 0};
        for (int what = -2; what <= 7; what++) {
            Check.due("register(" + what + ")", x.register(what), due[what + 2]);
        }
        for (int what : FAR) {
            Check.due("register(" + what + ")", x.register(what), 0);
        }
    }

    /** Each call that can be refused, one by one: the state behind it is the one ahead of it. */
    private static void refusedCallsOne() {
        TowerComputer x = RefusalTest.busy();
        String before = RefusalTest.state(x);
        String[] calls = {"load(-1)", "load(21)", "keys(-1)", "keys(21)", "run(-1)", "run(5001)", "signs(-1)", "signs(21)", "go(-1)",
            "go(20001)", "set(-1)", "set(32768)", "chips(-1)", "chips(21)", "drive(-1)", "drive(1)"};
        for (int i = 0; i < calls.length; i++) {
            Check.due(calls[i], refused(x, i), true);
            Check.due("state behind " + calls[i], RefusalTest.state(x), before);
            if (i % 2 == 1) {
                x = RefusalTest.busy();
            }
        }
        TowerComputer y = RefusalTest.busy();
        for (int i = 0; i < calls.length; i++) {
            refused(y, i);
        }
        Check.due("output behind refused calls", Check.output(y), "abcdefghij");
        Check.due("go(1)", y.go(1), 1);
        Check.due("register(2)", y.register(2), 9);
        Check.due("run(50) with the keys as they were", y.run(50), 3);
        Check.due("count(6)", y.count(6), 8);
        Check.due("tick()", y.tick(), 0);
        Check.due("chips of what is left on the tape", y.chips(16), 1);
        Check.due("place()", y.place(), 0);
    }

    private static boolean refused(TowerComputer x, int call) {
        switch (call) {
            case 0: return x.load(-1) == -1;
            case 1: return x.load(21) == -1;
            case 2: return !x.keys(-1);
            case 3: return !x.keys(21);
            case 4: return x.run(-1) == -1;
            case 5: return x.run(5001) == -1;
            case 6: return x.signs(-1) == -1;
            case 7: return x.signs(21) == -1;
            case 8: return x.go(-1) == -1;
            case 9: return x.go(20001) == -1;
            case 10: return !x.set(-1, 5);
            case 11: return !x.set(32768, 5);
            case 12: return x.chips(-1) == -1;
            case 13: return x.chips(21) == -1;
            case 14: return !x.drive(-1, 0);
            default: return !x.drive(1, 0);
        }
    }

    private static void refusedByANewObject() {
        TowerComputer x = new TowerComputer();
        String before = RefusalTest.state(x);
        for (int i = 0; i < 16; i++) {
            Check.due("refused call " + i, refused(x, i), true);
        }
        Check.due("run(5)", x.run(5), -1);
        Check.due("drive(0, 1)", x.drive(0, 1), false);
        Check.due("tick()", x.tick(), -1);
        Check.due("state of a new object", RefusalTest.state(x), before);
    }

    /** The words of the processor and the board stay behind a load; and so of the other two. */
    private static void textsOfOneFloorLeaveTheOthers() {
        for (String fault : new String[] {"", "$"}) {
            TowerComputer x = new TowerComputer();
            Check.load(x, Check.inMain("do Output.printInt(7);"));
            Check.signs(x, "@5\nD=A\n@6");
            x.go(2);
            Check.chips(x, "CHIP B { IN a; OUT o; PARTS: Dff(in=a, out=o); }");
            x.drive(0, 1);
            x.tick();
            Check.load(x, fault + Check.inMain("do Output.printInt(8);"));
            Check.due("register(1) behind load()", x.register(1), 5);
            Check.due("code(2) behind load()", x.code(2), 6);
            Check.due("pin(0) behind load()", x.pin(0), 1);
            Check.load(x, Check.inMain("do Output.printInt(8);"));
            Check.signs(x, fault + "@9");
            Check.due("pin(0) behind signs()", x.pin(0), 1);
            Check.due("gates(6) behind signs()", x.gates(6), 1);
            Check.due("run behind signs()", x.run(9), 0);
            Check.due("output", Check.output(x), "8");
            Check.signs(x, "@9\n@8");
            x.go(1);
            Check.chips(x, fault + "CHIP C { IN a; OUT o; PARTS: }");
            Check.due("code(1) behind chips()", x.code(1), 8);
            Check.due("register(2) behind chips()", x.register(2), 1);
            Check.due("run behind chips()", x.run(9), 0);
            Check.due("command(1, 2) behind chips()", x.command(1, 2), 8);
        }
    }

    /** An object answers 512 calls, also the dearest ones. */
    private static void as512Calls() {
        TowerComputer x = Check.mainProgram("while (1) { do Screen.drawRectangle(0, 0, 63, 31); }");
        for (int i = 0; i < 300; i++) {
            Check.due("run(5000)", x.run(5000), 1);
        }
        Check.signs(x, "(L)\n@L\n0;JMP");
        for (int i = 0; i < 100; i++) {
            Check.due("go(20000)", x.go(20000), 20000);
        }
        Check.due("register(4)", x.register(4), 2000000);
        Check.due("row(31)", x.row(31), -1);
    }
}
