/** The boundaries under 'SIGNS OF THE PROCESSOR' and of promises 13 to 18: a test at each, one below it and one beyond it. */
public final class SignsEdgesTest {
    private static final String[] COMPS = {"0", "1", "-1", "D", "A", "!D", "!A", "-D", "-A", "D+1", "A+1", "D-1", "A-1",
        "D+A", "D-A", "A-D", "D&A", "D|A"};
    private static final int[] BITS = {42, 63, 58, 12, 48, 13, 49, 15, 51, 31, 55, 14, 50, 2, 19, 7, 0, 21};
    private static final String[] DESTS = {"M", "D", "MD", "A", "AM", "AD", "AMD"};
    private static final String[] JUMPS = {"JGT", "JEQ", "JGE", "JLT", "JNE", "JLE", "JMP"};
    private static final int[] VALUES = {-32768, -32767, -2, -1, 0, 1, 2, 32766, 32767};

    public static void main(String[] args) {
        linesAndTheirEnds();
        blanks();
        comments();
        numbers();
        lengthOfSymbols();
        firstByteOfASymbol();
        otherBytesOfASymbol();
        bytesOfLabels();
        allComps();
        allDests();
        allJumps();
        wordsOfAllKinds();
        noBlanksWithin();
        secondInItsLine();
        roomOfInstructions();
        roomOfSymbols();
        labelsToldTwice();
        knownSymbols();
        numbersOfLabels();
        numbersOfOthers();
        firstFaultFromTheLeft();
        resultsGoRound();
        lowest15Bits();
        valuesAsTheyAre();
        jumpsOfAllSigns();
        standsStill();
        behindAFault();
        allIsAsAtFirst();
        Check.finish();
    }

    private static TowerComputer processor(String text) {
        TowerComputer x = new TowerComputer();
        Check.due("signs of " + Check.shortened(text), Check.signs(x, text), 0);
        Check.due("place() of " + Check.shortened(text), x.place(), -1);
        return x;
    }

    private static void word(String sign, int want) {
        TowerComputer x = processor(sign);
        Check.due("code(0) of " + sign, x.code(0), want);
        Check.due("register(3) of " + sign, x.register(3), 1);
    }

    /** Lines end with 10 or the text's end. */
    private static void linesAndTheirEnds() {
        String[] texts = {"", "\n", "\n\n\n", " ", "@1", "@1\n", "\n@1", "@1\n@2", "@1\n@2\n", "@1\n\n@2\n\n", "@1\r\n@2\r\n"};
        int[] words = {0, 0, 0, 0, 1, 1, 1, 2, 2, 2, 2};
        for (int i = 0; i < texts.length; i++) {
            Check.due("register(3) of text " + i, processor(texts[i]).register(3), words[i]);
        }
        // A text ends where n says, also within what stands on the tape.
        TowerComputer x = new TowerComputer();
        Check.feed(x, "@123\n@45");
        Check.due("signs(3)", x.signs(3), 0);
        Check.due("code(0)", x.code(0), 12);
        Check.feed(x, "D//\n");
        Check.due("signs(2), where // is cut", x.signs(2), 1);
        Check.feed(x, "D//\n");
        Check.due("signs(3)", x.signs(3), 0);
        Check.feed(x, "@1");
        Check.due("signs(0)", x.signs(0), 0);
        Check.due("register(3)", x.register(3), 0);
    }

    private static boolean isBlank(int b) {
        return b == 9 || b == 13 || b == 32;
    }

    /** Blanks are 9, 13, 32. */
    private static void blanks() {
        for (int b = 0; b < 256; b++) {
            boolean fine = isBlank(b) || b == 10;
            boolean instruction = "01DAM".indexOf(b) >= 0;
            Check.signsAt(fine ? 0 : 1, fine ? -1 : instruction ? 2 : 0, (char) b + " @1");
            Check.signsAt(fine ? 0 : 1, fine ? -1 : 3, "@1 " + (char) b);
            if (!isOfSymbols(b)) {
                Check.signsAt(fine ? 0 : 1, fine ? -1 : 0, "@1" + (char) b);
            }
        }
        Check.due("register(3)", processor("\t\r @1\t\r \n \t\r\n\t@2").register(3), 2);
    }

    /** A comment goes from // to the line's end. */
    private static void comments() {
        for (String text : new String[] {"//", "// @1", "//\n", "@1//", "@1 //", "@1// @2", "@1 ////", " // @ ( \u00FF \u0000", "(L)//@1"}) {
            Check.signsAt(0, -1, text);
        }
        Check.due("register(3)", processor("@1//@2\n@3 // @4\r\n//@5\n@6").register(3), 3);
        Check.signsFault(1, "^/");
        Check.signsFault(1, "@1 ^/");
        Check.signsFault(1, "^@1/");
        Check.signsFault(1, "^D=A/ /");
        Check.signsFault(1, "@1 ^/ /");
        Check.signsFault(1, "^/*@1*/");
        Check.signsFault(1, "// x\n^/\n/");
    }

    /** @ and 1 .. 5 digits, up to 32767. */
    private static void numbers() {
        for (String number : new String[] {"0", "9", "10", "00000", "00001", "9999", "10000", "32766", "32767"}) {
            word("@" + number, Integer.parseInt(number));
        }
        for (String number : new String[] {"", "32768", "32769", "65536", "99999", "000000", "000001", "032767", "100000", "-1", "+1", "1a",
            "1_", "1.", "12345a", "4294967296", "4294967297"}) {
            Check.signsFault(1, "^@" + number);
            Check.signsFault(1, "@1\n ^@" + number + " // x\n@2");
        }
    }

    private static String word(int n) {
        return "abcdefghijklmnopqrstuvwxyz".substring(0, n);
    }

    /** A symbol has 1 .. 16 bytes. */
    private static void lengthOfSymbols() {
        for (int n : new int[] {1, 2, 8, 9, 15, 16}) {
            word("@" + word(n), 16);
            Check.due("register(5) of a label of " + n, processor("(" + word(n) + ")").register(5), 1);
        }
        for (int n : new int[] {0, 17, 18, 26}) {
            Check.signsFault(1, "^@" + word(n));
            Check.signsFault(1, "^(" + word(n) + ")");
        }
        // Symbols that differ in any one byte are two.
        for (int i = 0; i < 16; i++) {
            String other = word(i) + "Z" + word(16).substring(i + 1);
            TowerComputer x = processor("@" + word(16) + "\n@" + other + "\n@" + word(16));
            Check.due("code(1)", x.code(1), 17);
            Check.due("code(2)", x.code(2), 16);
        }
        Check.due("symbols of other lengths", processor("@a\n@aa\n@aaa\n@A").register(5), 4);
    }

    private static boolean isOfSymbols(int b) {
        return Check.isLetter(b) || Check.isDigit(b) || b == '_' || b == '.' || b == '$' || b == ':';
    }

    /** Letters, digits, _ . $ : and no digit first. */
    private static void firstByteOfASymbol() {
        for (int b = 0; b < 256; b++) {
            boolean fine = isOfSymbols(b);
            Check.signsAt(fine ? 0 : 1, fine ? -1 : 0, "@" + (char) b);
            boolean symbol = fine && !Check.isDigit(b);
            Check.signsAt(symbol ? 0 : 1, symbol ? -1 : 0, "@" + (char) b + "a");
            Check.signsAt(symbol ? 0 : 1, symbol ? -1 : 0, "(" + (char) b + ")");
        }
    }

    private static void otherBytesOfASymbol() {
        for (int b = 0; b < 256; b++) {
            boolean fine = isOfSymbols(b) || isBlank(b) || b == 10;
            Check.signsAt(fine ? 0 : 1, fine ? -1 : 0, "@a" + (char) b);
            boolean within = isOfSymbols(b);
            int place = isBlank(b) || b == 10 ? 3 : 0;
            Check.signsAt(within ? 0 : 1, within ? -1 : place, "@a" + (char) b + "b");
        }
    }

    private static void bytesOfLabels() {
        for (int b = 0; b < 256; b++) {
            boolean fine = isOfSymbols(b);
            Check.signsAt(fine ? 0 : 1, fine ? -1 : 0, "(a" + (char) b + "a)");
        }
        for (String label : new String[] {"(", ")", "()", "(a", "a)", "(a))", "((a)", "(a)(b)", "(a)@1", "(1)", "(1a)", "(a)a", "(@a)", "(a/)"}) {
            Check.signsFault(1, "^" + label);
            Check.signsFault(1, "@1\n\t^" + label + " \n");
        }
        Check.signsFault(1, "^(a//)");
    }

    private static int bitsOf(String comp) {
        for (int c = 0; c < COMPS.length; c++) {
            if (COMPS[c].equals(comp)) {
                return 57344 + 64 * BITS[c];
            }
            if (COMPS[c].indexOf('A') >= 0 && COMPS[c].replace('A', 'M').equals(comp)) {
                return 57344 + 4096 + 64 * BITS[c];
            }
        }
        return -1;
    }

    /** All texts of up to three of the signs of a comp: those that are told, and no others. */
    private static void allComps() {
        String signs = "01-!DAM+&|";
        int known = 0;
        for (int i = 0; i < 1000; i++) {
            String three = "" + signs.charAt(i / 100) + signs.charAt(i / 10 % 10) + signs.charAt(i % 10);
            for (int n = i % 100 == 0 ? 1 : i % 10 == 0 ? 2 : 3; n <= 3; n++) {
                String comp = three.substring(0, n);
                int bits = bitsOf(comp);
                known += bits < 0 ? 0 : 1;
                if (bits < 0) {
                    Check.signsFault(1, "^" + comp);
                } else {
                    word(comp, bits);
                }
            }
        }
        Check.due("comps", known, 28);
        for (String comp : new String[] {"D+A+1", "D-1-1", "!!D", "--1", "D+10", "0;", "00", "d", "a", "D~A", "D*A", "D/A", "D%A"}) {
            Check.signsFault(1, "^" + comp);
        }
    }

    /** All texts of up to four of A M D as dest: M D MD A AM AD AMD, and no others. */
    private static void allDests() {
        String signs = "AMD";
        for (int n = 1; n <= 4; n++) {
            int all = (int) Math.pow(3, n);
            for (int i = 0; i < all; i++) {
                StringBuilder dest = new StringBuilder();
                for (int k = 0, rest = i; k < n; k++, rest /= 3) {
                    dest.append(signs.charAt(rest % 3));
                }
                int found = java.util.Arrays.asList(DESTS).indexOf(dest.toString());
                if (found < 0) {
                    Check.signsFault(1, "^" + dest + "=0");
                } else {
                    word(dest + "=0", 57344 + 64 * 42 + 8 * (found + 1));
                }
            }
        }
        for (String wrong : new String[] {"=0", "0=0", "d=0", "D=", "D==0", "D=0=0", "A,M=0", "R0=0", "D=@1", "D=(a)", "@1=D"}) {
            Check.signsFault(1, "^" + wrong);
        }
    }

    /** All of J and two letters: those seven that are told, and no others. */
    private static void allJumps() {
        String letters = "GTEQLNMPJ";
        for (int i = 0; i < letters.length(); i++) {
            for (int k = 0; k < letters.length(); k++) {
                String jump = "J" + letters.charAt(i) + letters.charAt(k);
                int found = java.util.Arrays.asList(JUMPS).indexOf(jump);
                if (found < 0) {
                    Check.signsFault(1, "^0;" + jump);
                } else {
                    word("0;" + jump, 57344 + 64 * 42 + found + 1);
                }
            }
        }
        for (String wrong : new String[] {";JMP", "0;", "0;J", "0;JM", "0;JMPP", "0;jmp", "0;JMP;JMP", "0;JMP=D", "JMP", "0JMP", "0;;JMP", "0;JMP;",
            "@1;JMP", "(a);JMP"}) {
            Check.signsFault(1, "^" + wrong);
        }
    }

    /** Words: 57344 + 64 * bits (4096 more with M) + 32 for A, 16 for D, 8 for M in dest + jump. */
    private static void wordsOfAllKinds() {
        for (int d = 0; d <= 7; d++) {
            for (int j = 0; j <= 7; j++) {
                for (String comp : new String[] {"0", "D", "A", "M", "D|M", "A-D", "-1"}) {
                    String dest = d == 0 ? "" : DESTS[d - 1] + "=";
                    String jump = j == 0 ? "" : ";" + JUMPS[j - 1];
                    int marks = (dest.indexOf('A') >= 0 ? 32 : 0) + (dest.indexOf('D') >= 0 ? 16 : 0) + (dest.indexOf('M') >= 0 ? 8 : 0);
                    word(dest + comp + jump, bitsOf(comp) + marks + j);
                }
            }
        }
        word("M=1", 57344 + 64 * 63 + 8);
        word("AMD=D|M;JMP", 57344 + 4096 + 64 * 21 + 56 + 7);
        word("D&A", 57344);
        word("1", 57344 + 64 * 63);
    }

    /** An instruction has no blanks within. */
    private static void noBlanksWithin() {
        for (String blank : new String[] {" ", "\t", "\r", "  "}) {
            Check.signsFault(1, "^@" + blank + "1");
            Check.signsFault(1, "@1" + blank + "^2");
            Check.signsFault(1, "^(" + blank + "a)");
            Check.signsFault(1, "^(a" + blank + ")");
            Check.signsFault(1, "D" + blank + "^=A");
            Check.signsFault(1, "^D=" + blank + "A");
            Check.signsFault(1, "D" + blank + "^;JMP");
            Check.signsFault(1, "^D;" + blank + "JMP");
            Check.signsFault(1, "D" + blank + "^+1");
            Check.signsFault(1, "^D+" + blank + "1");
        }
    }

    /** A second one in its line is fault 1, at it; in the next line it is not. */
    private static void secondInItsLine() {
        String[] signs = {"@1", "@a", "(a)", "0", "D=A", "0;JMP", "AMD=D|M;JMP"};
        for (String first : signs) {
            for (String second : signs) {
                boolean twice = first.equals("(a)") && second.equals("(a)");
                Check.signsFault(1, first + " ^" + second);
                Check.signsFault(1, "@2\n\t" + first + "\t\r ^" + second + " // x\n@3");
                Check.signsFault(twice ? 3 : 0, first + "\n" + (twice ? "^" : "") + second);
            }
        }
        Check.signsFault(1, "@1 ^@2 @3");
    }

    /** There is room for 1500 instructions; labels are none. */
    private static void roomOfInstructions() {
        Check.due("register(3)", processor(Check.times(1499, "0\n")).register(3), 1499);
        TowerComputer x = processor(Check.times(1500, "D\n"));
        Check.due("register(3)", x.register(3), 1500);
        Check.due("code(1499)", x.code(1499), 57344 + 64 * 12);
        Check.due("code(1500)", x.code(1500), -1);
        Check.signsFault(2, Check.times(1500, "0\n") + "^0");
        Check.signsFault(2, Check.times(1500, "0\n") + "\n // x\n ^@1 // x\n(");
        Check.signsFault(2, Check.times(1500, "0\n") + "^@s");
        Check.signsFault(1, Check.times(1500, "0\n") + "^2");
        Check.signsFault(1, Check.times(1500, "0\n") + "^(");
        Check.signsFault(3, Check.times(1500, "0\n") + "^(R0)");
        Check.signsFault(0, Check.times(1500, "0\n") + "(a)\n(b)\n(c)");
        Check.signsFault(0, "(a)\n" + Check.times(1499, "0\n") + "(b)\n0\n(c)");
        Check.signsFault(2, "(a)\n" + Check.times(1499, "0\n") + "(b)\n0\n(c)\n^0");
        Check.due("code of a label behind all", processor("@a\n" + Check.times(1499, "0\n") + "(a)").code(0), 1500);
    }

    /** There is room for 100 symbols besides those known, labels with them. */
    private static void roomOfSymbols() {
        String hundred = Check.times(100, "@s#\n");
        Check.due("register(5)", processor(Check.times(99, "@s#\n")).register(5), 99);
        TowerComputer x = processor(hundred);
        Check.due("register(5)", x.register(5), 100);
        Check.due("code(0)", x.code(0), 16);
        Check.due("code(99)", x.code(99), 115);
        Check.signsFault(2, hundred + "^@t");
        Check.signsFault(2, hundred + "^(t)");
        Check.signsFault(2, hundred + "@s0\n@s99\n@R5\n@SCREEN\n@KBD\n(s5)\n\t^@t");
        Check.signsFault(0, hundred + "@s0\n@s99\n@R0\n@R15\n@SP\n@LCL\n@ARG\n@THIS\n@THAT\n@SCREEN\n@KBD\n(s5)\n(s99)");
        Check.signsFault(2, Check.times(100, "(s#)\n") + "^(t)");
        Check.signsFault(2, Check.times(100, "(s#)\n") + "^@t");
        Check.signsFault(3, Check.times(100, "(s#)\n") + "^(s0)");
        Check.signsFault(3, Check.times(100, "(s#)\n") + "^(KBD)");
        Check.signsFault(1, hundred + "^@t-");
        Check.signsFault(0, hundred + "@5");
        Check.signsFault(2, Check.times(100, "(s#)\n") + "^@R16");
    }

    private static void labelsToldTwice() {
        Check.signsFault(3, "(a)\n^(a)");
        Check.signsFault(3, "(a)\n@1\n@a\n ^(a) // x");
        Check.signsFault(3, "@a\n(a)\n^(a)");
        Check.signsFault(0, "@a\n(a)\n@a");
        Check.signsFault(0, "(a)\n(b)\n(A)\n(aa)");
        for (String known : new String[] {"R0", "R1", "R9", "R10", "R14", "R15", "SP", "LCL", "ARG", "THIS", "THAT", "SCREEN", "KBD"}) {
            Check.signsFault(3, "@1\n^(" + known + ")");
            Check.signsFault(0, "(" + known + "_)");
            Check.signsFault(0, "(" + known.toLowerCase() + ")");
        }
        for (String other : new String[] {"R16", "R00", "R", "R01", "R150", "SPS", "KBDD"}) {
            Check.signsFault(0, "(" + other + ")");
        }
    }

    private static void knownSymbols() {
        for (int i = 0; i <= 15; i++) {
            word("@R" + i, i);
        }
        String[] names = {"SP", "LCL", "ARG", "THIS", "THAT", "SCREEN", "KBD"};
        int[] values = {0, 1, 2, 3, 4, 16384, 24576};
        for (int i = 0; i < names.length; i++) {
            word("@" + names[i], values[i]);
            Check.due("register(5)", processor("@" + names[i]).register(5), 0);
        }
        for (String other : new String[] {"R16", "R00", "R01", "r0", "sp", "R", "Screen", "KBD2"}) {
            word("@" + other, 16);
        }
    }

    /** A label is the number of the instruction behind it, anywhere in the text. */
    private static void numbersOfLabels() {
        TowerComputer x = processor("@c\n(a)\n@a\n(b)\n(b2)\n@b\n@b2\n(c)");
        int[] want = {4, 1, 2, 2};
        for (int i = 0; i < want.length; i++) {
            Check.due("code(" + i + ")", x.code(i), want[i]);
        }
        Check.due("register(3)", x.register(3), 4);
        Check.due("a label ahead of all", processor("(a)\n@a").code(0), 0);
        Check.due("a label behind all", processor("@a\n(a)").code(0), 1);
    }

    /** Others are 16, 17, .. in the order in which they first come behind an @. */
    private static void numbersOfOthers() {
        TowerComputer x = processor("@L\n@x\n@y\n@x\n@5\n(L)\n@z\n@y\n@M\n(M)\n@w");
        int[] want = {5, 16, 17, 16, 5, 18, 17, 8, 19};
        for (int i = 0; i < want.length; i++) {
            Check.due("code(" + i + ")", x.code(i), want[i]);
        }
        Check.due("register(5)", x.register(5), 6);
    }

    /** The first fault from the left, whatever its number is. */
    private static void firstFaultFromTheLeft() {
        Check.signsFault(3, "^(R0)\n@\n" + Check.times(1501, "0\n"));
        Check.signsFault(1, "^@\n(R0)");
        Check.signsFault(1, "(a) ^(a)");
        Check.signsFault(3, "(a)\n^(a) @1");
        Check.signsFault(2, Check.times(1500, "0\n") + "^0 0");
        Check.signsFault(1, Check.times(1499, "0\n") + "0 ^0\n0");
    }

    /** Runs D and A with these values through an instruction. */
    private static TowerComputer done(String instruction, int a, int d) {
        TowerComputer x = processor("@100\nD=M\n@101\nA=M\n" + instruction);
        x.set(100, d);
        x.set(101, a);
        Check.due("go(5)", x.go(5), 5);
        return x;
    }

    /** What comp says is 16 bits: + and - go round. */
    private static void resultsGoRound() {
        for (int v : VALUES) {
            int[] ofD = {~v, -v, v + 1, v - 1};
            String[] comps = {"!D", "-D", "D+1", "D-1"};
            for (int i = 0; i < comps.length; i++) {
                Check.due(comps[i] + " of " + v, done("D=" + comps[i], 0, v).register(1), (short) ofD[i]);
                Check.due(comps[i] + " for A of " + v, done("D=" + comps[i].replace('D', 'A'), v, 0).register(1), (short) ofD[i]);
            }
            for (int w : VALUES) {
                int[] both = {v + w, v - w, w - v, v & w, v | w};
                String[] two = {"D+A", "D-A", "A-D", "D&A", "D|A"};
                for (int i = 0; i < two.length; i++) {
                    Check.due(two[i] + " of " + v + ", " + w, done("D=" + two[i], w, v).register(1), (short) both[i]);
                }
            }
        }
    }

    /** The word M is at address A, its lowest 15 bits. */
    private static void lowest15Bits() {
        int[][] rows = {{0, 0}, {1, 1}, {32767, 32767}, {-32768, 0}, {-32767, 1}, {-1, 32767}, {-2, 32766}};
        for (int[] row : rows) {
            TowerComputer x = done("M=D", row[0], 77);
            Check.due("store(" + row[1] + ") by A " + row[0], x.store(row[1]), 77);
            TowerComputer y = processor("@100\nA=M\nD=M");
            y.set(100, row[0]);
            y.set(row[1], row[1] == 100 ? 0 : -9);
            y.go(3);
            Check.due("M by A " + row[0], y.register(1), -9);
            Check.due("A stays", y.register(0), row[0]);
            TowerComputer z = done("0;JMP", row[0], 0);
            Check.due("next by A " + row[0], z.register(2), row[1]);
        }
    }

    /** All is done with A, D and M as they are: M at A as it was, the jump to A as it was. */
    private static void valuesAsTheyAre() {
        TowerComputer x = processor("@50\nAMD=A+1;JMP");
        Check.due("go(2)", x.go(2), 2);
        Check.due("store(50)", x.store(50), 51);
        Check.due("store(51)", x.store(51), 0);
        Check.due("A", x.register(0), 51);
        Check.due("D", x.register(1), 51);
        Check.due("next", x.register(2), 50);
        TowerComputer y = processor("@60\nAM=M+1");
        y.set(60, 32767);
        y.go(2);
        Check.due("store(60)", y.store(60), -32768);
        Check.due("A", y.register(0), -32768);
        TowerComputer z = processor("@60\nAD=M;JLT\n@1");
        z.set(60, -1);
        z.go(2);
        Check.due("next", z.register(2), 60);
        Check.due("A", z.register(0), -1);
    }

    private static void jumpsOfAllSigns() {
        for (int v : VALUES) {
            for (int j = 1; j <= 7; j++) {
                boolean taken = v > 0 ? (j & 1) != 0 : v == 0 ? (j & 2) != 0 : (j & 4) != 0;
                TowerComputer x = done("D;" + JUMPS[j - 1], 3, v);
                Check.due("next behind " + JUMPS[j - 1] + " of " + v, x.register(2), taken ? 3 : 5);
            }
            Check.due("next without a jump", done("D", 3, v).register(2), 5);
        }
    }

    /** Where there is no instruction it stands still. */
    private static void standsStill() {
        for (int n : new int[] {0, 1, 2, 1499, 1500}) {
            TowerComputer x = processor(Check.times(n, "0\n"));
            Check.due("go(20000) of " + n, x.go(20000), n);
            Check.due("next", x.register(2), n);
            Check.due("go(1)", x.go(1), 0);
            Check.due("done", x.register(4), n);
        }
        for (int to : new int[] {2, 3, 4, 1500, 32767}) {
            TowerComputer x = processor("@" + to + "\n0;JMP\n0");
            int due = to == 2 ? 3 : 2;
            Check.due("go(9) with a jump to " + to, x.go(9), due);
            Check.due("next", x.register(2), to == 2 ? 3 : to);
            Check.due("done", x.register(4), due);
        }
        TowerComputer y = processor("(a)\n@a\n0;JMP");
        for (int n : new int[] {0, 1, 2, 3, 19999, 20000}) {
            Check.due("go(" + n + ") without an end", y.go(n), n);
        }
        Check.due("done", y.register(4), 40005);
        Check.due("next", y.register(2), 1);
        for (int n : new int[] {-1, 20001, Integer.MIN_VALUE, Integer.MAX_VALUE}) {
            Check.due("go(" + n + ")", y.go(n), -1);
        }
        Check.due("done behind refused calls", y.register(4), 40005);
    }

    /** Behind a fault there are no words, and the store is as at first. */
    private static void behindAFault() {
        for (String fault : new String[] {"@", "(R0)", Check.times(1501, "0\n"), Check.times(101, "@s#\n"), "@1\nD=A\n@s\n@1 @2"}) {
            TowerComputer x = processor("@7\nD=A\n@s\nM=D\n(L)");
            x.go(4);
            x.set(0, 5);
            x.set(32767, 6);
            Check.due("signs with a fault", Check.signs(x, fault) > 0, true);
            Check.due("code(0)", x.code(0), -1);
            Check.due("register(3)", x.register(3), 0);
            Check.due("register(5)", x.register(5), 0);
            Check.due("store(0)", x.store(0), 0);
            Check.due("store(16)", x.store(16), 0);
            Check.due("store(32767)", x.store(32767), 0);
            Check.due("go(5)", x.go(5), 0);
            Check.due("set(3, 4)", x.set(3, 4), true);
            Check.due("store(3)", x.store(3), 4);
        }
    }

    private static void allIsAsAtFirst() {
        TowerComputer x = processor("@7\nD=A\n@s\nM=D\n(L)\n@L\n0;JMP");
        x.go(7);
        x.set(0, 5);
        x.set(32767, 6);
        Check.due("signs again", Check.signs(x, "@9"), 0);
        for (int what = 0; what <= 5; what++) {
            Check.due("register(" + what + ")", x.register(what), what == 3 ? 1 : 0);
        }
        for (int a : new int[] {0, 16, 17, 32767}) {
            Check.due("store(" + a + ")", x.store(a), 0);
        }
        Check.due("code(0)", x.code(0), 9);
        Check.due("code(1)", x.code(1), -1);
        Check.due("go(9)", x.go(9), 1);
        Check.due("register(0)", x.register(0), 9);
    }
}
