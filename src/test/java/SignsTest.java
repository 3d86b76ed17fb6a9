/** Promises 13 to 18: the signs of the processor, its words, and what they do. */
public final class SignsTest {
    private static final String[] COMPS = {"0", "1", "-1", "D", "A", "!D", "!A", "-D", "-A", "D+1", "A+1", "D-1", "A-1",
        "D+A", "D-A", "A-D", "D&A", "D|A"};
    private static final int[] BITS = {42, 63, 58, 12, 48, 13, 49, 15, 51, 31, 55, 14, 50, 2, 19, 7, 0, 21};
    private static final String[] DESTS = {"", "M", "D", "MD", "A", "AM", "AD", "AMD"};
    private static final String[] JUMPS = {"", "JGT", "JEQ", "JGE", "JLT", "JNE", "JLE", "JMP"};

    public static void main(String[] args) {
        wordsOfComputations();
        wordsOfAddresses();
        layout();
        syntax();
        room();
        labelsTwice();
        computations();
        destinations();
        jumps();
        standingStill();
        loop();
        stores();
        refusedAndFaulty();
        Check.finish();
    }

    private static TowerComputer processor(String text) {
        TowerComputer x = new TowerComputer();
        Check.due("signs of " + Check.shortened(text), Check.signs(x, text), 0);
        Check.due("place() of " + Check.shortened(text), x.place(), -1);
        return x;
    }

    private static void word(String sign, int want) {
        TowerComputer x = processor(sign);
        Check.due("code(0) of " + sign, x.code(0), want);
        Check.due("code(1) of " + sign, x.code(1), -1);
        Check.due("register(3) of " + sign, x.register(3), 1);
    }

    private static void wordsOfComputations() {
        for (int c = 0; c < COMPS.length; c++) {
            word(COMPS[c], 57344 + 64 * BITS[c]);
            word("D=" + COMPS[c], 57344 + 64 * BITS[c] + 16);
            if (COMPS[c].indexOf('A') >= 0) {
                word(COMPS[c].replace('A', 'M'), 61440 + 64 * BITS[c]);
                word("M=" + COMPS[c].replace('A', 'M') + ";JMP", 61440 + 64 * BITS[c] + 15);
            }
        }
        for (int d = 1; d < DESTS.length; d++) {
            word(DESTS[d] + "=0", 57344 + 64 * 42 + 8 * d);
            word(DESTS[d] + "=D|M;JNE", 61440 + 64 * 21 + 8 * d + 5);
        }
        for (int j = 1; j < JUMPS.length; j++) {
            word("D;" + JUMPS[j], 57344 + 64 * 12 + j);
        }
        word("AMD=-1;JMP", 57344 + 64 * 58 + 56 + 7);
    }

    private static void wordsOfAddresses() {
        word("@0", 0);
        word("@32767", 32767);
        word("@00012", 12);
        for (int i = 0; i <= 15; i++) {
            word("@R" + i, i);
        }
        word("@SP", 0);
        word("@LCL", 1);
        word("@ARG", 2);
        word("@THIS", 3);
        word("@THAT", 4);
        word("@SCREEN", 16384);
        word("@KBD", 24576);
        word("@R16", 16);
        word("@x", 16);
        word("@_.$:aZ09", 16);
        word("@abcdefghijklmnop", 16);
        TowerComputer x = processor("@b\n@a\n(L)\n@b\n@L\n@R3\n@M2\n@a\n@c\n(M2)\n(END)");
        int[] want = {16, 17, 16, 2, 3, 8, 17, 18};
        for (int i = 0; i < want.length; i++) {
            Check.due("code(" + i + ")", x.code(i), want[i]);
        }
        Check.due("code(8)", x.code(8), -1);
        Check.due("code(-1)", x.code(-1), -1);
        Check.due("register(3)", x.register(3), 8);
        Check.due("register(5)", x.register(5), 6);
    }

    private static void layout() {
        TowerComputer x = processor("\n  @1 // one\r\n\t\r\n// two\n D=A//three\n(L) // four\n0;JMP\t \n\n   ");
        Check.due("register(3)", x.register(3), 3);
        Check.due("register(5)", x.register(5), 1);
        Check.due("code(1)", x.code(1), 57344 + 64 * 48 + 16);
        Check.due("register(3) of nothing", processor("").register(3), 0);
        Check.due("register(3) of a comment", processor("//").register(3), 0);
        Check.due("register(3) of a label", processor("(L)").register(3), 0);
        Check.due("register(5) of a label", processor("(L)").register(5), 1);
    }

    private static void syntax() {
        String[] wrong = {"@", "@32768", "@99999", "@000001", "@1a", "@a-b", "@abcdefghijklmnopq", "(", "()", "(a", "(1a)", "(a)b",
            "(abcdefghijklmnopq)", "(a b)", "D=", "=D", "D;", ";JMP", "DM=D", "MA=D", "D=D=D", "D;JMP;JMP", "D;JXX", "D=B", "A+D",
            "D+M+1", "M&D", "d", "D=A;jmp", "2", "-2", "!1", "D*A", "/", "D/A", "D\u0000", "@\u0000", "\u00FF", "D==A", "0;JGT=D",
            "@a\u0000", "D\u0000=A", "1+D", "AD=A+M"};
        for (String sign : wrong) {
            Check.signsFault(1, "@1\n  ^" + sign + "\n@2");
        }
        Check.signsFault(1, "@1 ^@2");
        Check.signsFault(1, "@1\t^D=A");
        Check.signsFault(1, "(L) ^@2");
        Check.signsFault(1, "D=A ^;JMP");
        Check.signsFault(1, "D ^=A");
        Check.signsFault(1, "^D= A");
        Check.signsFault(1, "D ^/ // x");
        Check.signsFault(1, "@1 ^@ // x\n@");
        Check.signsFault(1, "^@@1");
        Check.signsFault(0, "@1//@2 @3");
        Check.signsFault(0, "D///");
    }

    private static void room() {
        Check.signsFault(0, Check.times(1500, "0\n"));
        Check.signsFault(0, Check.times(1500, "0\n") + "(L)\n(M)");
        Check.signsFault(2, Check.times(1500, "0\n") + "(L)\n ^@1\n@");
        Check.signsFault(1, Check.times(1500, "0\n") + "(L)\n ^@");
        Check.signsFault(1, Check.times(1499, "0\n") + "0 ^0");
        Check.signsFault(0, Check.times(100, "@s#\n") + "@s5\n(s7)\n@R5\n@KBD");
        Check.signsFault(2, Check.times(100, "@s#\n") + " ^@t\n");
        Check.signsFault(2, Check.times(50, "@s#\n(t#)\n") + "@s1\n@t2\n ^(u)\n");
        TowerComputer x = processor(Check.times(100, "@s#\n"));
        Check.due("register(5)", x.register(5), 100);
        Check.due("code(99)", x.code(99), 115);
    }

    private static void labelsTwice() {
        Check.signsFault(3, "(L)\n@1\n ^(L)");
        Check.signsFault(3, "^(R0)");
        Check.signsFault(3, "@1\n^(SCREEN)");
        Check.signsFault(0, "(R16)\n@L\n(L)");
        Check.signsFault(3, Check.times(100, "(s#)\n") + "^(s99)");
        Check.signsFault(1, "(L)\n^(L\n");
    }

    /** What a comp says for these registers, looked at in D. */
    private static void computed(String comp, int a, int d, int want) {
        // Numbers below 0 come to D and A by way of the store.
        TowerComputer x = processor("@0\nD=M\n@1\nA=M\nD=" + comp);
        x.set(0, d);
        x.set(1, a);
        Check.due("go(5) for " + comp, x.go(5), 5);
        Check.due(comp + " of A " + a + ", D " + d, x.register(1), want);
        Check.due("A behind " + comp, x.register(0), a);
    }

    private static void computations() {
        int[][] pairs = {{3, 5}, {-1, 7}, {32767, -32768}, {100, 0}, {-32768, -1}, {12, 10}};
        for (int[] pair : pairs) {
            int a = pair[0];
            int d = pair[1];
            int[] want = {0, 1, -1, d, a, ~d, ~a, -d, -a, d + 1, a + 1, d - 1, a - 1, d + a, d - a, a - d, d & a, d | a};
            for (int c = 0; c < COMPS.length; c++) {
                computed(COMPS[c], a, d, (short) want[c]);
            }
        }
        TowerComputer x = processor("@9\nD=A\n@5\nM=D\nM=M+1\nD=D-M\nD=D&M\nM=D|M\nM=-M\nM=!M");
        x.go(5);
        Check.due("M+1", x.store(5), 10);
        x.go(1);
        Check.due("D-M", x.register(1), -1);
        x.go(1);
        Check.due("D&M", x.register(1), 10);
        x.set(5, 5);
        x.go(1);
        Check.due("D|M", x.store(5), 15);
        x.go(1);
        Check.due("-M", x.store(5), -15);
        x.go(1);
        Check.due("!M", x.store(5), 14);
    }

    private static void destinations() {
        for (int d = 0; d < DESTS.length; d++) {
            TowerComputer x = processor("@7\n" + (d == 0 ? "" : DESTS[d] + "=") + "A+1");
            Check.due("go(9)", x.go(9), 2);
            Check.due("A with dest " + DESTS[d], x.register(0), (d & 4) != 0 ? 8 : 7);
            Check.due("D with dest " + DESTS[d], x.register(1), (d & 2) != 0 ? 8 : 0);
            Check.due("M with dest " + DESTS[d], x.store(7), (d & 1) != 0 ? 8 : 0);
            Check.due("word 8 with dest " + DESTS[d], x.store(8), 0);
        }
        TowerComputer x = processor("@5\nA=-A\nM=A");
        x.go(3);
        Check.due("store(32763)", x.store(32763), -5);
        Check.due("register(0)", x.register(0), -5);
    }

    private static void jumps() {
        for (int j = 0; j < JUMPS.length; j++) {
            for (int v = -1; v <= 1; v++) {
                TowerComputer x = processor("@40\n" + (v < 0 ? "-1" : v) + (j == 0 ? "" : ";" + JUMPS[j]));
                x.go(2);
                boolean taken = v > 0 ? (j & 1) != 0 : v == 0 ? (j & 2) != 0 : (j & 4) != 0;
                Check.due("next behind " + v + ";" + JUMPS[j], x.register(2), taken ? 40 : 2);
            }
        }
        for (int j = 1; j < JUMPS.length; j++) {
            TowerComputer x = processor("@7\nD=A\n@9\nD+1;" + JUMPS[j]);
            x.go(4);
            Check.due("A behind a jump alone", x.register(0), 9);
            Check.due("D behind a jump alone", x.register(1), 7);
            Check.due("M behind a jump alone", x.store(9), 0);
        }
        TowerComputer idle = processor("@7\nD&A\nD&M");
        Check.due("go(3)", idle.go(3), 3);
        Check.due("A behind what goes nowhere", idle.register(0), 7);
        TowerComputer x = processor("@3\nA=-1;JMP\n@9\n@7");
        x.go(2);
        Check.due("the jump goes where A was", x.register(2), 3);
        Check.due("register(0)", x.register(0), -1);
        TowerComputer y = processor("@5\nA=-A\n0;JMP");
        Check.due("go(9)", y.go(9), 3);
        Check.due("lowest 15 bits", y.register(2), 32763);
    }

    private static void standingStill() {
        TowerComputer x = processor("@1\n@2\n@3");
        Check.due("go(0)", x.go(0), 0);
        Check.due("go(2)", x.go(2), 2);
        Check.due("register(2)", x.register(2), 2);
        Check.due("register(4)", x.register(4), 2);
        Check.due("go(2)", x.go(2), 1);
        Check.due("register(2)", x.register(2), 3);
        Check.due("go(20000)", x.go(20000), 0);
        Check.due("register(4)", x.register(4), 3);
        Check.due("register(0)", x.register(0), 3);
        Check.due("go(20001)", x.go(20001), -1);
        Check.due("go(-1)", x.go(-1), -1);
        TowerComputer y = processor("(L)\n@L\n0;JMP");
        Check.due("go(20000)", y.go(20000), 20000);
        Check.due("go(20000)", y.go(20000), 20000);
        Check.due("register(4)", y.register(4), 40000);
        Check.due("register(2)", y.register(2), 0);
    }

    private static void loop() {
        TowerComputer x = processor("// R2 is R0 times R1\n@R2\nM=0\n@R0\nD=M\n@left\nM=D\n(LOOP)\n@left\nD=M\n@END\nD;JLE\n"
            + "@R1\nD=M\n@R2\nM=D+M\n@left\nM=M-1\n@LOOP\n0;JMP\n(END)\n");
        x.set(0, 6);
        x.set(1, -7);
        Check.due("go", x.go(5000), 6 + 6 * 12 + 4);
        Check.due("store(2)", x.store(2), -42);
        Check.due("store(16)", x.store(16), 0);
        Check.due("register(2)", x.register(2), 18);
        Check.due("register(5)", x.register(5), 3);
    }

    private static void stores() {
        TowerComputer x = new TowerComputer();
        Check.due("set(0, 40000)", x.set(0, 40000), true);
        Check.due("store(0)", x.store(0), 40000 - 65536);
        Check.due("set(32767, -65537)", x.set(32767, -65537), true);
        Check.due("store(32767)", x.store(32767), -1);
        Check.due("set(32768, 1)", x.set(32768, 1), false);
        Check.due("set(-1, 1)", x.set(-1, 1), false);
        Check.due("store(32768)", x.store(32768), 100000);
        Check.due("store(-1)", x.store(-1), 100000);
        Check.due("store(5)", x.store(5), 0);
        Check.due("register(6)", x.register(6), 0);
        Check.due("register(-1)", x.register(-1), 0);
    }

    private static void refusedAndFaulty() {
        TowerComputer x = processor("@9\nD=A\n@s\nM=D");
        x.go(4);
        Check.due("store(16)", x.store(16), 9);
        Check.due("signs(1) of an empty tape", x.signs(1), -1);
        Check.due("signs(-1)", x.signs(-1), -1);
        Check.due("store(16) behind a refusal", x.store(16), 9);
        Check.due("register(4) behind a refusal", x.register(4), 4);
        Check.due("signs again", Check.signs(x, "@3"), 0);
        Check.due("store(16)", x.store(16), 0);
        for (int what = 0; what <= 5; what++) {
            Check.due("register(" + what + ")", x.register(what), what == 3 ? 1 : 0);
        }
        Check.signs(x, "@9\nD=A\n@s\nM=D");
        x.go(4);
        Check.due("signs with a fault", Check.signs(x, "@1\n@t\n("), 1);
        Check.due("place()", x.place(), 6);
        Check.due("store(16) behind a fault", x.store(16), 0);
        Check.due("register(3) behind a fault", x.register(3), 0);
        Check.due("register(5) behind a fault", x.register(5), 0);
        Check.due("code(0) behind a fault", x.code(0), -1);
        Check.due("go(5) behind a fault", x.go(5), 0);
        Check.due("signs behind a fault", Check.signs(x, "@u\n@1\n@v"), 0);
        Check.due("place()", x.place(), -1);
        Check.due("register(3)", x.register(3), 3);
        Check.due("register(5)", x.register(5), 2);
        Check.due("code(2)", x.code(2), 17);
    }
}
