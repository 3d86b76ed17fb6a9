import java.util.Random;

/** What holds for all promises: a call that is refused changes nothing, and no call ever throws. */
public final class RefusalTest {
    /** An object is used for at most 512 calls; each turn of a storm makes up to two. */
    private static final int MOST_TURNS = 250;

    public static void main(String[] args) {
        refusedCalls();
        refusedFeed();
        answersChangeNothing();
        twoObjects();
        sameCallsSameAnswers();
        anyCalls();
        anyBytes();
        Check.finish();
    }

    /** A computer with a program that has been run, words that have been done, and a board that has ticked. */
    static TowerComputer busy() {
        TowerComputer x = new TowerComputer();
        Check.keys(x, "some keys");
        Check.load(x, Check.inMain("do Screen.drawCircle(20, 10, 7); do Output.printString(\"abcdefghij\");"
            + " do Keyboard.readChar(); do Sys.error(5);"));
        x.run(50);
        Check.signs(x, "@7\nD=A\n@x\nM=D\n@9\n0;JMP");
        x.go(5);
        x.set(100, 5);
        Check.chips(x, "CHIP B { IN a[3]; OUT o[2]; PARTS: Dff(in=a[1], out=o[0], out=x); Nand(a=x, b=a[2], out=o[1]); }");
        x.drive(0, 6);
        x.tick();
        Check.feed(x, "left on the tape");
        return x;
    }

    /** All that can be asked without a change, as one text. */
    static String state(TowerComputer x) {
        StringBuilder all = new StringBuilder();
        all.append(x.place()).append(' ').append(x.error());
        for (int what = 0; what <= 7; what++) {
            all.append(' ').append(x.count(what)).append(' ').append(x.register(what)).append(' ').append(x.gates(what));
        }
        for (int y = 3; y < 18; y++) {
            all.append(' ').append(x.row(y));
        }
        for (int a = 2045; a < 2065; a++) {
            all.append(' ').append(x.word(a));
        }
        for (int i = 0; i < 16; i++) {
            all.append(' ').append(x.command(i, 0)).append(' ').append(x.command(i, 1)).append(' ').append(x.command(i, 2));
            all.append(' ').append(x.code(i)).append(' ').append(x.store(i + 5));
        }
        all.append(' ').append(x.store(100));
        return all.append(' ').append(x.pin(0)).toString();
    }

    private static void refusedCalls() {
        TowerComputer x = busy();
        String before = state(x);
        int[] wrong = {-1, Integer.MIN_VALUE, Integer.MAX_VALUE, 21};
        for (int n : wrong) {
            Check.due("load(" + n + ")", x.load(n), -1);
            Check.due("signs(" + n + ")", x.signs(n), -1);
            Check.due("chips(" + n + ")", x.chips(n), -1);
            Check.due("keys(" + n + ")", x.keys(n), false);
            Check.due("drive(" + n + ", 1)", x.drive(n, 1), false);
        }
        for (int n : new int[] {-1, Integer.MIN_VALUE, Integer.MAX_VALUE, 32768}) {
            Check.due("run(" + n + ")", x.run(n), -1);
            Check.due("go(" + n + ")", x.go(n), -1);
            Check.due("set(" + n + ", 1)", x.set(n, 1), false);
        }
        Check.due("state behind refused calls", state(x), before);
    }

    private static void refusedFeed() {
        TowerComputer x = busy();
        for (int i = 1; i < 200; i++) {
            Check.due("feed", x.feed(1, 2, 3, 4, 5), true);
        }
        Check.due("feed without room", x.feed(1, 2, 3, 4, 5), false);
        Check.due("count(0)", x.count(0), 4000);
        Check.due("register(4)", x.register(4), 5);
        Check.due("pin(0)", x.pin(0), 1);
    }

    private static void answersChangeNothing() {
        TowerComputer x = busy();
        String before = state(x);
        Check.due("state asked again", state(x), before);
        Check.due("output behind all questions", Check.output(x), "abcdefghij");
        Check.due("go(0)", x.go(0), 0);
        Check.due("set to what it is", x.set(100, 5), true);
        Check.due("drive to what it is", x.drive(0, 6), true);
        Check.due("count(5)", x.count(5), 0);
    }

    private static void twoObjects() {
        TowerComputer x = busy();
        TowerComputer y = busy();
        String before = state(x);
        Check.load(y, Check.inMain("do Memory.poke(2050, 3);"));
        y.run(10);
        Check.signs(y, "D=1");
        y.go(1);
        Check.chips(y, "CHIP B { IN a; OUT o; PARTS: }");
        Check.due("state of the other object", state(x), before);
    }

    private static void sameCallsSameAnswers() {
        for (int seed = 0; seed < 30; seed++) {
            Check.due("calls of seed " + seed, storm(new Random(seed)), storm(new Random(seed)));
        }
    }

    private static void anyCalls() {
        for (int seed = 100; seed < 400; seed++) {
            Check.due("calls of seed " + seed, storm(new Random(seed)) != null, true);
        }
    }

    private static int any(Random r) {
        switch (r.nextInt(6)) {
            case 0:
                return r.nextInt();
            case 1:
                return r.nextInt(70000) - 2000;
            case 2:
                return r.nextBoolean() ? Integer.MIN_VALUE : Integer.MAX_VALUE;
            case 3:
                return r.nextInt(300);
            default:
                return r.nextInt(10) - 1;
        }
    }

    private static String someText(Random r) {
        String[] texts = {Check.inMain("var int i; while (i < 50) { let i = i + 1; do Memory.poke(Memory.alloc(i), i); }"),
            Check.inMain("do Output.printString(Keyboard.readLine(\"?\")); do Main.main();"), "@5\nD=A\n(L)\nM=D+1\n@L\nD;JGT",
            "CHIP B { IN a; OUT o; PARTS: Nand(a=a, b=x, out=o); Dff(in=a, out=x); }", "class CHIP { @", "\u0000\u00FF\u0080"};
        return texts[r.nextInt(texts.length)];
    }

    /** As many calls as an object is used for, with any numbers: all answers as one text. */
    private static String storm(Random r) {
        TowerComputer x = new TowerComputer();
        StringBuilder all = new StringBuilder();
        int calls = 0;
        while (calls < MOST_TURNS) {
            if (r.nextInt(12) == 0) {
                String text = someText(r);
                Check.feed(x, text);
                calls += (text.length() + 19) / 20;
            }
            all.append(anyCall(x, r)).append(' ');
            calls++;
        }
        return all.toString();
    }

    private static long anyCall(TowerComputer x, Random r) {
        int a = any(r);
        int b = any(r);
        int tape = r.nextInt(3) == 0 ? a : x.count(0) - r.nextInt(3) * r.nextInt(20);
        switch (r.nextInt(23)) {
            case 0: return x.feed(a, b, any(r), any(r), any(r)) ? 1 : 0;
            case 1: return x.load(tape);
            case 2: return x.keys(tape) ? 1 : 0;
            case 3: return x.run(a);
            case 4: return x.run(r.nextInt(5001));
            case 5: return x.place();
            case 6: return x.error();
            case 7: return x.fetch();
            case 8: return x.row(a);
            case 9: return x.word(a);
            case 10: return x.count(a);
            case 11: return x.command(a, b);
            case 12: return x.signs(tape);
            case 13: return x.code(a);
            case 14: return x.go(r.nextBoolean() ? a : r.nextInt(20001));
            case 15: return x.set(a, b) ? 1 : 0;
            case 16: return x.store(a);
            case 17: return x.register(a);
            case 18: return x.chips(tape);
            case 19: return x.drive(a, b) ? 1 : 0;
            case 20: return x.pin(a);
            case 21: return x.tick();
            default: return x.gates(a);
        }
    }

    /** Texts of pieces that often fit, so that the readers come far. */
    private static void anyBytes() {
        String[] pieces = {"class ", "Main ", "{ ", "} ", "( ", ") ", "function ", "void ", "main ", "let ", "x ", "= ", "1 ", "; ",
            "if ", "while ", "else ", "[ ", "] ", ". ", ", ", "- ", "~ ", "do ", "return ", "var ", "int ", "field ", "static ",
            "method ", "\"s\" ", "CHIP ", "IN ", "OUT ", "PARTS ", ": ", "Nand ", "a ", "out ", ".. ", "@1\n", "(L)\n", "D=A\n",
            "// ", "\n", "/* ", "*/ ", "this ", "String "};
        Random r = new Random(5);
        for (int i = 0; i < 3000; i++) {
            TowerComputer x = new TowerComputer();
            StringBuilder text = new StringBuilder(i % 3 == 0 ? "class Main { function void main() { " : i % 3 == 1
                ? "CHIP B { IN a; OUT o; PARTS: " : "");
            for (int k = r.nextInt(120); k > 0; k--) {
                text.append(pieces[r.nextInt(pieces.length)]);
            }
            int answer = i % 3 == 0 ? Check.load(x, text.toString()) : i % 3 == 1 ? Check.chips(x, text.toString())
                : Check.signs(x, text.toString());
            Check.due("answer to " + Check.shortened(text.toString()), answer >= 0 && answer <= 7, true);
            Check.due("place of " + Check.shortened(text.toString()), x.place() >= -1 && x.place() <= text.length(), true);
            Check.due("place of " + Check.shortened(text.toString()), x.place() == -1, answer == 0);
        }
    }
}
