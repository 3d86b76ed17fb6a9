/** Promises 1 and 2: a new object, and the tape. */
public final class TapeTest {
    public static void main(String[] args) {
        newObject();
        roomOfTheTape();
        orderOfBytes();
        emptiedTape();
        Check.finish();
    }

    private static void newObject() {
        TowerComputer x = new TowerComputer();
        for (int what = 0; what <= 7; what++) {
            Check.due("count(" + what + ") of a new object", x.count(what), 0);
        }
        Check.due("run(5) of a new object", x.run(5), -1);
        Check.due("place() of a new object", x.place(), -1);
        Check.due("error() of a new object", x.error(), 0);
        Check.due("fetch() of a new object", x.fetch(), 0);
        Check.due("row(0) of a new object", x.row(0), 0);
        Check.due("word(2048) of a new object", x.word(2048), 0);
        Check.due("word(16511) of a new object", x.word(16511), 0);
        Check.due("command(0, 0) of a new object", x.command(0, 0), -1);
        Check.due("code(0) of a new object", x.code(0), -1);
        Check.due("go(5) of a new object", x.go(5), 0);
        Check.due("store(0) of a new object", x.store(0), 0);
        for (int what = 0; what <= 5; what++) {
            Check.due("register(" + what + ") of a new object", x.register(what), 0);
        }
        Check.due("drive(0, 1) of a new object", x.drive(0, 1), false);
        Check.due("pin(0) of a new object", x.pin(0), -1);
        Check.due("tick() of a new object", x.tick(), -1);
        for (int what = 0; what <= 7; what++) {
            Check.due("gates(" + what + ") of a new object", x.gates(what), -1);
        }
        Check.due("load(1) of a new object", x.load(1), -1);
        Check.due("keys(1) of a new object", x.keys(1), false);
        Check.due("keys(0) of a new object", x.keys(0), true);
    }

    private static void roomOfTheTape() {
        TowerComputer x = new TowerComputer();
        for (int i = 1; i <= 200; i++) {
            Check.due("feed " + i, x.feed(i, 0, 0, 0, 0), true);
            Check.due("count(0) behind feed " + i, x.count(0), 20 * i);
        }
        Check.due("feed 201", x.feed(1, 2, 3, 4, 5), false);
        Check.due("count(0) behind feed 201", x.count(0), 4000);
        Check.due("load(4001)", x.load(4001), -1);
        Check.due("load(4000)", x.load(4000), 1);
        Check.due("feed behind load", x.feed(1, 2, 3, 4, 5), true);
    }

    private static void orderOfBytes() {
        TowerComputer x = Check.mainProgram(
            "while (Keyboard.keyPressed()) { do Output.printChar(Keyboard.readChar()); } return;");
        x.feed(0x41424344, 0x45464748, 0x494A4B4C, 0x4D4E4F50, 0x515253FE);
        x.feed(0x55000000, 0, 0, 0, 0);
        Check.due("keys(21)", x.keys(21), true);
        Check.due("run", x.run(500), 0);
        Check.due("bytes in order", Check.output(x), "ABCDEFGHIJKLMNOPQRS\u00FEU");
    }

    private static void emptiedTape() {
        TowerComputer x = new TowerComputer();
        Check.feed(x, "0123456789");
        Check.due("keys(3)", x.keys(3), true);
        Check.due("count(0) behind keys", x.count(0), 0);
        Check.feed(x, "D=A\n");
        Check.due("signs(4)", x.signs(4), 0);
        Check.due("count(0) behind signs", x.count(0), 0);
        Check.feed(x, "0");
        Check.due("chips(1)", x.chips(1), 1);
        Check.due("count(0) behind chips", x.count(0), 0);
        Check.feed(x, "0");
        Check.due("load(0)", x.load(0), 7);
        Check.due("count(0) behind load", x.count(0), 0);
        Check.feed(x, "0");
        Check.due("load(-1)", x.load(-1), -1);
        Check.due("load(21)", x.load(21), -1);
        Check.due("signs(-1)", x.signs(-1), -1);
        Check.due("signs(21)", x.signs(21), -1);
        Check.due("chips(-1)", x.chips(-1), -1);
        Check.due("chips(21)", x.chips(21), -1);
        Check.due("keys(-1)", x.keys(-1), false);
        Check.due("keys(21)", x.keys(21), false);
        Check.due("count(0) behind refusals", x.count(0), 20);
    }
}
