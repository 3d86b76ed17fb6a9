/** The boundaries of the board: rings, gates and bits (fault 6), what is not linked, and promises 20 to 23. */
public final class BoardEdgesTest {
    public static void main(String[] args) {
        chipsInThemselves();
        firstRingFromTheLeft();
        ringsOfNands();
        ringsThatAreNone();
        onlyTheLastChip();
        mostGates();
        mostBits();
        bitsOfWhatIsWithin();
        highestTowers();
        bitsThatAreNotLinked();
        innerNames();
        lowestBitToLowest();
        longestChainOfNands();
        longestChainOfDffs();
        dffsTogether();
        drivenPins();
        drivenBits();
        readPins();
        widestBoards();
        measures();
        withoutABoard();
        Check.finish();
    }

    private static TowerComputer board(String text) {
        TowerComputer x = new TowerComputer();
        Check.due("chips of " + Check.shortened(text), Check.chips(x, text), 0);
        Check.due("place() of " + Check.shortened(text), x.place(), -1);
        return x;
    }

    private static String chip(String name, String parts) {
        return "CHIP " + name + " { IN a; OUT o; PARTS: " + parts + " } ";
    }

    /** n chips in a row, each a part of the one ahead of it. */
    private static String row(int n) {
        StringBuilder all = new StringBuilder();
        for (int i = 0; i < n; i++) {
            all.append(chip("C" + i, i + 1 < n ? "C" + (i + 1) + "(a=a);" : ""));
        }
        return all.toString();
    }

    /** RING: a chip that is a part of itself, or of a part of itself, and so on. */
    private static void chipsInThemselves() {
        Check.chipsFault(6, chip("^A", "A(a=a);"));
        Check.chipsFault(6, chip("^A", "Nand(a=a); A(a=a);"));
        for (int n = 1; n <= 16; n++) {
            Check.chipsFault(0, row(n));
            String closed = row(n).replaceAll("PARTS:  }", "PARTS: C0(a=a); }").replaceFirst("C0", "^C0");
            Check.chipsFault(6, closed);
            if (n > 1) {
                String last = row(n).replaceAll("PARTS:  }", "PARTS: C" + (n - 1) + "(a=a); }").replace("CHIP C" + (n - 1) + " ",
                    "CHIP ^C" + (n - 1) + " ");
                Check.chipsFault(6, last);
            }
        }
    }

    /** The first from the left of those that are in a ring; one that only has a ring in it is in none. */
    private static void firstRingFromTheLeft() {
        Check.chipsFault(6, chip("A", "B(a=a);") + chip("^B", "B(a=a);"));
        Check.chipsFault(6, chip("A", "") + chip("^B", "C(a=a);") + chip("C", "B(a=a);") + chip("D", "D(a=a);"));
        Check.chipsFault(6, chip("^A", "B(a=a);") + chip("B", "A(a=a); B(a=a);"));
        Check.chipsFault(6, chip("^A", "A(a=a);") + chip("B", ""));
        Check.chipsFault(6, chip("B", "") + chip("^A", "A(a=a);") + chip("C", "Nand(a=x, out=x);"));
        Check.chipsFault(5, chip("A", "A(a=a);") + "CHIP B { IN a[^0]; OUT o; PARTS: }");
        Check.chipsFault(3, chip("A", "A(a=a);") + chip("^A", ""));
    }

    /** RING: a Nand that gets what it gives by Nands alone, at the text's length. */
    private static void ringsOfNands() {
        Check.chipsFault(6, chip("B", "Nand(a=x, out=x);") + "^");
        Check.chipsFault(6, chip("B", "Nand(b=x, out=x);") + "^");
        Check.chipsFault(6, chip("B", "Nand(a=false, b=x, out=x);") + "^");
        Check.chipsFault(6, chip("B", "Nand(a=a, b=x, out=x); Nand(a=a, b=a, out=o);") + "// x^");
        for (int n = 2; n <= 24; n++) {
            StringBuilder ring = new StringBuilder();
            for (int i = 0; i < n; i++) {
                ring.append("Nand(a=x").append(i).append(", out=x").append((i + 1) % n).append("); ");
            }
            Check.chipsFault(6, chip("B", ring.toString()) + "^");
            Check.chipsFault(0, chip("B", ring.toString().replace("Nand(a=x0, ", "Dff(in=x0, ")));
        }
        String not = chip("N", "Nand(a=a, b=a, out=o);");
        Check.chipsFault(6, not + chip("B", "N(a=x, o=x);") + "^");
        Check.chipsFault(6, not + chip("M", "N(a=a, o=x); N(a=x, o=o);") + chip("B", "M(a=x, o=y); M(a=y, o=x);") + "^");
    }

    private static void ringsThatAreNone() {
        Check.chipsFault(0, chip("B", "Dff(in=x, out=x);"));
        Check.chipsFault(0, chip("B", "Nand(a=x, b=a, out=y); Dff(in=y, out=x);"));
        Check.chipsFault(6, chip("B", "Nand(a=x, b=y, out=y); Dff(in=y, out=x);") + "^");
        // A pin that leads nowhere within a chip, and two ways through one, make no ring.
        Check.chipsFault(0, chip("E", "") + chip("B", "E(a=x, o=x);"));
        Check.chipsFault(0, "CHIP H { IN a, b; OUT c, d; PARTS: Nand(a=a, out=c); Nand(a=b, out=d); } " + chip("B", "H(a=a, c=x, b=x, d=o);"));
        Check.chipsFault(6, "CHIP H { IN a, b; OUT c, d; PARTS: Nand(a=a, out=c); Nand(a=b, out=d); } " + chip("B", "H(a=y, c=x, b=x, d=y);")
            + "^");
    }

    /** Gates, bits and rings of Nands are asked of the text's last chip alone. */
    private static void onlyTheLastChip() {
        String ring = chip("R", "Nand(a=x, out=x);");
        Check.chipsFault(0, ring + chip("B", ""));
        Check.chipsFault(6, ring + chip("B", "R(a=a);") + "^");
        Check.chipsFault(6, chip("B", "R(a=a);") + ring + "^");
        String tooMany = gates(1501).replace("CHIP B", "CHIP Q");
        Check.chipsFault(0, tooMany + chip("B", ""));
        Check.chipsFault(6, tooMany + chip("B", "Q(a=a);") + "^");
    }

    /** A board of so many gates, some of them Dffs: as 1500, or 15 of a hundred and some more. */
    private static String gates(int n) {
        int hundreds = n / 100;
        int tens = n % 100 / 10;
        int ones = n % 10;
        return chip("O", Check.times(Math.max(0, ones - 1), "Nand(a=a);") + (ones > 0 ? "Dff(in=a);" : ""))
            + chip("T", Check.times(7, "Nand(a=a);") + Check.times(3, "Dff(in=a);")) + chip("H", Check.times(10, "T(a=a);"))
            + chip("B", Check.times(hundreds, "H(a=a);") + Check.times(tens, "T(a=a);") + "O(a=a);");
    }

    /** RING: more than 1500 gates. */
    private static void mostGates() {
        for (int n : new int[] {0, 1, 1490, 1499, 1500}) {
            TowerComputer x = board(gates(n));
            Check.due("gates of " + n, x.gates(0) + x.gates(1), n);
            Check.due("gates(1) of " + n, x.gates(1), n / 10 * 3 + (n % 10 > 0 ? 1 : 0));
            x.drive(0, 1);
            Check.due("tick() of " + n, x.tick(), x.gates(1));
        }
        for (int n : new int[] {1501, 1502, 1509, 1600, 2000}) {
            Check.chipsFault(6, gates(n) + "^");
        }
    }

    /** 23 chips of 1664 bits, one of 1600 and its own, and 64 bits of the board: 40000 if its own are 64. */
    private static String bits(String own) {
        return "CHIP Z { IN a[16], b[16], c[16], d[16]; OUT o[16]; PARTS: } CHIP Y { IN a[16], b[16], c[16]; OUT o[16]; PARTS: "
            + Check.times(20, "Z(a=true);") + " } CHIP X " + own + " CHIP B { IN a[16], b[16], c[16]; OUT o[16]; PARTS: "
            + Check.times(23, "Y(a=true);") + "X(a=true); }";
    }

    /** RING: more than 40000 bits, of pins and inner names. */
    private static void mostBits() {
        String twenty = Check.times(19, "Z(a=true);");
        for (int n = 1; n <= 16; n++) {
            int more = n - 16;
            String mark = more > 0 ? "^" : "";
            Check.chipsFault(more > 0 ? 6 : 0, bits("{ IN a[16], b[16], c[" + n + "]; OUT o[16]; PARTS: Z(a=true); " + twenty + " }") + mark);
        }
        Check.chipsFault(6, bits("{ IN a[16], b[16], c[16], e; OUT o[16]; PARTS: Z(a=true); " + twenty + " }") + "^");
        Check.chipsFault(6, bits("{ IN a[16], b[16], c[16]; OUT o[16], e; PARTS: Z(a=true); " + twenty + " }") + "^");
        for (int n = 14; n <= 16; n++) {
            // An inner name of one bit, used never or twice.
            for (String used : new String[] {"", "d[0]=x, d[1]=x, "}) {
                Check.chipsFault(n > 15 ? 6 : 0, bits("{ IN a[16], b[16], c[" + n + "]; OUT o[16]; PARTS: Z(o[3]=x, " + used + "a=true); "
                    + twenty + " }") + (n > 15 ? "^" : ""));
            }
        }
        for (int n = 1; n <= 2; n++) {
            Check.chipsFault(n > 1 ? 6 : 0, bits("{ IN a[16], b[16], c[" + n + "]; OUT o[15]; PARTS: Z(o=x, a=true); " + twenty + " }")
                + (n > 1 ? "^" : ""));
        }
    }

    /** Gates have bits, too: a Nand three, a Dff two. */
    private static void bitsOfWhatIsWithin() {
        String twenty = Check.times(20, "Z(a=true);");
        for (int n = 12; n <= 15; n++) {
            Check.chipsFault(n > 13 ? 6 : 0, bits("{ IN a[16], b[16], c[" + n + "]; OUT o[16]; PARTS: Nand(a=true); " + twenty + " }")
                + (n > 13 ? "^" : ""));
            Check.chipsFault(n > 14 ? 6 : 0, bits("{ IN a[16], b[16], c[" + n + "]; OUT o[16]; PARTS: Dff(in=true); " + twenty + " }")
                + (n > 14 ? "^" : ""));
        }
    }

    /** So many gates or bits that their number would go round are more than there may be, too. */
    private static void highestTowers() {
        for (int parts : new int[] {2, 4, 8, 16}) {
            StringBuilder all = new StringBuilder(chip("C0", "Nand(a=a);"));
            for (int i = 1; i < 16; i++) {
                all.append(chip("C" + i, Check.times(parts, "C" + (i - 1) + "(a=a);")));
            }
            Check.chipsFault(6, all + "^");
        }
        StringBuilder thin = new StringBuilder(chip("C0", "Nand(a=a, b=a, out=o);"));
        for (int i = 1; i < 16; i++) {
            thin.append(chip("C" + i, "C" + (i - 1) + "(a=a, o=o);"));
        }
        TowerComputer x = board(thin.toString());
        Check.due("gates(0)", x.gates(0), 1);
        Check.due("gates(4)", x.gates(4), 16);
        Check.due("pin(0)", x.pin(0), 1);
        x.drive(0, 1);
        Check.due("pin(0)", x.pin(0), 0);
    }

    private static final String NOTS = "CHIP N { IN in[4]; OUT out[4]; PARTS: " + Check.times(4, "Nand(a=in[#], b=true, out=out[#]); ") + "} ";

    /** A bit of an IN pin, or of an OUT pin, that is not linked is 0. */
    private static void bitsThatAreNotLinked() {
        TowerComputer x = board(NOTS + "CHIP B { IN a; OUT o[4], p[4], q[4], r; PARTS: N(out=o); N(in[1..2]=true, out=p);"
            + " N(in=true, out[0]=q[1]); Dff(out=r); }");
        Check.due("no IN bit is linked", x.pin(0), 15);
        Check.due("two IN bits are linked", x.pin(1), 9);
        Check.due("one OUT bit is linked, with 0", x.pin(2), 0);
        x.tick();
        Check.due("a Dff whose in is not linked", x.pin(3), 0);
        TowerComputer y = board(NOTS + "CHIP B { IN a; OUT o[4], p; PARTS: N(in=false, out[0]=o[1], out[3]=o[2]); }");
        Check.due("the ends of an OUT pin are not linked", y.pin(0), 6);
        Check.due("an OUT pin is not linked", y.pin(1), 0);
        TowerComputer z = board("CHIP E { IN a; OUT o[2]; PARTS: } CHIP B { IN a; OUT o; PARTS: E(a=a, o[1]=x); Nand(a=x, b=true, out=o); }");
        z.drive(0, 1);
        Check.due("an OUT bit within that is not linked", z.pin(0), 1);
    }

    /** An inner name may be used ahead of where it is linked, as often as one likes, and need not be used. */
    private static void innerNames() {
        TowerComputer x = board("CHIP B { IN a; OUT o, p; PARTS: Nand(a=x, b=x, out=o); Nand(a=x, b=true, out=p, out=unused);"
            + " Nand(a=a, b=a, out=x); }");
        for (int a = 0; a <= 1; a++) {
            x.drive(0, a);
            Check.due("pin(0)", x.pin(0), a);
            Check.due("pin(1)", x.pin(1), a);
        }
    }

    /** Both sides have the same width; the lowest bit goes to the lowest. */
    private static void lowestBitToLowest() {
        TowerComputer x = board(NOTS + "CHIP B { IN v[16]; OUT o[16]; PARTS: N(in=v[12..15], out=o[0..3]); N(in=v[0..3], out=y);"
            + " N(in=y, out[1..2]=o[14..15]); N(in[2..3]=v[8..9], in[0..1]=true, out=o[4..7]); }");
        int v = 0b1010_0011_0000_0110;
        x.drive(0, v);
        int due = ~(v >> 12) & 15 | (v >> 1 & 3) << 14 | (~(v >> 8) & 3) << 6;
        Check.due("pin(0)", x.pin(0), due);
    }

    private static String chain(String gate, String in) {
        String ten = "CHIP T { IN a; OUT o; PARTS: " + link(gate, in, "out", 10) + " } ";
        return ten + "CHIP H { IN a; OUT o; PARTS: " + link("T", "a", "o", 10) + " } CHIP B { IN a; OUT o; PARTS: "
            + link("H", "a", "o", 15) + " }";
    }

    private static String link(String part, String in, String out, int n) {
        StringBuilder all = new StringBuilder();
        for (int i = 0; i < n; i++) {
            String from = i == 0 ? "a" : "x" + i;
            String to = i == n - 1 ? "o" : "x" + (i + 1);
            all.append(part).append('(').append(in).append('=').append(from).append(',').append(out).append('=').append(to).append(");");
        }
        return all.toString();
    }

    /** All gates settle at once, however many there are one behind the other. */
    private static void longestChainOfNands() {
        TowerComputer x = board(chain("Nand", "b=true,a"));
        Check.due("gates(0)", x.gates(0), 1500);
        Check.due("gates(5)", x.gates(5), 1500);
        Check.due("gates(7)", x.gates(7), 750);
        for (int a : new int[] {1, 0, 1, 1, 0}) {
            x.drive(0, a);
            Check.due("pin(0) behind 1500 Nands", x.pin(0), a);
            Check.due("gates(7)", x.gates(7), 750);
        }
        Check.due("tick()", x.tick(), 0);
    }

    private static void longestChainOfDffs() {
        TowerComputer x = board(chain("Dff", "in"));
        Check.due("gates(1)", x.gates(1), 1500);
        Check.due("gates(5)", x.gates(5), 0);
        x.drive(0, 1);
        Check.due("tick()", x.tick(), 1);
        x.drive(0, 0);
        for (int i = 0; i < 20; i++) {
            Check.due("tick() with a bit that goes on", x.tick(), 2);
        }
        x.drive(0, 1);
        Check.due("tick()", x.tick(), 3);
        Check.due("pin(0)", x.pin(0), 0);
        Check.due("gates(6)", x.gates(6), 22);
    }

    /** tick(): all Dff take what their in is, together. */
    private static void dffsTogether() {
        TowerComputer x = board("CHIP B { IN a; OUT o, p; PARTS: Dff(in=y, out=x, out=o); Dff(in=n, out=y, out=p); Nand(a=x, b=true, out=n); }");
        int[][] rows = {{0, 0}, {0, 1}, {1, 1}, {1, 0}, {0, 0}, {0, 1}};
        for (int i = 0; i < rows.length; i++) {
            Check.due("pin(0) behind " + i + " ticks", x.pin(0), rows[i][0]);
            Check.due("pin(1) behind " + i + " ticks", x.pin(1), rows[i][1]);
            Check.due("gates(6)", x.gates(6), i);
            Check.due("tick()", x.tick(), 1);
        }
        TowerComputer y = board("CHIP B { IN a, b; OUT o, p; PARTS: Dff(in=a, out=o); Dff(in=b, out=p); }");
        int[][] drives = {{0, 0, 0}, {1, 0, 1}, {1, 1, 1}, {0, 0, 2}, {1, 1, 2}, {1, 1, 0}};
        for (int[] d : drives) {
            y.drive(0, d[0]);
            y.drive(1, d[1]);
            Check.due("tick()", y.tick(), d[2]);
            Check.due("pin(0)", y.pin(0), d[0]);
            Check.due("pin(1)", y.pin(1), d[1]);
        }
    }

    /** drive(): IN pins from 0 on, as they stand; false if there is none such. */
    private static void drivenPins() {
        for (int n : new int[] {1, 2, 11}) {
            StringBuilder parts = new StringBuilder();
            for (int i = 0; i < n; i++) {
                parts.append("Nand(a=a").append(i).append(", b=true, out=o[").append(i).append("]); ");
            }
            TowerComputer x = board("CHIP B { IN " + Check.listed(n, "a#") + "; OUT o[" + n + "]; PARTS: " + parts + "}");
            int all = (1 << n) - 1;
            for (int k = 0; k < n; k++) {
                Check.due("drive(" + k + ", 1)", x.drive(k, 1), true);
                Check.due("pin(0)", x.pin(0), all & ~(1 << k));
                Check.due("drive(" + k + ", 0)", x.drive(k, 0), true);
            }
            for (int k : new int[] {-1, n, n + 1, 12, Integer.MIN_VALUE, Integer.MAX_VALUE}) {
                Check.due("drive(" + k + ", 1) of " + n + " pins", x.drive(k, 1), false);
                Check.due("pin(0) behind a refused drive", x.pin(0), all);
            }
        }
    }

    /** A pin has the lowest bits of v. */
    private static void drivenBits() {
        for (int w : new int[] {1, 2, 15, 16}) {
            StringBuilder parts = new StringBuilder();
            for (int i = 0; i < w; i++) {
                parts.append("Nand(a=a[").append(i).append("], b=true, out=o[").append(i).append("]); ");
            }
            TowerComputer x = board("CHIP B { IN a[" + w + "]; OUT o[" + w + "]; PARTS: " + parts + "}");
            int mask = (1 << w) - 1;
            Check.due("pin(0), all pins are 0 at first", x.pin(0), mask);
            for (int v : new int[] {0, 1, 2, 3, mask, mask + 1, mask + 2, -1, -2, 0x55555555, Integer.MIN_VALUE, Integer.MAX_VALUE, 65535, 65536}) {
                Check.due("drive(0, " + v + ")", x.drive(0, v), true);
                Check.due("pin(0) of " + w + " bits for " + v, x.pin(0), ~v & mask);
            }
        }
    }

    private static void readPins() {
        for (int n : new int[] {1, 2, 11}) {
            StringBuilder parts = new StringBuilder();
            for (int i = 0; i < n; i += 2) {
                parts.append("Nand(out=o").append(i).append("); ");
            }
            TowerComputer x = board("CHIP B { IN a; OUT " + Check.listed(n, "o#") + "; PARTS: " + parts + "}");
            for (int k = 0; k < n; k++) {
                Check.due("pin(" + k + ")", x.pin(k), 1 - k % 2);
            }
            for (int k : new int[] {-1, n, n + 1, 12, Integer.MIN_VALUE, Integer.MAX_VALUE}) {
                Check.due("pin(" + k + ") of " + n, x.pin(k), -1);
            }
        }
    }

    /** Eleven pins of 16 bits each, driven one by one, and the last OUT pin with all bits. */
    private static void widestBoards() {
        TowerComputer x = board("CHIP B { IN " + Check.listed(11, "a#[16]") + "; OUT o[16]; PARTS: "
            + Check.times(11, "Nand(a=a#[15], b=true, out=o[#]); ") + "Nand(a=a10[0], b=true, out=o[15]); }");
        Check.due("pin(0)", x.pin(0), 0x87FF);
        for (int k = 0; k < 11; k++) {
            x.drive(k, 0x8000);
            Check.due("pin(0) with pin " + k, x.pin(0), 0x87FF & ~((1 << k + 1) - 1));
        }
        x.drive(10, 0x7FFF);
        Check.due("pin(0) with the last pin", x.pin(0), 0x0400);
        TowerComputer y = board("CHIP B { IN a; OUT " + Check.listed(11, "o#[16]") + "; PARTS: Nand(out=o10[15], out=o0[0]); }");
        Check.due("pin(10)", y.pin(10), 0x8000);
        Check.due("pin(0)", y.pin(0), 1);
        Check.due("pin(9)", y.pin(9), 0);
    }

    /** gates(): 0 to 7, and -1 for another. */
    private static void measures() {
        TowerComputer x = board("CHIP A { IN a; OUT o; PARTS: } CHIP B { IN a, b, c; OUT o, p; PARTS: Nand(a=a, b=b, out=x); Nand(a=x, b=c, out=y);"
            + " Nand(a=y, b=y, out=o); Dff(in=y, out=z); Nand(a=z, b=true, out=p); Dff(in=a); }");
        int[] due = {4, 2, 3, 2, 2, 3, 0, 3};
        for (int what = 0; what <= 7; what++) {
            Check.due("gates(" + what + ")", x.gates(what), due[what]);
        }
        for (int what : new int[] {Integer.MIN_VALUE, -2, -1, 8, 9, Integer.MAX_VALUE}) {
            Check.due("gates(" + what + ")", x.gates(what), -1);
        }
        x.tick();
        Check.due("gates(6) behind a tick", x.gates(6), 1);
        Check.due("gates(7) behind a tick", x.gates(7), 2);
        TowerComputer y = board("CHIP B { IN a; OUT o; PARTS: }");
        int[] none = {0, 0, 1, 1, 1, 0, 0, 0};
        for (int what = 0; what <= 7; what++) {
            Check.due("gates(" + what + ") without gates", y.gates(what), none[what]);
        }
        Check.due("tick() without gates", y.tick(), 0);
        Check.due("gates(6)", y.gates(6), 1);
        Check.due("pin(0) without gates", y.pin(0), 0);
    }

    /** Without a board, at first and behind each fault. */
    private static void withoutABoard() {
        String[] faults = {"", "$", Check.times(17, "CHIP C# { IN a; OUT o; PARTS: } "), chip("Nand", ""), chip("B", "X(a=a);"),
            "CHIP B { IN a[0]; OUT o; PARTS: }", chip("B", "B(a=a);"), chip("B", "Nand(a=x, out=x);"), gates(1501)};
        int[] numbers = {1, 1, 2, 3, 4, 5, 6, 6, 6};
        for (int i = 0; i < faults.length; i++) {
            TowerComputer x = board(chip("B", "Dff(in=a, out=o);"));
            x.drive(0, 1);
            x.tick();
            Check.due("chips", Check.chips(x, faults[i]), numbers[i]);
            none(x);
            Check.due("chips again", Check.chips(x, chip("B", "Dff(in=a, out=o);")), 0);
            Check.due("pin(0) of a new board", x.pin(0), 0);
            Check.due("gates(6) of a new board", x.gates(6), 0);
            Check.due("tick() of a new board, whose IN pins are 0", x.tick(), 0);
        }
        none(new TowerComputer());
    }

    private static void none(TowerComputer x) {
        for (int what = -1; what <= 8; what++) {
            Check.due("gates(" + what + ") without a board", x.gates(what), -1);
        }
        Check.due("tick() without a board", x.tick(), -1);
        Check.due("pin(0) without a board", x.pin(0), -1);
        Check.due("drive(0, 1) without a board", x.drive(0, 1), false);
    }
}
