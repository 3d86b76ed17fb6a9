/** Promises 19 to 23: texts of chips, their faults, and the board. */
public final class ChipsTest {
    private static final String NOT = "CHIP Not { IN in; OUT out; PARTS: Nand(a=in, b=in, out=out); } ";
    private static final String AND = "CHIP And { IN a, b; OUT out; PARTS: Nand(a=a, b=b, out=n); Not(in=n, out=out); } ";
    private static final String XOR = "CHIP Xor { IN a, b; OUT out; PARTS: Nand(a=a, b=b, out=n); Nand(a=a, b=n, out=x);"
        + " Nand(a=b, b=n, out=y); Nand(a=x, b=y, out=out); } ";
    private static final String ADD = "CHIP Add { IN a, b, c; OUT sum, carry; PARTS: Xor(a=a, b=b, out=h); Xor(a=h, b=c, out=sum);"
        + " Nand(a=a, b=b, out=p); Nand(a=h, b=c, out=q); Nand(a=p, b=q, out=carry); } ";

    public static void main(String[] args) {
        tokens();
        syntax();
        room();
        toldTwice();
        names();
        widths();
        whatIsFaultyElsewhere();
        rings();
        sizes();
        gate();
        chipsOfChips();
        ranges();
        unlinked();
        clocks();
        measures();
        drivesAndPins();
        oneTextBehindAnother();
        otherTexts();
        Check.finish();
    }

    private static TowerComputer board(String text) {
        TowerComputer x = new TowerComputer();
        Check.due("chips of " + Check.shortened(text), Check.chips(x, text), 0);
        Check.due("place() of " + Check.shortened(text), x.place(), -1);
        return x;
    }

    private static String chip(String parts) {
        return "CHIP B { IN a, v[4]; OUT o, w[4]; PARTS: " + parts + " }";
    }

    private static void well(String parts) {
        Check.chipsFault(0, chip(parts));
    }

    private static void fault(int number, String parts) {
        Check.chipsFault(number, chip(parts));
    }

    private static void tokens() {
        Check.chipsFault(0, "// x\nCHIP/* * / */B{IN a;OUT o;PARTS:}//");
        Check.chipsFault(0, "CHIP abcdefghijklmnop { IN a_1; OUT o; PARTS: }");
        Check.chipsFault(1, "CHIP ^abcdefghijklmnopq { IN a; OUT o; PARTS: }");
        Check.chipsFault(1, "CHIP ^_b { IN a; OUT o; PARTS: }");
        Check.chipsFault(1, "CHIP B { IN a[^100]; OUT o; PARTS: }");
        Check.chipsFault(1, "CHIP B { IN a[^1a]; OUT o; PARTS: }");
        Check.chipsFault(1, "CHIP B { IN a[^1_]; OUT o; PARTS: }");
        Check.chipsFault(0, "CHIP B { IN a[02]; OUT o; PARTS: }");
        fault(1, "Nand(a=v[0^.1]);");
        fault(1, "Nand(a=v[0..^.1]);");
        fault(1, "Nand(a=v[0 ^. . 1]);");
        fault(1, "Nand(a^+a);");
        fault(1, "Nand(a=a)^/;");
        fault(1, "^/* Nand");
        fault(1, "^\u00E4");
        fault(1, "^\"x\"");
    }

    private static void syntax() {
        Check.chipsFault(1, "^");
        Check.chipsFault(1, "  // x\n^");
        Check.chipsFault(1, "^Nand");
        Check.chipsFault(1, "CHIP ^IN { }");
        Check.chipsFault(1, "CHIP B ^IN");
        Check.chipsFault(1, "CHIP B { ^OUT o;");
        Check.chipsFault(1, "CHIP B { IN ^;");
        Check.chipsFault(1, "CHIP B { IN a ^OUT");
        Check.chipsFault(1, "CHIP B { IN a[^]; OUT");
        Check.chipsFault(1, "CHIP B { IN a[^b]; OUT");
        Check.chipsFault(1, "CHIP B { IN a[1^..2]; OUT");
        Check.chipsFault(1, "CHIP B { IN a; ^PARTS: }");
        Check.chipsFault(1, "CHIP B { IN a; OUT o; ^}");
        Check.chipsFault(1, "CHIP B { IN a; OUT o; PARTS ^}");
        Check.chipsFault(1, "CHIP B { IN a; OUT o; PARTS: ^");
        Check.chipsFault(1, "CHIP B { IN a; OUT o; PARTS: } ^B");
        fault(1, "Nand^;");
        fault(1, "Nand(^);");
        fault(1, "Nand(a^);");
        fault(1, "Nand(a=^);");
        fault(1, "Nand(a=^5);");
        fault(1, "Nand(^true=a);");
        fault(1, "Nand(a=true^[0]);");
        fault(1, "Nand(a=a,^);");
        fault(1, "Nand(a=a^;");
        fault(1, "Nand(a=a) ^Nand(a=a);");
        fault(1, "Nand(a[0 ^a]=a);");
        fault(1, "Nand(a[0..^]=a);");
        fault(1, "^IN");
    }

    private static void room() {
        Check.chipsFault(0, Check.times(16, "CHIP C# { IN a; OUT o; PARTS: } "));
        Check.chipsFault(2, Check.times(16, "CHIP C# { IN a; OUT o; PARTS: } ") + "CHIP ^D");
        Check.chipsFault(1, Check.times(16, "CHIP C# { IN a; OUT o; PARTS: } ") + "CHIP ^5");
        Check.chipsFault(0, "CHIP B { IN " + Check.listed(11, "a#") + "; OUT o; PARTS: }");
        Check.chipsFault(0, "CHIP B { IN a; OUT " + Check.listed(11, "o#") + "; PARTS: }");
        Check.chipsFault(2, "CHIP B { IN " + Check.listed(11, "a#") + "; OUT o, ^p; PARTS: }");
        Check.chipsFault(2, "CHIP B { IN " + Check.listed(12, "a#") + ", ^b; OUT o; PARTS: }");
        Check.chipsFault(2, "CHIP B { IN " + Check.listed(12, "a#") + "; OUT ^o; PARTS: }");
        well(Check.times(24, "Nand(a=a); "));
        fault(2, Check.times(24, "Nand(a=a); ") + "^Nand(a=a);");
        fault(1, Check.times(24, "Nand(a=a); ") + "^5");
        well("Nand(" + Check.listed(100, "out=i#") + "); Nand(a=i99, b=i0, out=o);");
        Check.chipsFault(0, "CHIP A { IN a; OUT o; PARTS: Nand(out=x, out=y); } " + chip("Nand(" + Check.listed(100, "out=i#") + ");"));
        fault(2, "Nand(" + Check.listed(100, "out=i#") + "); Nand(a=i5, b=a, out=o, out=^x);");
        fault(2, "Nope(" + Check.listed(100, "x=i#") + ", x=a, x=o, x=true, y=^x);");
        Check.chipsFault(0, "CHIP A { IN a; OUT o; PARTS: Nand(" + Check.listed(60, "out=i#") + "); } CHIP B { IN a; OUT o; PARTS: Nand("
            + Check.listed(60, "out=j#") + "); }");
        // 2000 tokens: 17 of the chip, 4 of the part, 3 of its first link, and 4 of each other.
        String head = "CHIP B{IN a[1],b;OUT o;PARTS:Nand(a=a";
        String most = head + Check.times(494, ",a=a") + ");";
        Check.chipsFault(3, head + ",^a=a" + Check.times(493, ",a=a") + ");}");
        Check.chipsFault(3, head + ",^a=a" + Check.times(493, ",a=a") + ");}//");
        Check.chipsFault(2, most + "} ^}");
        Check.chipsFault(2, most + "} ^CHIP");
        Check.chipsFault(1, most + "} ^$");
        Check.chipsFault(1, most + "} ^/*");
        Check.chipsFault(1, most + "^,");
        Check.chipsFault(2, most + "Nand^(");
        Check.chipsFault(1, most + "Nand^");
    }

    private static void toldTwice() {
        Check.chipsFault(3, NOT + "CHIP ^Not { IN a; OUT o; PARTS: }");
        Check.chipsFault(3, "CHIP ^Nand { IN a; OUT o; PARTS: }");
        Check.chipsFault(3, "CHIP ^Dff { IN a; OUT o; PARTS: }");
        Check.chipsFault(3, "CHIP B { IN a, ^a; OUT o; PARTS: }");
        Check.chipsFault(3, "CHIP B { IN a; OUT o, ^a; PARTS: }");
        fault(3, "Nand(a=a, b=a, ^a=a);");
        fault(3, "Nand(a=true, ^a[0]=a);");
        well("Nand(a=a, out=x, out=y, out=o, out=w[0]);");
        fault(3, "Nand(out=o); Nand(a=a, out=^o);");
        fault(3, "Nand(out=o, out=^o);");
        well("Nand(out=w[1]); Nand(out=w[0], out=w[2]);");
        fault(3, "Nand(out=w[1]); Nand(out=^w[1]);");
        fault(3, "Nand(out=x); Dff(out=^x);");
        String wide = "CHIP W { IN p[4]; OUT q[4]; PARTS: } ";
        Check.chipsFault(0, wide + chip("W(p[0..1]=v[2..3], p[3]=a);"));
        Check.chipsFault(3, wide + chip("W(p[0..1]=v[2..3], ^p[1]=a);"));
        Check.chipsFault(3, wide + chip("W(p[3]=a, ^p=v);"));
        Check.chipsFault(3, NOT + AND + XOR + wide + chip("W(p[3]=a, ^p=v);"));
        Check.chipsFault(3, NOT + AND + XOR + wide + chip("W(q[3]=o); W(q[3]=^o);"));
        Check.chipsFault(0, wide + chip("W(q[0..1]=w[2..3]); W(q[3]=w[1]);"));
        Check.chipsFault(3, wide + chip("W(q[0..1]=w[2..3]); W(q[3]=^w[3]);"));
        Check.chipsFault(3, wide + chip("W(q=w); W(q[0]=^w[0]);"));
        Check.chipsFault(3, wide + chip("W(q=w, q[0]=^w);"));
        // Others mean the first one.
        Check.chipsFault(4, chip("C(^y=a);") + " CHIP C { IN x; OUT o; PARTS: } CHIP C { IN y; OUT o; PARTS: }");
        Check.chipsFault(4, chip("Dff(^x=a);") + " CHIP Dff { IN x; OUT o; PARTS: }");
    }

    private static void names() {
        fault(4, "^Foo(x=y);");
        fault(4, "^nand(a=a);");
        fault(4, "Nand(^c=a);");
        fault(4, "Dff(^a=a);");
        fault(4, "Nand(a=^o);");
        fault(4, "Nand(a=^w[0]);");
        fault(4, "Nand(a=^x);");
        fault(4, "Nand(a=a, out=x); Nand(a=x, b=^y);");
        well("Nand(a=x, b=a); Nand(out=x);");
        fault(4, "Nand(a=^x); Foo(out=x);");
        fault(4, "Nand(a=^x); Nand(b=x);");
        fault(4, "Nand(out=^a);");
        fault(4, "Nand(out=^v[1]);");
        fault(4, "Nand(out=^true);");
        fault(4, "Dff(out=^false);");
        Check.chipsFault(4, "CHIP A { IN a; OUT o; PARTS: Nand(out=x); } CHIP B { IN a; OUT o; PARTS: Nand(a=^x); }");
        Check.chipsFault(0, chip("C(p=a, q=o);") + " CHIP C { IN p; OUT q; PARTS: } CHIP D { IN a; OUT o; PARTS: B(a=a); }");
    }

    private static void widths() {
        Check.chipsFault(0, "CHIP B { IN a[1], b[16]; OUT o[16]; PARTS: }");
        Check.chipsFault(5, "CHIP B { IN a[^0]; OUT o; PARTS: }");
        Check.chipsFault(5, "CHIP B { IN a[^17]; OUT o; PARTS: }");
        Check.chipsFault(5, "CHIP B { IN a; OUT o[^99]; PARTS: }");
        fault(5, "Nand(a^[1]=a);");
        fault(5, "Nand(a^[0..1]=a);");
        well("Nand(a[0]=a, b[0..0]=v[3..3], out=w[3]);");
        fault(5, "Nand(a=v^[4]);");
        fault(5, "Nand(a=v^[2..1]);");
        fault(5, "Nand(a=v^[0..4]);");
        fault(5, "Nand(out=w^[4]);");
        fault(5, "Nand(a=^v);");
        fault(5, "Nand(a=^v[0..1]);");
        fault(5, "Nand(out=^w);");
        fault(5, "Nand(out=x^[0]);");
        fault(5, "Nand(out=x); Nand(a=x^[0]);");
        fault(5, "Nand(a=x^[0..3]); Nand(out=x);");
        String wide = "CHIP W { IN p[4]; OUT q[4]; PARTS: } ";
        Check.chipsFault(5, wide + chip("W(p=^a);"));
        Check.chipsFault(5, wide + chip("W(p[1..2]=^v);"));
        Check.chipsFault(5, wide + chip("W(p^[3..4]=v[0..1]);"));
        Check.chipsFault(5, wide + chip("W(q=x); Nand(a=^x);"));
        Check.chipsFault(5, wide + chip("Nand(a=^x); W(q=x);"));
        Check.chipsFault(5, wide + chip("W(q[1..2]=x); W(p=^x);"));
        Check.chipsFault(0, wide + chip("W(q[1..2]=x, q[2]=o); W(p[2..3]=x, p[0]=true); W(p=true);"));
    }

    private static void whatIsFaultyElsewhere() {
        // A pin whose number of bits is faulty counts as 1 wide.
        Check.chipsFault(5, "CHIP B { IN v[2]; OUT o; PARTS: W(p=^v); } CHIP W { IN p[20]; OUT q; PARTS: }");
        Check.chipsFault(5, "CHIP B { IN a; OUT o; PARTS: W(p=a); } CHIP W { IN p[^20]; OUT q; PARTS: }");
        // The width of an inner name is not asked where the range of its link is faulty.
        Check.chipsFault(5, "CHIP B { IN a; OUT o; PARTS: Nand(a=x); W(q^[7]=x); } CHIP W { IN p; OUT q[4]; PARTS: }");
        Check.chipsFault(5, "CHIP B { IN a; OUT o; PARTS: Nand(a=^x); W(q[1..2]=x); } CHIP W { IN p; OUT q[4]; PARTS: }");
        // Where the right range is faulty neither bits nor width are asked.
        fault(5, "Nand(out=w[0]); Nand(out=w^[0..7]);");
        fault(3, "Nand(out=x); Nand(out=^x[1]);");
        // A link of a part that is no chip is not looked at.
        fault(4, "^Foo(a=a, a=a, out=x, out=x, out[3]=true); Nand(a=nowhere);");
        // The first from the left, and at one place the least number.
        Check.chipsFault(3, chip("Nand(out=o); W(q=^o);") + " CHIP W { IN p; OUT q[4]; PARTS: }");
        fault(4, "Nand(a=^nowhere, a=a); Nand(out=o, out=o);");
        fault(5, "Nand(a^[1]=nowhere);");
        Check.chipsFault(1, "CHIP B { IN a, a; OUT o; PARTS: Foo(x=y) ^}");
    }

    private static void rings() {
        Check.chipsFault(6, "CHIP ^B { IN a; OUT o; PARTS: B(a=a); }");
        Check.chipsFault(6, "CHIP A { IN a; OUT o; PARTS: B(a=a); } CHIP ^B { IN a; OUT o; PARTS: C(a=a); }"
            + " CHIP C { IN a; OUT o; PARTS: B(a=a); }");
        Check.chipsFault(6, "CHIP ^A { IN a; OUT o; PARTS: C(a=a); } CHIP B { IN a; OUT o; PARTS: B(a=a); }"
            + " CHIP C { IN a; OUT o; PARTS: A(a=a); }");
        Check.chipsFault(5, "CHIP A { IN a; OUT o; PARTS: A(a=a); } CHIP B { IN a[^0]; OUT o; PARTS: }");
        Check.chipsFault(6, chip("Nand(a=a, b=x, out=x);") + "^");
        Check.chipsFault(6, chip("Nand(a=x, b=true, out=y); Nand(a=y, b=true, out=x);") + "  ^");
        well("Nand(a=a, b=x, out=y); Dff(in=y, out=x);");
        well("Dff(in=x, out=x);");
        Check.chipsFault(6, NOT + "CHIP B { IN a; OUT o; PARTS: Not(in=x, out=y); Not(in=y, out=x); } // x^");
        // A chip whose two halves do not depend on one another may be linked with itself.
        Check.chipsFault(0, "CHIP H { IN a, b; OUT c, d; PARTS: Nand(a=a, b=a, out=c); Nand(a=b, b=b, out=d); } "
            + chip("H(a=a, c=x, b=x, d=o);"));
        // Only what is in the last chip is asked for such rings.
        Check.chipsFault(0, "CHIP A { IN a; OUT o; PARTS: Nand(a=x, out=x); } " + chip(""));
    }

    private static void sizes() {
        String ten = "CHIP T { IN a; OUT o; PARTS: " + Check.times(10, "Nand(a=a);") + " } "
            + "CHIP U { IN a; OUT o; PARTS: " + Check.times(10, "T(a=a);") + " } ";
        Check.chipsFault(0, ten + "CHIP B { IN a; OUT o; PARTS: " + Check.times(15, "U(a=a);") + " }");
        TowerComputer x = board(ten + "CHIP B { IN a; OUT o; PARTS: " + Check.times(15, "U(a=a);") + " }");
        Check.due("gates(0)", x.gates(0), 1500);
        Check.chipsFault(6, ten + "CHIP B { IN a; OUT o; PARTS: " + Check.times(15, "U(a=a);") + "Nand(a=a); }^");
        Check.chipsFault(6, ten + "CHIP B { IN a; OUT o; PARTS: " + Check.times(15, "U(a=a);") + "Dff(in=a); }^");
        Check.chipsFault(0, ten + "CHIP B { IN a; OUT o; PARTS: " + Check.times(15, "U(a=a);") + "Dff(in=a); } " + NOT);
        // 480 times 80 bits, 24 times 64, and 64 of the board itself are 40000.
        String many = "CHIP Z { IN a[16], b[16], c[16], d[16]; OUT o[16]; PARTS: } CHIP Y { IN a[16], b[16], c[16]; OUT o[16]; PARTS: "
            + Check.times(20, "Z(a=true);") + " } CHIP B { IN a[16], b[16], c[16]; OUT o[#]; PARTS: " + Check.times(24, "Y(a=true);") + " }";
        Check.chipsFault(0, many.replace("#", "16"));
        Check.chipsFault(0, many.replace("#", "16").replace("PARTS: Y(a=true", "PARTS: Y(o=o, a=true"));
        Check.chipsFault(0, many.replace("#", "15").replace("PARTS: Y(a=true", "PARTS: Y(o[3]=x, a=true")
            .replaceAll("Y\\(a=true\\); }$", "Y(a[0]=x, a[1]=x); }"));
        Check.chipsFault(6, many.replace("#", "16").replace("OUT o[16]; PARTS: Y", "OUT o[16], p; PARTS: Y") + "^");
        Check.chipsFault(6, many.replace("#", "16").replace("PARTS: Y(a=true", "PARTS: Y(o[3]=x, a=true") + "^");
        Check.chipsFault(0, many.replace("#", "15").replace("PARTS: Y(a=true", "PARTS: Y(o[3]=x, a=true"));
        // The same with a Nand, of 3 bits, or a Dff, of 2, in each of the 24.
        String nands = many.replace("c[16]; OUT o[16]; PARTS: Z", "c[13]; OUT o[16]; PARTS: Nand(a=true); Z").replace("#", "16");
        Check.chipsFault(0, nands);
        Check.chipsFault(6, nands.replace("OUT o[16]; PARTS: Y", "OUT o[16], p; PARTS: Y") + "^");
        String dffs = many.replace("c[16]; OUT o[16]; PARTS: Z", "c[14]; OUT o[16]; PARTS: Dff(in=true); Z").replace("#", "16");
        Check.chipsFault(0, dffs);
        Check.chipsFault(6, dffs.replace("OUT o[16]; PARTS: Y", "OUT o[16], p; PARTS: Y") + "^");
        Check.chipsFault(6, tower(8) + "^");
        manyUsers();
        Check.due("gates(0) of the highest tower", board(tower(1)).gates(0), 1);
    }

    /** 1490 Nands that all get what one gives, on both sides. */
    private static void manyUsers() {
        TowerComputer x = board("CHIP T { IN a; OUT o; PARTS: " + Check.times(10, "Nand(a=a, b=a);") + " } CHIP U { IN a; OUT o; PARTS: "
            + Check.times(10, "T(a=a);") + " } CHIP B { IN a; OUT o; PARTS: Nand(a=a, b=true, out=x, out=o); "
            + Check.times(14, "U(a=x);") + Check.times(9, "T(a=x);") + " }");
        Check.due("gates(0)", x.gates(0), 1491);
        Check.due("gates(5)", x.gates(5), 2);
        Check.due("gates(7)", x.gates(7), 1);
        x.drive(0, 1);
        Check.due("gates(7)", x.gates(7), 1490);
    }

    /** Sixteen chips, each made of so many of the one ahead of it. */
    private static String tower(int times) {
        StringBuilder all = new StringBuilder("CHIP C0 { IN a; OUT o; PARTS: Nand(a=a, b=a); } ");
        for (int i = 1; i < 16; i++) {
            String part = "C" + (i - 1) + "(a=a);";
            all.append("CHIP C").append(i).append(" { IN a; OUT o; PARTS: ").append(Check.times(times, part)).append(" } ");
        }
        return all.toString();
    }

    private static void gate() {
        TowerComputer x = board("CHIP B { IN a, b; OUT o; PARTS: Nand(a=a, b=b, out=o); }");
        for (int i = 0; i < 4; i++) {
            Check.due("drive(0)", x.drive(0, i & 1), true);
            Check.due("drive(1)", x.drive(1, i >> 1), true);
            Check.due("pin(0) of " + i, x.pin(0), i == 3 ? 0 : 1);
            Check.due("gates(7) of " + i, x.gates(7), i == 3 ? 0 : 1);
        }
        Check.due("pin(1)", x.pin(1), -1);
        Check.due("pin(-1)", x.pin(-1), -1);
        Check.due("drive(2, 1)", x.drive(2, 1), false);
        Check.due("drive(-1, 1)", x.drive(-1, 1), false);
    }

    private static void chipsOfChips() {
        StringBuilder adder = new StringBuilder("CHIP Four { IN a[4], b[4], c; OUT sum[4], carry; PARTS: ");
        for (int i = 0; i < 4; i++) {
            adder.append("Add(a=a[").append(i).append("], b=b[").append(i).append("], c=").append(i == 0 ? "c" : "c" + (i - 1))
                .append(", sum=sum[").append(i).append("], carry=").append(i == 3 ? "carry" : "c" + i).append("); ");
        }
        // The parts stand ahead of and behind the chip that is made of them.
        String text = ADD + XOR + adder + "}";
        TowerComputer x = board(text);
        for (int a = 0; a < 16; a += 3) {
            for (int b = 0; b < 16; b += 2) {
                int c = a + b & 1;
                x.drive(0, a + 16 * b);
                x.drive(1, b - 16);
                x.drive(2, c);
                Check.due("sum of " + a + ", " + b + ", " + c, x.pin(0), a + b + c & 15);
                Check.due("carry of " + a + ", " + b + ", " + c, x.pin(1), a + b + c >> 4);
            }
        }
        Check.due("gates(0)", x.gates(0), 44);
        Check.due("gates(2)", x.gates(2), 3);
        Check.due("gates(3)", x.gates(3), 2);
        Check.due("gates(4)", x.gates(4), 3);
        Check.due("gates(5)", x.gates(5), 3 + 2 * 4 + 1);
        TowerComputer y = board(AND + NOT + "CHIP B { IN x; OUT o, p; PARTS: And(a=x, b=true, out=o, out=q); Not(in=q, out=p); }");
        Check.due("pin(0)", y.pin(0), 0);
        Check.due("pin(1)", y.pin(1), 1);
        y.drive(0, 1);
        Check.due("pin(0)", y.pin(0), 1);
        Check.due("pin(1)", y.pin(1), 0);
    }

    private static void ranges() {
        String nots = "CHIP Nots { IN in[4]; OUT out[4]; PARTS: "
            + Check.times(4, "Nand(a=in[#], b=in[#], out=out[#]); ") + "} ";
        TowerComputer x = board(nots + "CHIP B { IN v[16]; OUT o[16], p[2], q; PARTS: Nots(in=v[4..7], out=o[8..11], out[1..2]=p);"
            + " Nots(in[3]=v[15], in[0..1]=v[0..1], in[2]=true, out=x, out[3]=q); Nots(in=x, out=o[0..3]); }");
        x.drive(0, 0x8052);
        Check.due("pin(0)", x.pin(0), 0xA00 | 0b1110);
        Check.due("pin(1)", x.pin(1), 0b01);
        Check.due("pin(2)", x.pin(2), 0);
        x.drive(0, 0x00F1);
        Check.due("pin(0)", x.pin(0), 0b0101);
        Check.due("pin(1)", x.pin(1), 0);
        Check.due("pin(2)", x.pin(2), 1);
        TowerComputer y = board(nots + "CHIP B { IN v; OUT o[4], p[4]; PARTS: Nots(in=true, out=o); Nots(in=false, out=p); }");
        Check.due("true", y.pin(0), 0);
        Check.due("false", y.pin(1), 15);
    }

    private static void unlinked() {
        TowerComputer x = board("CHIP B { IN a; OUT o, p, q[3]; PARTS: Nand(out=o); Nand(a=true, out=q[1]); Dff(out=p); }");
        Check.due("pin(0)", x.pin(0), 1);
        Check.due("pin(1)", x.pin(1), 0);
        Check.due("pin(2)", x.pin(2), 2);
        TowerComputer y = board("CHIP E { IN a; OUT o; PARTS: } CHIP B { IN a; OUT o, p; PARTS: E(a=a, o=x); Nand(a=x, b=true, out=o); E(a=a, o=p); }");
        y.drive(0, 1);
        Check.due("pin(0)", y.pin(0), 1);
        Check.due("pin(1)", y.pin(1), 0);
        Check.due("gates(0)", y.gates(0), 1);
    }

    private static void clocks() {
        // Three Dffs behind one another, and one that turns at each tick.
        TowerComputer x = board(NOT + "CHIP B { IN a; OUT o[3], t; PARTS: Dff(in=y, out=o[2]); Dff(in=x, out=y, out=o[1]);"
            + " Dff(in=a, out=x, out=o[0]); Dff(in=n, out=t, out=s); Not(in=s, out=n); }");
        Check.due("gates(1)", x.gates(1), 4);
        Check.due("pin(0)", x.pin(0), 0);
        x.drive(0, 1);
        Check.due("pin(0) without a tick", x.pin(0), 0);
        Check.due("tick()", x.tick(), 2);
        Check.due("pin(0)", x.pin(0), 1);
        Check.due("pin(1)", x.pin(1), 1);
        x.drive(0, 0);
        Check.due("tick()", x.tick(), 3);
        Check.due("pin(0)", x.pin(0), 2);
        Check.due("pin(1)", x.pin(1), 0);
        Check.due("tick()", x.tick(), 3);
        Check.due("pin(0)", x.pin(0), 4);
        Check.due("tick()", x.tick(), 2);
        Check.due("pin(0)", x.pin(0), 0);
        Check.due("tick()", x.tick(), 1);
        Check.due("gates(6)", x.gates(6), 5);
        Check.due("gates(7)", x.gates(7), 0);
        Check.due("tick()", x.tick(), 1);
        Check.due("gates(7)", x.gates(7), 1);
        Check.chips(x, NOT);
        Check.due("gates(0) of a new board", x.gates(0), 1);
        Check.due("gates(1) of a new board", x.gates(1), 0);
        Check.due("gates(6) of a new board", x.gates(6), 0);
        Check.due("tick() without a Dff", x.tick(), 0);
        Check.due("gates(6)", x.gates(6), 1);
    }

    private static void measures() {
        TowerComputer x = board("CHIP B { IN a; OUT o; PARTS: }");
        int[] none = {0, 0, 1, 1, 1, 0, 0, 0};
        for (int what = 0; what < none.length; what++) {
            Check.due("gates(" + what + ") of a board without parts", x.gates(what), none[what]);
        }
        Check.due("gates(-1)", x.gates(-1), -1);
        Check.due("gates(8)", x.gates(8), -1);
        // A Dff ends a chain of Nands, and a Nand whose output goes nowhere counts.
        TowerComputer y = board("CHIP B { IN a; OUT o; PARTS: Nand(a=z, b=z); Nand(a=a, b=a, out=x); Nand(a=x, b=a, out=y);"
            + " Dff(in=y, out=d); Nand(a=d, b=d, out=o); Nand(a=y, b=true, out=z); }");
        Check.due("gates(0)", y.gates(0), 5);
        Check.due("gates(1)", y.gates(1), 1);
        Check.due("gates(5)", y.gates(5), 4);
        Check.due("gates(7)", y.gates(7), 4);
        Check.due("gates(5) of an adder", board(XOR + ADD).gates(5), 6);
        Check.due("gates(5) of constants", board("CHIP B { IN a; OUT o; PARTS: Nand(a=true, b=false, out=o); }").gates(5), 1);
    }

    private static void drivesAndPins() {
        TowerComputer x = board("CHIP B { IN a, b[3], c[16]; OUT o[16]; PARTS: Nand(a=a, b=b[2], out=o[0]);"
            + " Nand(a=c[15], b=true, out=o[15]); }");
        Check.due("pin(0)", x.pin(0), 0x8001);
        x.drive(0, 3);
        x.drive(1, 4 + 64);
        x.drive(2, -1);
        Check.due("pin(0)", x.pin(0), 0);
        x.drive(0, 2);
        Check.due("pin(0)", x.pin(0), 1);
        x.drive(2, 0x7FFF8000 - 0x8000);
        Check.due("pin(0)", x.pin(0), 0x8001);
        Check.due("drive(3, 0)", x.drive(3, 0), false);
        TowerComputer y = board("CHIP B { IN a[16], b[16]; OUT o[16], p[16]; PARTS: " + Check.times(2,
            "Nand(a=a[#], b=true, out=o[#]); Nand(a=b[#], b=true, out=p[#]); ") + "}");
        y.drive(0, 1 << 16 | 1);
        Check.due("pin(0)", y.pin(0), 2);
        Check.due("pin(1), of the other IN pin", y.pin(1), 3);
    }

    /** Nothing of a text is left in the next one. */
    private static void oneTextBehindAnother() {
        TowerComputer x = new TowerComputer();
        for (int i = 0; i < 2; i++) {
            Check.due("chips of many parts", Check.chips(x, Check.times(8, "CHIP C# { IN a; OUT o; PARTS: "
                + Check.times(24, "Nand(a=a);") + " } ")), 0);
            Check.due("gates(0)", x.gates(0), 24);
            Check.due("gates(4)", x.gates(4), 8);
            Check.due("chips of many pins", Check.chips(x, Check.times(16, "CHIP C# { IN a,b,c,d,e,f,g,h,i,j,k; OUT o; PARTS: } ")), 0);
            Check.due("gates(2)", x.gates(2), 11);
            Check.due("chips without a name", Check.chips(x, "CHIP { IN a; OUT o; PARTS: }"), 1);
            Check.due("chips of links", Check.chips(x, chip("Nand(" + Check.listed(60, "out=i#") + ");")), 0);
            Check.due("chips of a gate", Check.chips(x, chip("Dff(in=a, out=o); Nand(a=v[0], b=v[1], out=w[2]);")), 0);
            x.drive(0, 1);
            Check.due("tick()", x.tick(), 1);
            Check.due("pin(0)", x.pin(0), 1);
            Check.due("pin(1)", x.pin(1), 4);
        }
    }

    private static void otherTexts() {
        TowerComputer x = board(NOT);
        x.drive(0, 1);
        Check.due("chips(1) of an empty tape", x.chips(1), -1);
        Check.due("chips(-1)", x.chips(-1), -1);
        Check.due("pin(0) behind a refusal", x.pin(0), 0);
        Check.load(x, Check.inMain("do Sys.halt();"));
        Check.signs(x, "@5");
        Check.due("pin(0) behind other texts", x.pin(0), 0);
        Check.due("chips with a fault", Check.chips(x, "CHIP"), 1);
        Check.due("pin(0) without a board", x.pin(0), -1);
        Check.due("drive(0, 0) without a board", x.drive(0, 0), false);
        Check.due("tick() without a board", x.tick(), -1);
        Check.due("gates(4) without a board", x.gates(4), -1);
        Check.due("register(3) behind a fault of chips", x.register(3), 1);
        Check.due("count(7) behind a fault of chips", x.count(7), 1);
        Check.due("chips again", Check.chips(x, NOT), 0);
        Check.due("pin(0) of a new board", x.pin(0), 1);
        Check.due("chips with a fault 6", Check.chips(x, chip("Nand(a=x, out=x);")), 6);
        Check.due("pin(0) behind fault 6", x.pin(0), -1);
        Check.due("chips again", Check.chips(x, NOT), 0);
        Check.due("place()", x.place(), -1);
    }
}
