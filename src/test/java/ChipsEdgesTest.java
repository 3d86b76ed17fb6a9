/** The boundaries under 'CHIPS' and of promises 19 to 23: a test at each, one below it and one beyond it. */
public final class ChipsEdgesTest {
    private static final String[] KEYWORDS = {"CHIP", "IN", "OUT", "PARTS", "true", "false"};
    /** Where a text tells a name, which is @ here. */
    private static final String[] TOLD = {"CHIP @ { IN a; OUT o; PARTS: }", "CHIP B { IN a, @; OUT o; PARTS: }",
        "CHIP B { IN a; OUT @; PARTS: }", "CHIP B { IN a; OUT o; PARTS: Nand(out=@); }"};
    /** All of the grammar, with a blank between each two tokens. */
    private static final String WHOLE = "CHIP A { IN a , b [ 4 ] ; OUT o [ 2 ] , p ; PARTS : Nand ( a = a , b = b [ 0 ] , out = x ) ; "
        + "Dff ( in = x , out = o [ 1 .. 1 ] ) ; Nand ( a [ 0 ] = true , b [ 0 .. 0 ] = false , out = p ) ; } "
        + "CHIP B { IN a ; OUT o ; PARTS : } CHIP C { IN v [ 16 ] ; OUT w ; PARTS : A ( b [ 1 .. 2 ] = v [ 3 .. 4 ] , p = w ) ; }";
    private static final String WIDE = "CHIP W { IN p[4], r; OUT q[4], s; PARTS: } ";

    public static void main(String[] args) {
        lengthOfWords();
        firstByteOfAWord();
        otherBytesOfAWord();
        numbers();
        whatIsBehindANumber();
        bytesBetweenTokens();
        dots();
        comments();
        keywords();
        cutTexts();
        tokensThatDoNotGoOn();
        oneChipAtLeast();
        roomOfTokens();
        roomOfChips();
        roomOfPins();
        roomOfParts();
        roomOfInnerNames();
        mostLinks();
        syntaxAndRoom();
        chipsToldTwice();
        pinsToldTwice();
        bitsLinkedTwice();
        outsLinkedTwice();
        namesThatAreNone();
        wrongSides();
        namesThatNoPartLinks();
        widthsOfPins();
        endsOfRanges();
        rangesOfInnerNames();
        sidesOfUnlikeWidths();
        faultsOfOnePlace();
        whatIsNotLookedAt();
        Check.finish();
    }

    private static String chip(String parts) {
        return "CHIP B { IN a, v[4]; OUT o, w[4]; PARTS: " + parts + " }";
    }

    private static void well(String parts) {
        Check.chipsFault(0, WIDE + chip(parts));
    }

    private static void fault(int number, String parts) {
        Check.chipsFault(number, WIDE + chip(parts));
    }

    private static String word(int n) {
        return "abcdefghijklmnopqrstuvwxyzabcdefghijklmnopqrstuvwxyz".substring(0, n);
    }

    /** Words have at most 16 bytes. */
    private static void lengthOfWords() {
        for (String text : TOLD) {
            for (int n : new int[] {7, 8, 9, 15, 16}) {
                Check.chipsFault(0, text.replace("@", word(n)));
                Check.chipsFault(0, text.replace("@", word(n - 1) + "_"));
            }
            for (int n : new int[] {17, 18, 32, 33}) {
                Check.chipsFault(1, text.replace("@", "^" + word(n)));
            }
        }
        for (int i = 0; i < 16; i++) {
            String other = word(i) + "Z" + word(16).substring(i + 1);
            Check.chipsFault(0, "CHIP B { IN " + word(16) + ", " + other + "; OUT o; PARTS: }");
            Check.chipsFault(3, "CHIP B { IN " + other + ", ^" + other + "; OUT o; PARTS: }");
        }
    }

    private static boolean isBlank(int b) {
        return b == 9 || b == 10 || b == 13 || b == 32;
    }

    /** A word begins with a letter, and not with _ here. */
    private static void firstByteOfAWord() {
        String head = "CHIP B { IN a, ";
        for (int b = 0; b < 256; b++) {
            boolean fine = Check.isLetter(b) || isBlank(b);
            Check.chipsAt(fine ? 0 : 1, fine ? -1 : head.length(), head + (char) b + "x; OUT o; PARTS: }");
        }
    }

    private static void otherBytesOfAWord() {
        String head = "CHIP B { IN a";
        for (int b = 0; b < 256; b++) {
            boolean fine = Check.isLetter(b) || Check.isDigit(b) || b == '_' || b == ',';
            boolean ended = isBlank(b) || b == ';' || b == '[';
            Check.chipsAt(fine ? 0 : 1, fine ? -1 : ended ? head.length() + 1 : head.length(), head + (char) b + "x; OUT o; PARTS: }");
        }
    }

    /** Numbers have 1 or 2 digits. */
    private static void numbers() {
        for (String number : new String[] {"1", "9", "01", "09", "10", "16"}) {
            Check.chipsFault(0, "CHIP B { IN a[" + number + "]; OUT o; PARTS: }");
        }
        for (String number : new String[] {"0", "00", "17", "99"}) {
            Check.chipsFault(5, "CHIP B { IN a[^" + number + "]; OUT o; PARTS: }");
        }
        for (String number : new String[] {"001", "010", "100", "0001", "1234567890"}) {
            Check.chipsFault(1, "CHIP B { IN a[^" + number + "]; OUT o; PARTS: }");
        }
    }

    /** No letter, digit or _ stands behind a number. */
    private static void whatIsBehindANumber() {
        String head = "CHIP B { IN a[1";
        for (int b = 0; b < 256; b++) {
            boolean fine = isBlank(b) || b >= '0' && b <= '6';
            int place = head.length();
            int number = 1;
            if (Check.isLetter(b) || b == '_') {
                place--;
            } else if (b >= '7' && b <= '9') {
                place--;
                number = 5;
            } else if (b == ']') {
                place++;
            }
            Check.chipsAt(fine ? 0 : number, fine ? -1 : place, head + (char) b + "]; OUT o; PARTS: }");
        }
    }

    private static void bytesBetweenTokens() {
        String head = "CHIP B { IN a; ";
        for (int b = 0; b < 256; b++) {
            boolean fine = isBlank(b);
            Check.chipsAt(fine ? 0 : 1, fine ? -1 : head.length(), head + (char) b + " OUT o; PARTS: }");
            boolean name = Check.isLetter(b);
            String parts = "CHIP B { IN a; OUT o; PARTS: ";
            int place = name || b == '}' ? parts.length() + 2 : parts.length();
            Check.chipsAt(fine ? 0 : 1, fine ? -1 : place, parts + (char) b + " }");
        }
        Check.chipsFault(0, "\t\n\r CHIP\tB\n{\rIN a;OUT o;PARTS:}\t\n\r ");
    }

    /** The sign .. is one token: a point alone begins none, and a third one neither. */
    private static void dots() {
        well("W(p[0..1]=v[2..3]);");
        well("W(p[0 .. 1]=v[2 ..3]);");
        fault(1, "W(p[0^.1]=v[2..3]);");
        fault(1, "W(p[0^. .1]=v[2..3]);");
        fault(1, "W(p[0..^.1]=v[2..3]);");
        fault(1, "W(p[0..^..1]=v[2..3]);");
        fault(1, "W(p[^..1]=v[2..3]);");
        fault(1, "W(p[0..^]=v[2..3]);");
        fault(1, "W(p[0..1^..2]=v);");
        Check.chipsFault(1, "CHIP B { IN a[1^..2]; OUT o; PARTS: }");
        Check.chipsFault(1, "^.");
        Check.chipsFault(1, "^..");
    }

    /** Comments as in the language; one that is not closed is fault 1 at its first byte. */
    private static void comments() {
        String text = "CHIP B { IN a; OUT o; PARTS: }";
        for (String comment : new String[] {"/**/", "/***/", "/* * / */", "/*/*/", "/*\n//\n*/", "//\n", "// \u00FF \" /*\n", "/*\u0000*/"}) {
            Check.chipsFault(0, comment + text.replace(" ", comment) + comment);
        }
        Check.chipsFault(0, text + "//");
        Check.chipsFault(0, text + "// CHIP");
        for (String comment : new String[] {"/*", "/*/", "/**", "/* * /", "/* //\n"}) {
            Check.chipsFault(1, text + "^" + comment);
            Check.chipsFault(1, "CHIP B { ^" + comment);
        }
        Check.chipsFault(1, text + "^/");
        Check.chipsFault(1, "// " + text + "^");
        Check.chipsFault(1, "//\r" + text + "^");
    }

    private static void keywords() {
        for (String keyword : KEYWORDS) {
            for (int i = 0; i < TOLD.length; i++) {
                boolean constant = i == 3 && (keyword.equals("true") || keyword.equals("false"));
                Check.chipsFault(constant ? 4 : 1, TOLD[i].replace("@", "^" + keyword));
                Check.chipsFault(0, TOLD[i].replace("@", keyword + "S"));
                Check.chipsFault(0, TOLD[i].replace("@", "x" + keyword));
                Check.chipsFault(0, TOLD[i].replace("@", keyword.toLowerCase().replace("true", "True").replace("false", "False")));
            }
        }
    }

    /** At the end of a text that is not whole the end is what no text goes on with. */
    private static void cutTexts() {
        String[] tokens = WHOLE.split(" ");
        StringBuilder head = new StringBuilder();
        int open = 0;
        for (String token : tokens) {
            boolean whole = open == 0 && head.length() > 0 && head.charAt(head.length() - 1) == '}';
            Check.chipsAt(whole ? 0 : 1, whole ? -1 : head.length(), head.toString());
            Check.chipsAt(whole ? 0 : 1, whole ? -1 : head.length() + 2, head + " \n");
            head.append(head.length() == 0 ? "" : " ").append(token);
            open += token.equals("{") ? 1 : token.equals("}") ? -1 : 0;
        }
        Check.chipsAt(0, -1, head.toString());
    }

    private static void tokensThatDoNotGoOn() {
        String[] tokens = WHOLE.split(" ");
        for (int k = 0; k <= tokens.length; k++) {
            String head = String.join(" ", java.util.Arrays.copyOfRange(tokens, 0, k)) + " ";
            String tail = " " + String.join(" ", java.util.Arrays.copyOfRange(tokens, k, tokens.length));
            Check.chipsAt(1, head.length(), head + "$" + tail);
            if (k == tokens.length || !tokens[k].equals("OUT")) {
                Check.chipsAt(1, head.length(), head + "OUT" + tail);
            }
            if (k > 0 && k < tokens.length && !tokens[k].equals("CHIP")) {
                Check.chipsAt(1, head.length(), head + "CHIP" + tail);
            }
        }
    }

    /** A text is one chip at least. */
    private static void oneChipAtLeast() {
        Check.chipsFault(1, "^");
        Check.chipsFault(1, " \n^");
        Check.chipsFault(1, "// x^");
        Check.chipsFault(0, "CHIP B { IN a; OUT o; PARTS: }");
        Check.chipsFault(0, "CHIP B { IN a; OUT o; PARTS: } CHIP C { IN a; OUT o; PARTS: }");
    }

    /** 16 tokens of the chip and the part, 3 of its first link, 4 of each other; 2, 3 or 5 more of a pin or a range. */
    private static String ofTokens(int n) {
        int more = n - 19;
        int rest = more % 4;
        String range = rest == 3 ? "[0]" : "";
        String pins = rest == 2 ? ",b" : rest == 1 ? ",b[1]" : "";
        int links = (more - (rest == 1 ? 5 : rest)) / 4;
        return "CHIP B{IN a" + pins + ";OUT o;PARTS:X(x" + range + "=a" + Check.times(links, ",x=a") + ");}";
    }

    /** There is room for 2000 tokens; the part is no chip, so that a whole text is fault 4 at its name. */
    private static void roomOfTokens() {
        for (int n : new int[] {1998, 1999, 2000}) {
            Check.chipsFault(4, ofTokens(n).replace(":X", ":^X"));
            Check.chipsFault(4, ofTokens(n).replace(":X", ":^X") + " // CHIP");
        }
        Check.chipsFault(2, ofTokens(2001).replace(";}", ";^}"));
        Check.chipsFault(2, ofTokens(2002).replace(";}", "^;}"));
        Check.chipsFault(2, ofTokens(2003).replace(");}", "^);}"));
        for (String token : new String[] {"CHIP", "x", "5", "}", "..", "true", ";"}) {
            Check.chipsFault(2, ofTokens(2000) + " ^" + token);
        }
        for (String none : new String[] {"$", ".", "_", "\u0080", "100", "1a", "/*", word(17)}) {
            Check.chipsFault(1, ofTokens(2000) + " ^" + none);
        }
        Check.chipsFault(1, ofTokens(1999) + "^;");
        Check.chipsFault(1, ofTokens(1999) + "^; CHIP");
        Check.chipsFault(1, ofTokens(2001).replace(";}", ";^"));
    }

    /** There is room for 16 chips; the 17th is fault 2 at its name. */
    private static void roomOfChips() {
        String one = "CHIP C# { IN a; OUT o; PARTS: } ";
        for (int n : new int[] {1, 15, 16}) {
            TowerComputer x = new TowerComputer();
            Check.due("chips of " + n, Check.chips(x, Check.times(n, one)), 0);
            Check.due("gates(4)", x.gates(4), n);
        }
        Check.chipsFault(2, Check.times(16, one) + "CHIP ^D { IN a; OUT o; PARTS: }");
        Check.chipsFault(2, Check.times(16, one) + "CHIP ^C0");
        Check.chipsFault(2, Check.times(16, one) + "CHIP ^Nand");
        Check.chipsFault(1, Check.times(16, one) + "CHIP ^{");
        Check.chipsFault(1, Check.times(16, one) + "CHIP^");
        Check.chipsFault(1, Check.times(16, one) + "^D");
    }

    /** There is room for 12 pins of a chip, IN and OUT together; the 13th is fault 2 at its name. */
    private static void roomOfPins() {
        for (int in = 1; in <= 11; in++) {
            String ins = Check.listed(in, "a#");
            Check.chipsFault(0, "CHIP B { IN " + ins + "; OUT " + Check.listed(Math.max(1, 11 - in), "o#") + "; PARTS: }");
            TowerComputer x = new TowerComputer();
            Check.due("chips", Check.chips(x, "CHIP B { IN " + ins + "; OUT " + Check.listed(12 - in, "o#") + "; PARTS: }"), 0);
            Check.due("gates(2)", x.gates(2), in);
            Check.due("gates(3)", x.gates(3), 12 - in);
            Check.chipsFault(2, "CHIP B { IN " + ins + "; OUT " + Check.listed(12 - in, "o#") + ", ^p; PARTS: }");
            Check.chipsFault(2, "CHIP B { IN " + ins + "; OUT " + Check.listed(12 - in, "o#") + ", ^o0[16]; PARTS: }");
        }
        Check.chipsFault(2, "CHIP B { IN " + Check.listed(12, "a#") + "; OUT ^o; PARTS: }");
        Check.chipsFault(2, "CHIP B { IN " + Check.listed(12, "a#") + ", ^b; OUT o; PARTS: }");
        Check.chipsFault(1, "CHIP B { IN " + Check.listed(12, "a#") + ", ^; OUT o; PARTS: }");
        Check.chipsFault(0, Check.times(16, "CHIP C# { IN a,b,c,d,e,f; OUT g,h,i,j,k,l; PARTS: } "));
    }

    /** There is room for 24 parts of a chip; the 25th is fault 2 at its name. */
    private static void roomOfParts() {
        String part = "Nand(a=a);";
        for (int n : new int[] {0, 1, 23, 24}) {
            TowerComputer x = new TowerComputer();
            Check.due("chips", Check.chips(x, chip(Check.times(n, part))), 0);
            Check.due("gates(0) of " + n + " parts", x.gates(0), n);
        }
        fault(2, Check.times(24, part) + "^" + part);
        fault(2, Check.times(24, part) + "^Nope");
        fault(1, Check.times(24, part) + "^true");
        fault(1, Check.times(24, part) + "^(");
        Check.chipsFault(0, Check.times(5, "CHIP C# { IN a; OUT o; PARTS: " + Check.times(24, part) + " } "));
    }

    /** There is room for 100 inner names of a chip: any names on right sides that are no pins of it. */
    private static void roomOfInnerNames() {
        well("Nand(" + Check.listed(99, "out=i#") + ");");
        well("Nand(" + Check.listed(100, "out=i#") + ");");
        well("Nand(" + Check.listed(100, "out=i#") + ", a=a, out=o, out=w[0]); Nand(a=i99, b=i5);");
        fault(2, "Nand(" + Check.listed(100, "out=i#") + ", out=^x);");
        fault(2, "Nand(" + Check.listed(100, "out=i#") + ", a=^x);");
        fault(2, "Nand(" + Check.listed(100, "out=i#") + "); Nope(y=i0, y=^x[3]);");
        fault(2, "Nope(" + Check.listed(100, "y=i#") + ", y=^x);");
        fault(4, "^Nope(" + Check.listed(100, "y=i#") + ", y=i99, y=a, y=w, y=false);");
        // A pin of another chip is a name like others; and each chip has room of its own.
        fault(2, "Nand(" + Check.listed(99, "out=i#") + ", out=p, out=^q);");
        Check.chipsFault(0, "CHIP A { IN a; OUT o; PARTS: Nand(" + Check.listed(100, "out=i#") + "); } CHIP B { IN a; OUT o; PARTS: Nand("
            + Check.listed(100, "out=i#") + "); }");
    }

    /** As many links as 2000 tokens hold, nearly: the last one is looked at like the first one. */
    private static void mostLinks() {
        String eleven = Check.listed(11, "p#=a");
        String text = "CHIP W { IN " + Check.listed(11, "p#") + "; OUT o; PARTS: } " + "CHIP A { IN a; OUT o; PARTS: "
            + Check.times(24, "W(" + eleven + ");") + " } CHIP B { IN a; OUT o; PARTS: " + Check.times(16, "W(" + eleven + ");") + "W("
            + Check.listed(10, "p#=a") + ",@); }";
        text = text.replace("; OUT", ";OUT").replace(" { ", "{").replace(": ", ":").replace(" } ", "}");
        Check.chipsFault(0, text.replace("@", "p10=a"));
        Check.chipsFault(4, text.replace("@", "p10=^x"));
        Check.chipsFault(4, text.replace("@", "^q=a"));
        Check.chipsFault(3, text.replace("@", "^p9=a"));
        Check.chipsFault(5, text.replace("@", "p10^[1]=a"));
    }

    /** Faults 1 and 2 come ahead of all others. */
    private static void syntaxAndRoom() {
        Check.chipsFault(1, "CHIP Nand { IN a, a[0]; OUT o; PARTS: Nope(x=y); Nand(a=nope); ^) }");
        Check.chipsFault(2, "CHIP Nand { IN a, a[0]; OUT o; PARTS: " + Check.times(24, "Nope(x=y);") + "^Nope(x=y); $ }");
        Check.chipsFault(1, "CHIP Nand { IN a, a[0]; OUT o; PARTS: ^$ " + Check.times(25, "Nope(x=y);") + " }");
    }

    /** TWICE: a chip's name that is told, or a gate's. */
    private static void chipsToldTwice() {
        String body = " { IN a; OUT o; PARTS: } ";
        Check.chipsFault(3, "CHIP ^Nand" + body);
        Check.chipsFault(3, "CHIP A" + body + "CHIP ^Dff" + body);
        Check.chipsFault(3, "CHIP A" + body + "CHIP B" + body + "CHIP ^A" + body + "CHIP B" + body);
        Check.chipsFault(0, "CHIP A" + body + "CHIP a" + body + "CHIP nand" + body + "CHIP NAND" + body + "CHIP Nand2" + body);
    }

    /** TWICE: a pin's name in one chip. */
    private static void pinsToldTwice() {
        Check.chipsFault(3, "CHIP B { IN a, b, ^a; OUT o; PARTS: }");
        Check.chipsFault(3, "CHIP B { IN a; OUT o, p, ^o; PARTS: }");
        Check.chipsFault(3, "CHIP B { IN a; OUT o, ^a; PARTS: }");
        Check.chipsFault(3, "CHIP B { IN a[2]; OUT o, ^a[0]; PARTS: }");
        Check.chipsFault(0, "CHIP B { IN a, b; OUT o, p; PARTS: } CHIP C { IN o, p; OUT a, b; PARTS: }");
        Check.chipsFault(0, "CHIP B { IN B, Nand; OUT out, in; PARTS: Nand(a=B, b=Nand, out=out); }");
    }

    /** TWICE: on a left side a bit of an IN pin that the same part has linked. */
    private static void bitsLinkedTwice() {
        well("W(p[0]=a, p[1]=a, p[2]=a, p[3]=a, r=a);");
        well("W(p[0..1]=v[0..1], p[2..3]=v[0..1]);");
        fault(3, "W(p[0..1]=v[0..1], ^p[1..2]=v[0..1]);");
        fault(3, "W(p[2..3]=v[0..1], ^p[1..2]=v[0..1]);");
        fault(3, "W(p[1..2]=v[0..1], ^p=v);");
        fault(3, "W(p=v, ^p[0]=a);");
        fault(3, "W(p=v, ^p[3]=a);");
        fault(3, "W(p=v, ^p=v);");
        fault(3, "W(p=true, ^p=false);");
        fault(3, "W(r=a, ^r=a);");
        fault(3, "W(r=a, ^r[0]=a);");
        fault(3, "Nand(a=a, b=a, ^b=a);");
        fault(3, "Dff(in=a, ^in=a);");
        well("W(p=v, r=a); W(p=v, r=a);");
        // OUT pins of a part may be linked as often as one likes.
        well("W(q=x, q=y, q[0]=z, q[0..3]=u, s=t, s=k);");
    }

    /** TWICE: on the right side an OUT pin one of whose bits told there is linked, or an inner name that is. */
    private static void outsLinkedTwice() {
        well("W(q[0]=w[0], q[1]=w[1], q[2]=w[2], q[3]=w[3], s=o);");
        well("W(q[0..1]=w[0..1]); W(q[0..1]=w[2..3]);");
        fault(3, "W(q[0..1]=w[0..1]); W(q[0..1]=^w[1..2]);");
        fault(3, "W(q[0..1]=w[2..3]); W(q[0..1]=^w[1..2]);");
        fault(3, "W(q=w, q=^w);");
        fault(3, "W(q=w); W(s=^w[0]);");
        fault(3, "W(q=w); W(s=^w[3]);");
        fault(3, "W(s=w[2]); W(q=^w);");
        fault(3, "W(s=o, s=^o);");
        fault(3, "W(s=o); Nand(out=^o);");
        fault(3, "W(s=x, s=^x);");
        fault(3, "W(s=x); W(s=^x);");
        fault(3, "W(q=x); W(q[0..1]=^x);");
        well("W(s=x); W(r=x); W(r=x, p[0]=x, p[1]=x);");
    }

    /** NAME: a part's name that is no chip; a left side's that is no pin of it. */
    private static void namesThatAreNone() {
        fault(4, "^X(a=a);");
        fault(4, "^w(a=a);");
        fault(4, "^nand(a=a);");
        fault(4, "^NAND(a=a);");
        well("Nand(a=a); Dff(in=a); W(p=v);");
        Check.chipsFault(0, chip("C(a=a);") + " CHIP C { IN a; OUT o; PARTS: } CHIP D { IN a; OUT o; PARTS: B(a=a); }");
        for (String pin : new String[] {"c", "A", "in", "o", "x", "Nand"}) {
            fault(4, "Nand(a=a, ^" + pin + "=a);");
            fault(4, "Nand(a=a, ^" + pin + "[9]=a);");
        }
        for (String pin : new String[] {"a", "b", "i"}) {
            fault(4, "Dff(^" + pin + "=a);");
        }
        fault(4, "W(^a=a);");
    }

    /** NAME: on the right side of an IN pin an OUT pin; of an OUT pin an IN pin, true, false. */
    private static void wrongSides() {
        for (String right : new String[] {"o", "w", "w[0]", "w[0..1]", "o[0]", "w[9]"}) {
            fault(4, "Nand(a=^" + right + ");");
        }
        for (String right : new String[] {"a", "v", "v[0]", "v[9]", "true", "false"}) {
            fault(4, "Nand(out=^" + right + ");");
        }
        for (String right : new String[] {"a", "v[0]", "v[3]", "true", "false"}) {
            well("Nand(a=" + right + ");");
        }
        for (String right : new String[] {"o", "w[0]", "w[3]", "x"}) {
            well("Nand(out=" + right + ");");
        }
        well("W(p=true, r=false); W(p=false, r=true); W(p[1..2]=true);");
    }

    /** NAME: a name that no part of the chip links from an OUT pin; it may be linked behind its use. */
    private static void namesThatNoPartLinks() {
        fault(4, "Nand(a=^x);");
        fault(4, "Nand(a=^x[0]);");
        well("Nand(a=x); Nand(out=x);");
        well("Nand(a=x, out=x2); Dff(in=x2, out=x);");
        fault(4, "Nand(a=^x); Nand(a=x);");
        fault(4, "Nand(a=^x); Nope(out=x);");
        fault(4, "Nand(a=^x); Nand(nope=x);");
        fault(4, "Nand(a=^x); Nand(out=o);");
        Check.chipsFault(4, "CHIP A { IN a; OUT o; PARTS: Nand(out=x); } CHIP B { IN a; OUT o; PARTS: Nand(a=^x); }");
        Check.chipsFault(4, "CHIP A { IN a; OUT o; PARTS: Nand(a=^x); } CHIP B { IN a; OUT o; PARTS: Nand(out=x); }");
    }

    /** WIDTH: a number of bits that is not 1 .. 16, at it. */
    private static void widthsOfPins() {
        for (int n = 0; n <= 99; n++) {
            boolean fine = n >= 1 && n <= 16;
            Check.chipsFault(fine ? 0 : 5, "CHIP B { IN a[" + (fine ? "" : "^") + n + "]; OUT o; PARTS: }");
            Check.chipsFault(fine ? 0 : 5, "CHIP B { IN a; OUT o[" + (fine ? "" : "^") + n + "]; PARTS: }");
        }
        for (int n = 1; n <= 16; n++) {
            String text = "CHIP B { IN a[" + n + "]; OUT o[" + n + "]; PARTS: Nand(a=a[#], b=true, out=o[" + (n - 1) + "]); }";
            Check.chipsFault(0, text.replace("#", Integer.toString(n - 1)));
            Check.chipsFault(5, text.replace("a[#]", "a^[" + n + "]"));
        }
        // Elsewhere a pin whose number of bits is faulty counts as 1 wide.
        for (String n : new String[] {"0", "17", "99"}) {
            Check.chipsFault(5, chip("C(p=a);") + " CHIP C { IN p[^" + n + "]; OUT q; PARTS: }");
            Check.chipsFault(5, chip("C(p=^v);") + " CHIP C { IN p[" + n + "]; OUT q; PARTS: }");
            Check.chipsFault(5, chip("C(p^[1]=a);") + " CHIP C { IN p[" + n + "]; OUT q; PARTS: }");
            Check.chipsFault(5, chip("C(p[0]=a);") + " CHIP C { IN p[^" + n + "]; OUT q; PARTS: }");
        }
    }

    /** WIDTH: a range beyond its pin, or whose second is below the first, at its [. */
    private static void endsOfRanges() {
        for (int i = 0; i <= 5; i++) {
            Check.chipsFault(i <= 3 ? 0 : 5, WIDE + chip("W(p" + (i <= 3 ? "" : "^") + "[" + i + "]=a);"));
            Check.chipsFault(i <= 3 ? 0 : 5, WIDE + chip("W(r=v" + (i <= 3 ? "" : "^") + "[" + i + "]);"));
            Check.chipsFault(i <= 3 ? 0 : 5, WIDE + chip("W(q" + (i <= 3 ? "" : "^") + "[" + i + "]=o);"));
            Check.chipsFault(i <= 3 ? 0 : 5, WIDE + chip("W(s=w" + (i <= 3 ? "" : "^") + "[" + i + "]);"));
            for (int j = 0; j <= 5; j++) {
                boolean fine = i <= j && j <= 3;
                String mark = fine ? "" : "^";
                String range = "[" + i + ".." + j + "]";
                Check.chipsFault(fine ? 0 : 5, WIDE + chip("W(p" + mark + range + "=true);"));
                Check.chipsFault(fine ? 0 : 5, WIDE + chip("W(q" + mark + range + "=x);"));
                String like = fine ? range : "[0]";
                Check.chipsFault(fine ? 0 : 5, WIDE + chip("W(p" + like + "=v" + mark + range + ");"));
                Check.chipsFault(fine ? 0 : 5, WIDE + chip("W(q" + like + "=w" + mark + range + ");"));
            }
        }
        well("Nand(a[0]=a, b[0..0]=a[0], out[0]=o[0..0]);");
        fault(5, "Nand(a^[1]=a);");
        fault(5, "Nand(a=a^[1]);");
        fault(5, "Nand(out^[0..1]=o);");
        fault(5, "W(p^[99]=a);");
        fault(5, "W(p^[99..0]=a);");
    }

    /** WIDTH: a range of an inner name, at its [, whatever it is. */
    private static void rangesOfInnerNames() {
        for (String range : new String[] {"[0]", "[0..0]", "[0..3]", "[1..0]", "[99]"}) {
            fault(5, "W(q=x^" + range + ");");
            fault(5, "W(q=x); W(p=x^" + range + ");");
            fault(5, "W(p=x^" + range + "); W(q=x);");
            fault(5, "Nand(a=y, b=x^" + range + "); Nand(out=x, out=y);");
        }
    }

    /** WIDTH: sides of unlike widths, at the right one. */
    private static void sidesOfUnlikeWidths() {
        for (int left = 1; left <= 4; left++) {
            for (int right = 1; right <= 4; right++) {
                boolean fine = left == right;
                String mark = fine ? "" : "^";
                String leftRange = "[0.." + (left - 1) + "]";
                String rightRange = "[0.." + (right - 1) + "]";
                Check.chipsFault(fine ? 0 : 5, WIDE + chip("W(p" + leftRange + "=" + mark + "v" + rightRange + ");"));
                Check.chipsFault(fine ? 0 : 5, WIDE + chip("W(q" + leftRange + "=" + mark + "w" + rightRange + ");"));
                Check.chipsFault(fine ? 0 : 5, WIDE + chip("W(q" + rightRange + "=x); W(p" + leftRange + "=" + mark + "x);"));
                Check.chipsFault(fine ? 0 : 5, WIDE + chip("W(p" + leftRange + "=" + mark + "x); W(q" + rightRange + "=x);"));
            }
        }
        fault(5, "W(p=^a);");
        fault(5, "W(r=^v);");
        fault(5, "W(q=^o);");
        fault(5, "W(s=^w);");
        well("W(p=v, r=a, q=w, s=o);");
    }

    /** The first fault from the left; of one place that with the least number. */
    private static void faultsOfOnePlace() {
        fault(3, "W(s=o); W(q=^o);");
        fault(3, "W(s=x); W(q=^x);");
        fault(3, "W(q=w, q[0..1]=^w);");
        fault(3, "W(r=a, ^r=v);");
        fault(3, "W(r=a, ^r=o);");
        fault(4, "W(p=^o);");
        fault(4, "W(p=^nope);");
        fault(5, "W(p^[4]=nope);");
        fault(4, "W(p=^nope[9]);");
        fault(5, "W(p=v^[9], p=a);");
        fault(5, "W(s=^w); Nope(x=y);");
        Check.chipsFault(4, "CHIP A { IN a; OUT o; PARTS: ^X(a=a); } CHIP A { IN a, a; OUT o[0]; PARTS: }");
        Check.chipsFault(3, "CHIP A { IN a, ^a[0]; OUT o; PARTS: }");
        Check.chipsFault(5, "CHIP A { IN a[^0], a; OUT o; PARTS: }");
        Check.chipsFault(4, "CHIP A { IN a; OUT o; PARTS: Nand(^x=y, a=a, a=a); }");
    }

    /** A link of a part that is no chip is not looked at; what is faulty is asked no further. */
    private static void whatIsNotLookedAt() {
        fault(4, "^Nope(a=a, a=a, a=o, a=nope, a[9]=v[9], out=a);");
        // Where a range is faulty neither whether its bits are linked nor its width is asked.
        for (String range : new String[] {"[4]", "[0..4]", "[1..0]", "[99]"}) {
            fault(5, "W(p=v, p^" + range + "=a);");
            fault(5, "W(p=v, p^" + range + "=nope);");
            fault(5, "W(q=w); W(s=w^" + range + ");");
            fault(5, "W(p=v^" + range + ", p=v);");
            fault(5, "W(p[0]=v^" + range + ");");
            fault(5, "W(p=x^" + range + "); W(s=x);");
            fault(3, "W(s=x); W(s=^x" + range + ");");
        }
        // Where the left range is faulty the width of an inner name is not asked.
        fault(5, "W(r=x); W(p=x); W(q^[9]=x);");
        fault(5, "W(q^[3..2]=x); W(p=x); W(r=x);");
        // An inner name that is linked twice has the width of the first link.
        fault(3, "W(p=x); W(q=x); W(s=^x);");
        fault(5, "W(r=^x); W(q=x); W(s=x);");
        // Names told twice: others mean the first one.
        Check.chipsFault(5, chip("C(p=^a);") + " CHIP C { IN p[2], p; OUT q; PARTS: }");
        Check.chipsFault(3, chip("C(p=a);") + " CHIP C { IN p, ^p[2]; OUT q; PARTS: }");
        Check.chipsFault(3, chip("C(p=a);") + " CHIP C { IN p; OUT ^p; PARTS: }");
        Check.chipsFault(4, chip("C(p=^o);") + " CHIP C { IN p; OUT p; PARTS: }");
        Check.chipsFault(4, chip("C(p=a); C(^r=a);") + " CHIP C { IN p; OUT q; PARTS: } CHIP C { IN r; OUT q; PARTS: }");
        Check.chipsFault(4, chip("Nand(a=a); Nand(^x=a);") + " CHIP Nand { IN x; OUT q; PARTS: }");
    }
}
