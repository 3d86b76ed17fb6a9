/** The boundaries under 'THE LANGUAGE': for each sentence a test at it, one below it and one beyond it. */
public final class LanguageEdgesTest {
    private static final String MAIN = Check.inMain("");
    private static final String[] KEYWORDS = {"class", "constructor", "function", "method", "field", "static", "var", "int", "char",
        "boolean", "void", "true", "false", "null", "this", "let", "do", "if", "else", "while", "return"};
    /** Where a text tells a name, which is @ here. */
    private static final String[] TOLD = {"class @ { } " + MAIN, "class A { static int @; } " + MAIN,
        "class A { field int a, @; } " + MAIN, "class A { function int @() { } } " + MAIN,
        "class A { method int f(int a, int @) { } } " + MAIN, "class A { function int f() { var int @; } } " + MAIN};
    /** All of the grammar, with a blank between each two tokens. */
    private static final String WHOLE = "class A { static int a , b ; static A s ; field char c ; field boolean d , e ; "
        + "constructor A new ( int p , boolean q ) { var A x , y ; var int z ; let x = p + q - 1 * 2 / 3 & 4 | 5 < 6 > 7 = 8 ; "
        + "let x [ z ] = - ~ ( z [ 1 ] ) ; if ( true ) { return this ; } else { do f ( ) ; } if ( x ) { } while ( z ) { do x . f ( ) ; "
        + "do A . g ( \"s\" , null , false ) ; } return ; } method void f ( ) { } function String g ( A u , char v , Array w ) "
        + "{ return A . g ( u , v , A . new ( 1 , 2 ) ) + Math . abs ( 5 ) ; } } class B { } "
        + "class Main { function void main ( ) { do Sys . halt ( ) ; } }";

    public static void main(String[] args) {
        lengthOfWords();
        namesThatAreNearlyAlike();
        firstByteOfAWord();
        otherBytesOfAWord();
        numbers();
        whatIsBehindANumber();
        lengthOfStrings();
        bytesOfStrings();
        stringsWithoutAnEnd();
        bytesBetweenTokens();
        lineComments();
        blockComments();
        keywords();
        cutTexts();
        tokensThatDoNotGoOn();
        theEnd();
        roomOfTokens();
        the1001stToken();
        roomOfClasses();
        roomOfSubs();
        roomOfStatics();
        roomOfFields();
        roomOfParameters();
        roomOfVars();
        openSignsOfOneKind();
        openSignsOfAnyKind();
        closedSignsAreNotOpen();
        roomOfStrings();
        syntaxAndRoom();
        toldTwice();
        mayBeToldAgain();
        namesThatAreNone();
        wrongCalls();
        withoutThis();
        withoutMain();
        orderOfFaults();
        whichVariableIsMeant();
        Check.finish();
    }

    private static String word(int n) {
        return "abcdefghijklmnopqrstuvwxyzabcdefghijklmnopqrstuvwxyz".substring(0, n);
    }

    /** Words have at most 16 bytes; one that is none is fault 1 at its first byte. */
    private static void lengthOfWords() {
        for (String text : TOLD) {
            for (int n : new int[] {7, 8, 9, 15, 16}) {
                Check.loadsWell(text.replace("@", word(n)));
                Check.loadsWell(text.replace("@", "_" + word(n - 2) + "9"));
            }
            for (int n : new int[] {17, 18, 32, 33}) {
                Check.loadFault(1, text.replace("@", "^" + word(n)));
                Check.loadFault(1, text.replace("@", "^_" + word(n - 2) + "9"));
            }
        }
        Check.loadFault(1, "^" + word(17));
        Check.loadFault(1, "class Main { ^constructorconstructor");
    }

    private static void namesThatAreNearlyAlike() {
        for (int i = 0; i < 16; i++) {
            String other = word(i) + "Z" + word(16).substring(i + 1);
            Check.loadsWell(Check.inMain("var int " + word(16) + ", " + other + ";"));
            Check.loadFault(3, Check.inMain("var int " + other + ", ^" + other + ";"));
        }
        Check.loadsWell(Check.inMain("var int a, A, aa, a_, _a, a0, a00;"));
        Check.loadsWell(Check.inMain("var int abcdefgh, abcdefghi, abcdefg;"));
    }

    /** A word begins with a letter or _. */
    private static void firstByteOfAWord() {
        String head = "class A { static int ";
        for (int b = 0; b < 256; b++) {
            boolean fine = Check.isLetter(b) || b == '_' || isBlank(b);
            Check.loadAt(fine ? 0 : 1, fine ? -1 : head.length(), head + (char) b + "x; } " + MAIN);
        }
    }

    private static boolean isBlank(int b) {
        return b == 9 || b == 10 || b == 13 || b == 32;
    }

    /** Behind its first byte a word has letters, digits, _. */
    private static void otherBytesOfAWord() {
        String head = "class A { static int a";
        for (int b = 0; b < 256; b++) {
            boolean fine = Check.isLetter(b) || Check.isDigit(b) || b == '_' || b == ',';
            boolean ended = isBlank(b) || b == ';';
            int place = fine ? -1 : ended ? head.length() + 1 : head.length();
            Check.loadAt(fine ? 0 : 1, place, head + (char) b + "x; } " + MAIN);
        }
    }

    /** Numbers have 1 .. 5 digits, and go up to 32767. */
    private static void numbers() {
        String[] fine = {"0", "9", "10", "00000", "00009", "32766", "32767", "09999", "29999"};
        for (String number : fine) {
            Check.loadsWell(Check.inMain("return " + number + ";"));
            TowerComputer x = Check.mainProgram("return " + number + ";");
            Check.due("constant of " + number, x.command(1, 2), Integer.parseInt(number));
        }
        for (String number : new String[] {"32768", "32769", "32770", "33000", "40000", "65535", "65536", "99999", "000000", "000001",
            "032767", "100000", "327670", "4294967296", "4294967297"}) {
            Check.loadFault(1, Check.inMain("return ^" + number + ";"));
        }
    }

    /** No letter, digit or _ stands behind a number. */
    private static void whatIsBehindANumber() {
        String head = "class Main { function void main() { return 1";
        for (int b = 0; b < 256; b++) {
            boolean fine = Check.isDigit(b) || "+-*/&|<>=".indexOf(b) >= 0;
            int place = head.length();
            if (Check.isLetter(b) || b == '_') {
                place--;
            } else if (isBlank(b) || b == ';') {
                place++;
            }
            Check.loadAt(fine ? 0 : 1, fine ? -1 : place, head + (char) b + "1; } }");
        }
    }

    private static String printed(String string) {
        return Check.inMain("do Output.printString(" + string + ");");
    }

    /** Strings have up to 60 bytes. */
    private static void lengthOfStrings() {
        for (int n : new int[] {0, 1, 59, 60}) {
            String s = Check.times(n, "s");
            Check.loadsWell(printed("\"" + s + "\""));
            Check.due("string of " + n, Runs.runOf(printed("\"" + s + "\"")), s);
        }
        for (int n : new int[] {61, 62, 120, 300, 301}) {
            Check.loadFault(1, printed("^\"" + Check.times(n, "s") + "\""));
        }
    }

    /** Bytes of strings are 32 .. 126 but ", and a byte 128 .. 255 is fault 1 in a string, too. */
    private static void bytesOfStrings() {
        String head = "class Main { function void main() { do Output.printString(";
        for (int b = 0; b < 256; b++) {
            String text = head + "\"a" + (char) b + "c\"); } }";
            if (b == '"') {
                Check.loadAt(1, head.length() + 3, text);
            } else if (b >= 32 && b <= 126) {
                Check.loadAt(0, -1, text);
                Check.due("string with byte " + b, Runs.runOf(text), "a" + (char) b + "c");
            } else {
                Check.loadAt(1, head.length(), text);
            }
        }
    }

    /** A string without an end is fault 1 at its first byte. */
    private static void stringsWithoutAnEnd() {
        Check.loadFault(1, "class Main { function void main() { return ^\"");
        Check.loadFault(1, "class Main { function void main() { return ^\"abc");
        Check.loadFault(1, "class Main { function void main() { return ^\"" + Check.times(60, "s"));
        Check.loadFault(1, "class Main { function void main() { return ^\"abc\n\"; } }");
        Check.loadFault(1, MAIN + "^\"");
        Check.loadFault(1, MAIN + " ^\"\"");
        // The text's end, and not the tape's, is the end: a string that is closed behind it is not closed.
        TowerComputer x = new TowerComputer();
        String text = printed("\"ab\"");
        Check.feed(x, text);
        Check.due("load up to within the string", x.load(text.indexOf("b\"") + 1), 1);
        Check.due("place()", x.place(), text.indexOf('"'));
    }

    /** Blanks are 9, 10, 13, 32, and no other byte stands between tokens. */
    private static void bytesBetweenTokens() {
        String head = "class Main { function void main() { return; ";
        for (int b = 0; b < 256; b++) {
            boolean fine = isBlank(b);
            int place = b == '}' ? head.length() + 2 : head.length();
            Check.loadAt(fine ? 0 : 1, fine ? -1 : place, head + (char) b + " return; } }");
        }
        Check.loadsWell("\t\n\r " + MAIN.replace(" ", "\r\n\t ") + "\t\n\r ");
        for (int b = 128; b < 256; b++) {
            Check.loadAt(1, 0, (char) b + MAIN);
            Check.loadAt(1, MAIN.length(), MAIN + (char) b);
        }
    }

    /** Comments go from // up to 10 or the end. */
    private static void lineComments() {
        Check.loadsWell("//\n" + MAIN + "//");
        Check.loadsWell("// class \" /* \n" + MAIN + "// */ \"");
        Check.loadsWell("///\n//\n//\n" + MAIN + "/////");
        Check.loadFault(7, "// " + MAIN + "^");
        Check.loadFault(7, "//\r" + MAIN + "^");
        Check.loadFault(1, "class Main { function void main() { // } }^");
        Check.loadFault(1, "^/\n/ " + MAIN);
        Check.loadFault(1, MAIN + "^/");
        Check.loadFault(1, MAIN + "^/ /");
        StringBuilder all = new StringBuilder("// ");
        for (int b = 0; b < 256; b++) {
            all.append(b == 10 ? "" : Character.toString((char) b));
        }
        Check.loadAt(0, -1, all + "\n" + MAIN + all);
        Check.due("// within a string", Runs.runOf(printed("\"a//b\"")), "a//b");
        TowerComputer x = Check.mainProgram("return 1 // + 2\n+ 3;");
        Check.due("1 ahead of the comment", x.command(1, 2), 1);
        Check.due("3 behind the comment", x.command(2, 2), 3);
    }

    /** Comments go from / and * to the next * and /; one that is not closed is fault 1 at its first byte. */
    private static void blockComments() {
        for (String comment : new String[] {"/**/", "/***/", "/* * / */", "/*/*/", "/*/ /*/", "/****/", "/*\n//\n*/", "/* \" */", "//*\n"}) {
            Check.loadsWell(comment + MAIN + comment);
            Check.loadsWell(comment + comment + MAIN.replace(" ", comment) + comment);
        }
        for (String comment : new String[] {"/*", "/*/", "/**", "/* *", "/* * /", "/* /", "/*\n", "/* //", "/*/*"}) {
            Check.loadFault(1, MAIN + "^" + comment);
            Check.loadFault(1, MAIN + "/* */ // \n/**/ ^" + comment);
            Check.loadFault(1, "class Main { ^" + comment);
            Check.loadFault(1, "^" + comment);
        }
        Check.loadFault(1, "/* /* */ ^*/ " + MAIN);
        StringBuilder all = new StringBuilder("/*");
        for (int b = 0; b < 256; b++) {
            all.append((char) b);
        }
        Check.loadAt(0, -1, all + "*/" + MAIN + all + "*/");
        Check.loadFault(1, Check.inMain("return 1/**/^2;"));
        Check.loadFault(1, "^cl/**/ass Main { }");
        Check.due("/* within a string", Runs.runOf(printed("\"a/*b*/\"")), "a/*b*/");
        // Closed behind the text's end is not closed.
        TowerComputer x = new TowerComputer();
        Check.feed(x, MAIN + "/* */");
        Check.due("load up to the *", x.load(MAIN.length() + 4), 1);
        Check.due("place()", x.place(), MAIN.length());
        Check.feed(x, MAIN + "/* */");
        Check.due("load up to the /", x.load(MAIN.length() + 5), 0);
    }

    /** Keywords are no names; all other words are. */
    private static void keywords() {
        for (String keyword : KEYWORDS) {
            for (String text : TOLD) {
                Check.loadFault(1, text.replace("@", "^" + keyword));
                Check.loadsWell(text.replace("@", keyword.toUpperCase()));
                Check.loadsWell(text.replace("@", keyword + "_"));
                Check.loadsWell(text.replace("@", "z" + keyword));
                Check.loadsWell(text.replace("@", keyword.substring(1) + "9"));
            }
        }
    }

    /** At the end of a text that is not whole the end is what no text goes on with. */
    private static void cutTexts() {
        String[] tokens = WHOLE.split(" ");
        StringBuilder head = new StringBuilder();
        int open = 0;
        for (String token : tokens) {
            boolean whole = open == 0 && (head.length() == 0 || head.charAt(head.length() - 1) == '}');
            Check.loadAt(whole ? 7 : 1, head.length(), head.toString());
            Check.loadAt(whole ? 7 : 1, head.length() + 2, head + "  ");
            head.append(head.length() == 0 ? "" : " ").append(token);
            open += token.equals("{") ? 1 : token.equals("}") ? -1 : 0;
        }
        Check.loadAt(0, -1, head.toString());
    }

    /** A token with which no text goes on is fault 1, at it, whatever stands behind it. */
    private static void tokensThatDoNotGoOn() {
        String[] tokens = WHOLE.split(" ");
        for (int k = 0; k <= tokens.length; k++) {
            String head = String.join(" ", java.util.Arrays.copyOfRange(tokens, 0, k)) + " ";
            String tail = " " + String.join(" ", java.util.Arrays.copyOfRange(tokens, k, tokens.length));
            Check.loadAt(1, head.length(), head + "$" + tail);
            Check.loadAt(1, head.length(), head + "\"" + tail.replace("\"", ""));
            if (k > 0 && k < tokens.length && !tokens[k].equals("class")) {
                Check.loadAt(1, head.length(), head + "class" + tail);
            }
        }
    }

    private static void theEnd() {
        Check.loadAt(7, 0, "");
        Check.loadAt(7, 1, " ");
        Check.loadAt(7, 3, "// ");
        Check.loadAt(1, 5, "class");
        Check.loadAt(1, 6, "class ");
        Check.loadAt(1, MAIN.length() - 1, MAIN.substring(0, MAIN.length() - 1));
    }

    /** A text of so many tokens, 11 at least and not 12. */
    private static String ofTokens(int n) {
        int more = n - 11;
        String odd = more % 2 == 1 ? "return 1;" : "";
        return Check.inMain(Check.times((more - (odd.isEmpty() ? 0 : 3)) / 2, "return;") + odd);
    }

    /** There is room for 1000 tokens. */
    private static void roomOfTokens() {
        Check.loadsWell(ofTokens(999));
        Check.loadsWell(ofTokens(1000));
        Check.loadFault(2, ofTokens(1001).replaceAll("}$", "^}"));
        Check.loadFault(2, ofTokens(1002).replaceAll("} }$", "^} }"));
        Check.loadFault(2, ofTokens(1003).replaceAll("; } }$", "^; } }"));
    }

    /** The 1001st token is fault 2, whatever it is; one that is none is fault 1, and the end is none. */
    private static void the1001stToken() {
        String full = ofTokens(1000);
        for (String token : new String[] {"class", "x", "5", "\"s\"", ";", "}", "{", "(", "-", "true", "32767", "_", word(16)}) {
            Check.loadFault(2, full + " ^" + token);
            Check.loadFault(2, full + " // x\n ^" + token + " $");
        }
        for (String none : new String[] {"$", "\u0000", "\u0080", "\u00FF", "\"", "\"s", "/*", "32768", "123456", "1a", word(17)}) {
            Check.loadFault(1, full + " ^" + none);
        }
        for (String blank : new String[] {" ", "\n\t\r", "// class", "/* class */", "/**/ //"}) {
            Check.loadsWell(full + blank);
        }
        // One that is none is no 1000th token either, and a fault ahead of it comes first.
        Check.loadFault(1, ofTokens(999) + " ^$ class");
        Check.loadFault(1, ofTokens(999) + " ^; class");
        Check.loadFault(1, ofTokens(1000).replaceAll("} }$", "} ^; }"));
        Check.loadFault(2, ofTokens(1001).replaceAll("} }$", "} ^; }"));
        Check.loadFault(1, ofTokens(1001).replaceAll("}$", "^"));
        Check.loadFault(2, ofTokens(1001).replace("class Main", "class Math").replaceAll("}$", "^}"));
    }

    /** There is room for 12 classes; the 13th is fault 2 at its name. */
    private static void roomOfClasses() {
        Check.loadsWell(Check.times(10, "class C# { } ") + MAIN);
        Check.loadsWell(Check.times(11, "class C# { } ") + MAIN);
        Check.loadFault(2, Check.times(12, "class C# { } ") + MAIN.replace("Main", "^Main"));
        Check.loadFault(2, MAIN + Check.times(11, "class C# { } ") + "class ^C0");
        Check.loadFault(2, MAIN + Check.times(11, "class C# { } ") + "class ^Math");
        Check.loadFault(1, MAIN + Check.times(11, "class C# { } ") + "class ^{");
        Check.loadFault(1, MAIN + Check.times(11, "class C# { } ") + "class^");
        Check.loadFault(1, MAIN + Check.times(11, "class C# { } ") + "^C12");
    }

    /** There is room for 60 subs of the text; the 61st is fault 2 at its name. */
    private static void roomOfSubs() {
        String sub = "function int f#() { } ";
        String main = "class Main { function void main() { } ";
        Check.loadsWell(main + Check.times(58, sub) + "}");
        Check.loadsWell(main + Check.times(59, sub) + "}");
        Check.loadFault(2, main + Check.times(59, sub) + "function int ^g() { } }");
        Check.loadFault(2, main + Check.times(59, sub) + "method void ^main");
        Check.loadFault(1, main + Check.times(59, sub) + "method void ^(");
        Check.loadFault(1, main + Check.times(59, sub) + "method ^static");
        Check.loadsWell(main + Check.times(29, "method int f#() { } ") + "} class A { " + Check.times(30, "constructor A f#() { } ") + "}");
        Check.loadFault(2, main + Check.times(29, "method int f#() { } ") + "} class A { " + Check.times(30, "constructor A f#() { } ")
            + "} class B { method int ^f() { } }");
    }

    /** There is room for 12 statics of the text; the 13th is fault 2 at its name. */
    private static void roomOfStatics() {
        for (String with : new String[] {"", "class S { static int s; } ", "class S { static int s; static char t, u; } "}) {
            int others = with.isEmpty() ? 0 : with.contains("t, u") ? 3 : 1;
            Check.loadsWell(with + "class A { static int " + Check.listed(11 - others, "a#") + "; } " + MAIN);
            Check.loadsWell(with + "class A { static int " + Check.listed(12 - others, "a#") + "; } " + MAIN);
            Check.loadFault(2, with + "class A { static int " + Check.listed(12 - others, "a#") + ",^b; } " + MAIN);
            Check.loadFault(2, with + "class A { static int " + Check.listed(12 - others, "a#") + "; field int f; static A ^a0; } " + MAIN);
            Check.loadFault(1, with + "class A { static int " + Check.listed(12 - others, "a#") + ",^; } " + MAIN);
        }
        Check.loadsWell(Check.times(11, "class C# { static int s; } ") + "class Main { static int s; function void main() { } }");
        Check.loadFault(2, Check.times(11, "class C# { static int s; } ") + "class Main { static int s, ^t;");
    }

    /** There is room for 12 fields of each class; the 13th is fault 2 at its name. */
    private static void roomOfFields() {
        Check.loadsWell("class A { field int " + Check.listed(11, "a#") + "; } " + MAIN);
        Check.loadsWell("class A { field int " + Check.listed(12, "a#") + "; } " + MAIN);
        Check.loadFault(2, "class A { field int " + Check.listed(12, "a#") + ",^b; } " + MAIN);
        Check.loadFault(2, "class A { " + Check.times(12, "field int a#; ") + "static int b; field int ^a0; } " + MAIN);
        Check.loadsWell(Check.times(3, "class C# { field int a,b,c,d,e,f,g,h,i,j,k,l; } ") + MAIN);
        Check.loadFault(2, Check.times(3, "class C# { field int a,b,c,d,e,f,g,h,i,j,k,l; } ")
            + "class A { field int a,b,c,d,e,f,g,h,i,j,k,l,^m; } " + MAIN);
        Check.loadsWell("class A { field int " + Check.listed(12, "a#") + "; static int " + Check.listed(12, "s#") + "; } " + MAIN);
    }

    /** There is room for 12 parameters of each sub; the 13th is fault 2 at its name. */
    private static void roomOfParameters() {
        for (String kind : new String[] {"constructor", "function", "method"}) {
            String head = "class A { " + kind + " int f(";
            Check.loadsWell(head + Check.listed(11, "int a#") + ") { } } " + MAIN);
            Check.loadsWell(head + Check.listed(12, "int a#") + ") { } } " + MAIN);
            Check.loadFault(2, head + Check.listed(12, "int a#") + ",int ^b) { } } " + MAIN);
            Check.loadFault(2, head + Check.listed(12, "int a#") + ",B ^a0) { } } " + MAIN);
            Check.loadFault(1, head + Check.listed(12, "int a#") + ",int ^) { } } " + MAIN);
            Check.loadsWell(head + Check.listed(12, "int a#") + ") { } function int g(" + Check.listed(12, "int a#") + ") { } } " + MAIN);
        }
    }

    /** There is room for 12 vars of each sub; the 13th is fault 2 at its name. */
    private static void roomOfVars() {
        String head = "class A { function int f(" + Check.listed(12, "int p#") + ") { var int ";
        Check.loadsWell(head + Check.listed(11, "a#") + "; } } " + MAIN);
        Check.loadsWell(head + Check.listed(12, "a#") + "; } } " + MAIN);
        Check.loadFault(2, head + Check.listed(12, "a#") + ",^b; } } " + MAIN);
        Check.loadFault(2, head + Check.listed(12, "a#") + "; var B ^a0; } } " + MAIN);
        Check.loadFault(1, head + Check.listed(12, "a#") + "; var int ^; } } " + MAIN);
        Check.loadsWell(head + Check.listed(12, "a#") + "; } method int g() { var int " + Check.listed(12, "a#") + "; } } " + MAIN);
    }

    /** Up to 25 signs may be open at once; of these the class's and the sub's { are two. */
    private static void openSignsOfOneKind() {
        String[][] kinds = {{"(", "1", ")"}, {"-", "1", ""}, {"~", "1", ""}, {"x[", "1", "]"}, {"Math.abs(", "1", ")"},
            {"Math.max(1,", "1", ")"}};
        for (String[] kind : kinds) {
            String opens = kind[0].substring(kind[0].length() - 1);
            String last = kind[0].endsWith(",") ? "Math.max^(1," : kind[0].replace(opens, "^" + opens);
            for (String statement : new String[] {"return @;", "let x = @;", "let x[0] = @;", "return 1 + @;"}) {
                for (int n = 22; n <= 23; n++) {
                    Check.loadsWell(Check.inMain("var int x; " + statement.replace("@", Check.times(n, kind[0]) + kind[1]
                        + Check.times(n, kind[2]))));
                }
                Check.loadFault(2, Check.inMain("var int x; " + statement.replace("@", Check.times(23, kind[0]) + last + kind[1]
                    + Check.times(24, kind[2]))));
            }
            for (String statement : new String[] {"if (@) { }", "while (@) { }", "let x[@] = 1;", "do Math.abs(@);"}) {
                for (int n = 21; n <= 22; n++) {
                    Check.loadsWell(Check.inMain("var int x; " + statement.replace("@", Check.times(n, kind[0]) + kind[1]
                        + Check.times(n, kind[2]))));
                }
                Check.loadFault(2, Check.inMain("var int x; " + statement.replace("@", Check.times(22, kind[0]) + last + kind[1]
                    + Check.times(23, kind[2]))));
            }
        }
    }

    /** With 24 open each kind of sign may be opened, with 25 none. */
    private static void openSignsOfAnyKind() {
        String[] statements = {"if ^(1) { }", "while ^(1) { }", "let x^[1] = 1;", "do Math.abs^(1);", "do Sys.halt^();", "return ^(1);",
            "return ^-1;", "return ^~1;", "return x^[1];", "return Math.abs^(1);", "let x = ^-x;", "return 1 + ^-1;", "return 1 - ^-1;"};
        for (String outer : new String[] {"if (1) { ", "while (1) { ", "if (1) { } else { "}) {
            for (String statement : statements) {
                Check.loadsWell(Check.inMain("var int x; " + Check.times(22, outer) + statement.replace("^", "") + Check.times(22, " }")));
                Check.loadFault(2, Check.inMain("var int x; " + Check.times(23, outer) + statement + Check.times(23, " }")));
            }
            for (String fine : new String[] {"return;", "return 1 - 1;", "let x = x;", "return this;"}) {
                String text = Check.inMain("var int x; " + Check.times(23, outer) + fine + Check.times(23, " }"));
                Check.loadsWell(text.replace("function void main() { var int x;", "function void main() { } method int f() { var int x;"));
            }
        }
        Check.loadFault(1, Check.inMain(Check.times(23, "if (1) { ") + "let ^( = 1;"));
        Check.loadFault(1, Check.inMain(Check.times(23, "if (1) { ") + "^{"));
    }

    /** What is closed is open no more, and the ( of parameters never was. */
    private static void closedSignsAreNotOpen() {
        Check.loadsWell(Check.inMain("var int x; " + Check.times(26, "if (1) { } else { } ") + Check.times(26, "let x[x[0]] = -(x); ")));
        Check.loadsWell(Check.inMain("return -1" + Check.times(100, " - -1") + Check.times(100, " + ~(1)") + ";"));
        Check.loadsWell(Check.times(10, "class C# { function int f(int a) { } function int g(int a) { } } ") + Check.inMain(
            Check.times(23, "while (1) { ") + Check.times(23, "} ") + Check.times(23, "if (1) { ") + Check.times(23, "} ")));
    }

    /** All strings have up to 300 bytes; one that brings more is fault 2. */
    private static void roomOfStrings() {
        String four = Check.times(4, "return \"" + Check.times(60, "s") + "\"; ");
        String with59 = four + "return \"" + Check.times(59, "t") + "\"; ";
        String with60 = four + "return \"" + Check.times(60, "t") + "\"; ";
        Check.loadsWell(Check.inMain(with59));
        Check.loadsWell(Check.inMain(with60));
        Check.loadsWell(Check.inMain(with59 + "return \"u\";"));
        Check.loadFault(2, Check.inMain(with59 + "return ^\"uu\";"));
        Check.loadFault(2, Check.inMain(with60 + "return ^\"u\";"));
        Check.loadsWell(Check.inMain(with60 + Check.times(20, "return \"\"; ")));
        Check.loadFault(2, Check.inMain(with59 + "return \"u\"; return \"\"; return ^\"v\";"));
        Check.loadFault(2, "class A { function int f() { " + with60 + "} } " + Check.inMain("return ^\"u\";"));
        Check.loadsWell(Check.inMain(Check.times(150, "return \"ab\"; ")));
        Check.loadFault(2, Check.inMain(Check.times(150, "return \"ab\"; ") + "return ^\"c\";"));
    }

    /** The first one from the left of faults 1 and 2, ahead of all others. */
    private static void syntaxAndRoom() {
        String full = Check.times(12, "class C# { } ");
        Check.loadFault(2, full + "class ^D { $");
        Check.loadFault(1, "class C ^$ " + full + "class D { }");
        Check.loadFault(1, "class Math { } class Math { static B b, b; } ^;");
        Check.loadFault(2, "class Math { static B b; } " + Check.times(11, "class C# { } ") + "class ^D { }");
        Check.loadFault(1, Check.inMain("return " + Check.times(23, "(") + "1 ^(1);"));
        Check.loadFault(1, "class Main { function void main() { let x = y; do z() ^} }");
    }

    /** TWICE: at the second one, of each kind. */
    private static void toldTwice() {
        for (String name : new String[] {"Math", "Memory", "Array", "String", "Output", "Keyboard", "Screen", "Sys"}) {
            Check.loadFault(3, MAIN + "class ^" + name + " { }");
            Check.loadFault(3, "class ^" + name + " { } " + MAIN);
            Check.loadsWell(MAIN + "class " + name + "s { } class " + name.toLowerCase() + " { }");
        }
        Check.loadFault(3, MAIN + "class ^Main { }");
        Check.loadFault(3, "class A { } class B { } " + MAIN + "class ^A { } class B { }");
        Check.loadFault(3, "class A { function int f() { } function int g() { } method int ^f() { } } " + MAIN);
        Check.loadFault(3, "class A { constructor A f() { } function int ^f(int a) { } } " + MAIN);
        Check.loadFault(3, "class A { static int a, b, ^a; } " + MAIN);
        Check.loadFault(3, "class A { field int a, b, ^a; } " + MAIN);
        Check.loadFault(3, "class A { field int a; static int ^a; } " + MAIN);
        Check.loadFault(3, "class A { static int a; field int ^a; } " + MAIN);
        Check.loadFault(3, "class A { method int f(int a, int b, char ^a) { } } " + MAIN);
        Check.loadFault(3, "class A { method int f(int a) { var int ^a; } } " + MAIN);
        Check.loadFault(3, "class A { method int f() { var int a, b, ^a; } } " + MAIN);
        Check.loadFault(3, "class A { method int f() { var int a; var A b; var boolean ^b; } } " + MAIN);
    }

    /** The same names in other classes, in other subs, or of other kinds are not told twice. */
    private static void mayBeToldAgain() {
        Check.loadsWell("class A { static int a; field int b; function int f(int a, int b) { } method int g(int a) { var int b; } } "
            + "class B { static int b; field int a; function int f(int a, int b) { } method int g(int a) { var int b; } } " + MAIN);
        Check.loadsWell("class A { static int A, f, abs; field int Math; function int f(int A, int f) { var int abs, Math; } } " + MAIN);
        Check.loadsWell("class abs { function int abs(int abs) { var int Main; } } " + MAIN);
        Check.loadsWell("class A { function int main() { } } class B { function int main() { } } " + MAIN);
    }

    /** NAME: at the name, of each kind; and what is a name at the same place. */
    private static void namesThatAreNone() {
        String[] types = {"class A { static @ b; } " + MAIN, "class A { field @ b; } " + MAIN, "class A { function @ f() { } } " + MAIN,
            "class A { method int f(int a, @ b) { } } " + MAIN, Check.inMain("var int a; var @ b;")};
        for (String text : types) {
            Check.loadFault(4, text.replace("@", "^B"));
            Check.loadFault(4, text.replace("@", "^main"));
            Check.loadFault(4, text.replace("@", "^abs"));
            Check.loadsWell(text.replace("@", "Main"));
            Check.loadsWell(text.replace("@", "Math"));
            Check.loadsWell(text.replace("@", "Sys"));
        }
        String[] uses = {"let @ = 1;", "let @[0] = 1;", "return @;", "return @[0];", "return 1 + @;", "return -@;", "if (@) { }",
            "while (@) { }", "do Math.abs(@);", "let a = @;", "let a[@] = 1;", "return (@);"};
        for (String use : uses) {
            Check.loadFault(4, Check.inMain("var int a; " + use.replace("@", "^b")));
            Check.loadFault(4, Check.inMain("var int a; " + use.replace("@", "^Main")));
            Check.loadFault(4, Check.inMain("var int a; " + use.replace("@", "^main")));
            Check.loadFault(4, "class A { static int b; function int f(int b) { var int c; } } "
                + Check.inMain("var int a; " + use.replace("@", "^b")));
            Check.loadsWell(Check.inMain("var int a; " + use.replace("@", "a")));
        }
        Check.loadFault(4, Check.inMain("do ^A.f();"));
        Check.loadFault(4, Check.inMain("do ^main.main();"));
        Check.loadFault(4, Check.inMain("do Main.^f();"));
        Check.loadFault(4, Check.inMain("do Main.^Main();"));
        Check.loadFault(4, Check.inMain("do Math.^printInt(1);"));
        Check.loadFault(4, Check.inMain("do Output.^abs(1);"));
        Check.loadFault(4, "class A { function int f() { } } " + Check.inMain("do Main.^f();"));
        for (String type : new String[] {"int", "char", "boolean"}) {
            Check.loadFault(4, Check.inMain("var " + type + " a; do a.^length();"));
        }
        Check.loadFault(4, Check.inMain("var Array a; do a.^length();"));
        Check.loadFault(4, "class A { static A a; method int f() { do a.^g(); } } " + MAIN);
        Check.loadFault(4, "class A { method int f() { do ^g(); } } class B { method int g() { } } " + MAIN);
    }

    private static String arguments(int n) {
        return Check.listed(n, "#");
    }

    /** CALL: at the last name; one parameter less, as many, and one more. */
    private static void wrongCalls() {
        for (int n : new int[] {0, 1, 2, 11, 12}) {
            String subs = "class A { function int f(" + Check.listed(n, "int a#") + ") { } method int m(" + Check.listed(n, "int a#")
                + ") { do m(" + arguments(n) + "); } constructor A c(" + Check.listed(n, "int a#") + ") { } } ";
            for (int k = Math.max(0, n - 1); k <= n + 1; k++) {
                String mark = k == n ? "" : "^";
                Check.loadFault(k == n ? 0 : 5, subs + Check.inMain("do A." + mark + "f(" + arguments(k) + ");"));
                Check.loadFault(k == n ? 0 : 5, subs + Check.inMain("do A." + mark + "c(" + arguments(k) + ");"));
                Check.loadFault(k == n ? 0 : 5, subs + Check.inMain("var A a; do a." + mark + "m(" + arguments(k) + ");"));
                Check.loadFault(k == n ? 0 : 5, subs.replace("do m(" + arguments(n), "do " + mark + "m(" + arguments(k)) + MAIN);
            }
            Check.loadFault(5, subs + Check.inMain("do A.^m(" + arguments(n) + ");"));
            Check.loadFault(5, subs + Check.inMain("var A a; do a.^f(" + arguments(n) + ");"));
            Check.loadFault(5, subs + Check.inMain("var A a; do a.^c(" + arguments(n) + ");"));
            Check.loadFault(5, subs.replace("do m(", "do ^f(") + MAIN);
            Check.loadFault(5, subs.replace("do m(", "do ^c(") + MAIN);
        }
        systemCalls();
    }

    /** Each sub of the system, with how many e it takes, and whether it is a method. */
    private static void systemCalls() {
        String[] subs = {"Math.abs 1", "Math.min 2", "Math.max 2", "Math.multiply 2", "Math.divide 2", "Math.sqrt 1", "Memory.peek 1",
            "Memory.poke 2", "Memory.alloc 1", "Memory.deAlloc 1", "Array.new 1", "Array.dispose 0 m", "String.new 1",
            "String.length 0 m", "String.charAt 1 m", "String.setCharAt 2 m", "String.appendChar 1 m", "String.eraseLastChar 0 m",
            "String.intValue 0 m", "String.setInt 1 m", "String.dispose 0 m", "String.newLine 0", "String.doubleQuote 0",
            "String.backSpace 0", "Output.printChar 1", "Output.printString 1", "Output.printInt 1", "Output.println 0",
            "Keyboard.keyPressed 0", "Keyboard.readChar 0", "Keyboard.readLine 1", "Screen.clearScreen 0", "Screen.setColor 1",
            "Screen.drawPixel 2", "Screen.drawLine 4", "Screen.drawRectangle 4", "Screen.drawCircle 3", "Sys.halt 0", "Sys.error 1",
            "Sys.wait 1"};
        for (String sub : subs) {
            String[] parts = sub.split("[. ]");
            int n = Integer.parseInt(parts[2]);
            boolean method = parts.length > 3;
            String head = "var " + parts[0] + " o; do ";
            for (int k = 0; k <= 5; k++) {
                boolean fine = k == n;
                String call = (fine ? "" : "^") + parts[1] + "(" + arguments(k) + ");";
                Check.loadFault(fine ? 0 : 5, Check.inMain(head + (method ? "o." : parts[0] + ".") + call));
            }
            Check.loadFault(5, Check.inMain(head + (method ? parts[0] + "." : "o.") + "^" + parts[1] + "(" + arguments(n) + ");"));
        }
    }

    /** THIS: a field's name, this, or name(..) in a function; not so in a method or a constructor. */
    private static void withoutThis() {
        String[] uses = {"return @x;", "let @x = 1;", "let @x[0] = 1;", "return @x[0];", "return @this;", "do @m();", "return 1 + @m();",
            "do @y.m();", "return -(@x);", "return s[@x];", "let s = @this;", "let s[@x] = 1;", "if (@x) { }", "while (@m()) { }"};
        for (String use : uses) {
            String text = "class A { static int s; field int x; field A y; KIND int f() { " + use + " } method int m() { } } " + MAIN;
            Check.loadFault(6, text.replace("KIND", "function").replace("@", "^"));
            Check.loadsWell(text.replace("KIND", "method").replace("@", ""));
            Check.loadsWell(text.replace("KIND", "constructor").replace("@", ""));
        }
        Check.loadsWell("class A { static int s; field int x; function int f(int x) { var A a; do a.m(); return x + s; }"
            + " method int m() { } } " + MAIN);
    }

    /** MAIN: a function main without parameters in a class Main, else fault 7 at the text's length. */
    private static void withoutMain() {
        Check.loadsWell("class Main { function void main() { } }");
        Check.loadsWell("class Main { function Main main() { } }");
        Check.loadsWell("class Main { method int f() { } function int main() { } }");
        for (String text : new String[] {"class Main { }", "class Main { function void main(int a) { } }",
            "class Main { method void main() { } }", "class Main { constructor Main main() { } }", "class Mai { function void main() { } }",
            "class main { function void main() { } }", "class Main { function void mai() { } }", "class Main { function void Main() { } }",
            "class Main { } class A { function void main() { } }", "class A { function void main() { } } class Main { }"}) {
            Check.loadFault(7, text + "^");
            Check.loadFault(7, text + " \n // x ^");
        }
    }

    /** The first one from the left; at one place the one with the least number. */
    private static void orderOfFaults() {
        // Names that are told later in the text are known.
        Check.loadsWell(Check.inMain("do A.f(); do B.new();") + "class A { function B f() { } } class B { constructor B new() { } }");
        Check.loadFault(4, "class A { function int f() { do ^g(); } } " + MAIN);
        Check.loadFault(5, "class A { function int f() { do ^g(); } function int g() { } } " + MAIN);
        Check.loadFault(5, "class A { function int f() { do ^g(); } method int g(int a) { } } " + MAIN);
        Check.loadFault(6, "class A { function int f() { do ^g(); } method int g() { } } " + MAIN);
        String[] faults = {"class ^Sys { } ", "class @ { static ^Nope a; } ", "class @ { function int f() { do Math.^abs(); } } ",
            "class @ { function int f() { return ^this; } } "};
        int[] numbers = {3, 4, 5, 6};
        for (int i = 0; i < faults.length; i++) {
            for (int j = 0; j < faults.length; j++) {
                String second = faults[j].replace("^", "").replace("Sys", "Array").replace("@", "B");
                Check.loadFault(numbers[i], faults[i].replace("@", "A") + second);
                Check.loadFault(numbers[i], MAIN + faults[i].replace("@", "A") + second);
            }
        }
        // A call's last name stands ahead of its e.
        Check.loadFault(5, Check.inMain("do Math.^abs(a, b);"));
        Check.loadFault(4, Check.inMain("do Math.^nope(a);"));
        Check.loadFault(4, Check.inMain("do Math.abs(^a);"));
        Check.loadFault(6, "class A { field A a; function int f() { do ^a.nope(); } } " + MAIN);
    }

    /** A name is a variable of its sub, else a field, else a static of its class; of what is told twice the first one. */
    private static void whichVariableIsMeant() {
        Check.loadFault(6, "class A { field int x; static int y; function int f() { return y + ^x; } } " + MAIN);
        Check.loadsWell("class A { field int x; function int f() { var int x; return x; } } " + MAIN);
        Check.loadFault(4, "class A { field int x; method int f() { var String x; do x.length(); } method int g() { do x.^length(); } } "
            + MAIN);
        Check.loadFault(4, "class A { static int x; method int f(String x) { do x.length(); } method int g() { do x.^length(); } } " + MAIN);
        // A variable's name ahead of a class's.
        Check.loadFault(4, Check.inMain("var int Math; do Math.^abs(1);"));
        Check.loadFault(5, Check.inMain("var String Array; do Array.^new(1);"));
        Check.loadFault(4, "class A { field int Output; method int f() { do Output.^println(); } } " + MAIN);
        Check.loadFault(6, "class A { field int Output; function int f() { do ^Output.println(); } } " + MAIN);
        Check.loadFault(4, "class A { static int Output; function int f() { do Output.^println(); } } " + MAIN);
        // Others mean the first one of those told twice, and the system's ahead of the text's.
        Check.loadFault(4, Check.inMain("do A.f(); do A.^g();") + "class A { function int f() { } } class A { function int g() { } }");
        Check.loadFault(5, Check.inMain("do A.^f();") + "class A { method int f() { } function int f() { } }");
        Check.loadFault(4, Check.inMain("do Sys.halt(); do Sys.^f();") + "class Sys { function int f() { } }");
        Check.loadFault(3, Check.inMain("do A.f();") + "class A { function int f() { } } class ^A { function int g() { } }");
        Check.loadFault(3, "class A { function int f(String s, int ^s) { do s.length(); } } " + MAIN);
    }
}
