import java.nio.charset.StandardCharsets;

/** What the tests share: texts that are fed, and the count of answers that are not as due. */
final class Check {
    private static int asked;
    private static int wrong;

    private Check() {
    }

    static void due(String call, long got, long want) {
        asked++;
        if (got != want) {
            wrong++;
            System.out.println(call + " answered " + got + ", due is " + want);
        }
    }

    static void due(String call, boolean got, boolean want) {
        due(call, got ? 1 : 0, want ? 1 : 0);
    }

    static void due(String call, String got, String want) {
        asked++;
        if (!got.equals(want)) {
            wrong++;
            System.out.println(call + " answered \"" + got + "\", due is \"" + want + "\"");
        }
    }

    /** Ends the test, with exit code 1 if an answer was wrong. */
    static void finish() {
        System.out.println(asked + " answers, " + wrong + " not as due");
        if (wrong != 0) {
            System.exit(1);
        }
    }

    static int length(String text) {
        return text.getBytes(StandardCharsets.ISO_8859_1).length;
    }

    /** Feeds the bytes of a text, filled up with zeros to a multiple of 20. */
    static void feed(TowerComputer x, String text) {
        byte[] bytes = text.getBytes(StandardCharsets.ISO_8859_1);
        for (int i = 0; i < bytes.length; i += 20) {
            int[] five = new int[5];
            for (int k = 0; k < 20; k++) {
                int b = i + k < bytes.length ? bytes[i + k] & 255 : 0;
                five[k / 4] = five[k / 4] << 8 | b;
            }
            due("feed at " + i, x.feed(five[0], five[1], five[2], five[3], five[4]), true);
        }
    }

    static int load(TowerComputer x, String text) {
        feed(x, text);
        return x.load(length(text));
    }

    static int signs(TowerComputer x, String text) {
        feed(x, text);
        return x.signs(length(text));
    }

    static int chips(TowerComputer x, String text) {
        feed(x, text);
        return x.chips(length(text));
    }

    static boolean keys(TowerComputer x, String text) {
        feed(x, text);
        return x.keys(length(text));
    }

    static String shortened(String text) {
        return text.length() <= 160 ? text : text.substring(0, 70) + " .. " + text.substring(text.length() - 80);
    }

    static TowerComputer program(String text) {
        TowerComputer x = new TowerComputer();
        due("load of " + shortened(text), load(x, text), 0);
        return x;
    }

    static String inMain(String body) {
        return "class Main { function void main() { " + body + " } }";
    }

    static TowerComputer mainProgram(String body) {
        return program(inMain(body));
    }

    /** All bytes that wait to be taken. */
    static String output(TowerComputer x) {
        StringBuilder all = new StringBuilder();
        for (int i = 0; i < 500; i++) {
            long packed = x.fetch();
            int n = (int) (packed >>> 56);
            for (int k = 0; k < n; k++) {
                all.append((char) (packed >>> 48 - 8 * k & 255));
            }
            if (n == 0) {
                break;
            }
        }
        return all.toString();
    }

    /** The sign ^ stands in none of the texts: it marks where the fault is due. */
    private static String unmarked(String text) {
        return text.replace("^", "");
    }

    static void loadFault(int number, String marked) {
        TowerComputer x = new TowerComputer();
        due("load of " + shortened(marked), load(x, unmarked(marked)), number);
        due("place() in " + shortened(marked), x.place(), marked.indexOf('^'));
        due("count(7) behind " + shortened(marked), x.count(7), number == 0 ? 1 : 0);
        due("run(9) behind " + shortened(marked), number != 0 && x.run(9) != -1, false);
        due("command(0, 0) behind " + shortened(marked), number != 0 && x.command(0, 0) != -1, false);
    }

    static void loadsWell(String text) {
        loadFault(0, text);
    }

    /** As loadFault(), for texts in which ^ may stand for itself; place is -1 without a fault. */
    static void loadAt(int number, int place, String text) {
        TowerComputer x = new TowerComputer();
        due("load of " + shortened(text), load(x, text), number);
        due("place() in " + shortened(text), x.place(), place);
    }

    static void chipsAt(int number, int place, String text) {
        TowerComputer x = new TowerComputer();
        due("chips of " + shortened(text), chips(x, text), number);
        due("place() in " + shortened(text), x.place(), place);
    }

    static void signsAt(int number, int place, String text) {
        TowerComputer x = new TowerComputer();
        due("signs of " + shortened(text), signs(x, text), number);
        due("place() in " + shortened(text), x.place(), place);
    }

    static void signsFault(int number, String marked) {
        TowerComputer x = new TowerComputer();
        due("signs of " + shortened(marked), signs(x, unmarked(marked)), number);
        due("place() in " + shortened(marked), x.place(), marked.indexOf('^'));
    }

    static void chipsFault(int number, String marked) {
        TowerComputer x = new TowerComputer();
        due("chips of " + shortened(marked), chips(x, unmarked(marked)), number);
        due("place() in " + shortened(marked), x.place(), marked.indexOf('^'));
        due("tick() behind " + shortened(marked), number != 0 && x.tick() != -1, false);
    }

    static boolean isLetter(int b) {
        return b >= 'A' && b <= 'Z' || b >= 'a' && b <= 'z';
    }

    static boolean isDigit(int b) {
        return b >= '0' && b <= '9';
    }

    /** n times a text, in which # is the number of the time. */
    static String times(int n, String text) {
        StringBuilder all = new StringBuilder();
        for (int i = 0; i < n; i++) {
            all.append(text.replace("#", Integer.toString(i)));
        }
        return all.toString();
    }

    /** As times(), with commas between. */
    static String listed(int n, String text) {
        StringBuilder all = new StringBuilder();
        for (int i = 0; i < n; i++) {
            all.append(i == 0 ? "" : ",").append(text.replace("#", Integer.toString(i)));
        }
        return all.toString();
    }
}
