/** The boundaries of the screen under 'THE SYSTEM', with a second drawing that keeps to the document's words. */
public final class ScreenEdgesTest {
    private static final int[] COLUMNS = {-32768, -1, 0, 1, 15, 16, 31, 32, 47, 48, 62, 63, 64, 32767};
    private static final int[] ROWS = {-32768, -1, 0, 1, 15, 16, 30, 31, 32, 32767};

    public static void main(String[] args) {
        bitsOfPoints();
        colors();
        clearedScreen();
        endsOfLines();
        pointsOfLines();
        sidesOfRectangles();
        pointsOfRectangles();
        radii();
        placesOfCircles();
        pointsOfCircles();
        Check.finish();
    }

    private static boolean isPoint(int x, int y) {
        return x >= 0 && x <= 63 && y >= 0 && y <= 31;
    }

    private static String term(int v) {
        return ValueEdgesTest.term(v);
    }

    private static void shows(String call, TowerComputer x, long[] rows) {
        for (int y = 0; y < 32; y++) {
            Check.due("row(" + y + ") behind " + call, x.row(y), rows[y]);
        }
    }

    /** The call draws this, and with the color 0 takes it from a full screen. */
    private static void draws(String call, long[] rows) {
        TowerComputer x = Check.mainProgram("do Screen." + call + ";");
        Check.due("run of " + call, x.run(50), 0);
        shows(call, x, rows);
        TowerComputer y = Check.mainProgram("do Screen.drawRectangle(0, 0, 63, 31); do Screen.setColor(0); do Screen." + call + ";");
        Check.due("run of " + call, y.run(50), 0);
        long[] others = new long[32];
        for (int i = 0; i < 32; i++) {
            others[i] = ~rows[i];
        }
        shows(call + " with the color 0", y, others);
    }

    /** The call is this error, and draws nothing. */
    private static void refuses(int number, String call) {
        TowerComputer x = Runs.fails(number, Check.inMain("^do Screen." + call + ";"));
        shows(call, x, new long[32]);
    }

    /** Point x, y is bit x mod 16 of word 16384 + 4 y + x / 16; drawPixel: ERROR 7 if it is none. */
    private static void bitsOfPoints() {
        for (int x : COLUMNS) {
            for (int y : ROWS) {
                String call = "drawPixel(" + term(x) + ", " + term(y) + ")";
                if (!isPoint(x, y)) {
                    refuses(7, call);
                    continue;
                }
                TowerComputer t = Check.mainProgram("do Screen." + call + ";");
                Check.due("run of " + call, t.run(50), 0);
                for (int a = 16384; a <= 16511; a++) {
                    int want = a == 16384 + 4 * y + x / 16 ? (short) (1 << x % 16) : 0;
                    Check.due("word(" + a + ") behind " + call, t.word(a), want);
                }
                long[] rows = new long[32];
                rows[y] = 1L << x;
                draws(call, rows);
            }
        }
    }

    /** setColor(b): points are set (b not 0; at first) or cleared. */
    private static void colors() {
        for (int b : new int[] {-32768, -1, 1, 2, 256, 32767}) {
            TowerComputer x = Check.mainProgram("do Screen.setColor(0); do Screen.setColor(" + term(b) + "); do Screen.drawPixel(5, 6);");
            Check.due("run", x.run(50), 0);
            Check.due("row(6) with color " + b, x.row(6), 32);
        }
        TowerComputer y = Check.mainProgram("do Screen.drawPixel(5, 6); do Screen.drawPixel(6, 6); do Screen.setColor(0);"
            + " do Screen.drawPixel(5, 6); do Screen.drawPixel(7, 6);");
        for (int i = 0; i < 2; i++) {
            Check.due("run", y.run(50), 0);
            Check.due("row(6) with color 0", y.row(6), 64);
        }
    }

    /** clearScreen(): all words 0, and none of the heap; the color stays. */
    private static void clearedScreen() {
        TowerComputer x = Check.mainProgram("do Memory.poke(14335, 5); do Memory.poke(2048, 6); do Screen.drawRectangle(0, 0, 63, 31);"
            + " do Screen.clearScreen(); do Screen.drawPixel(0, 31);");
        Check.due("run", x.run(50), 0);
        for (int a = 16384; a <= 16511; a++) {
            Check.due("word(" + a + ") of a cleared screen", x.word(a), a == 16508 ? 1 : 0);
        }
        Check.due("word(14335)", x.word(14335), 5);
        Check.due("word(2048)", x.word(2048), 6);
        TowerComputer y = Check.mainProgram("do Screen.setColor(0); do Screen.clearScreen(); do Screen.drawPixel(0, 31);");
        y.run(50);
        Check.due("row(31) with color 0", y.row(31), 0);
    }

    /** drawLine: ERROR 8 if x, y or u, v is none. */
    private static void endsOfLines() {
        for (int x : COLUMNS) {
            for (int y : ROWS) {
                if (!isPoint(x, y)) {
                    refuses(8, "drawLine(" + term(x) + ", " + term(y) + ", 20, 10)");
                    refuses(8, "drawLine(20, 10, " + term(x) + ", " + term(y) + ")");
                }
            }
        }
        refuses(8, "drawLine(64, 32, 64, 32)");
    }

    /** The points of a line, as the document tells them. */
    private static long[] line(int x, int y, int u, int v) {
        long[] rows = new long[32];
        int dx = Math.abs(u - x);
        int dy = Math.abs(v - y);
        int a = 0;
        int b = 0;
        int d = dy == 0 ? -1 : 0;
        while (!(a > dx) && !(b > dy)) {
            rows[y + (v > y ? b : -b)] |= 1L << x + (u > x ? a : -a);
            if (d < 0) {
                a = a + 1;
                d = d + dy;
            } else {
                b = b + 1;
                d = d - dx;
            }
        }
        return rows;
    }

    private static void pointsOfLines() {
        int[][] ends = {{0, 0}, {63, 31}, {63, 0}, {0, 31}, {32, 16}, {31, 15}, {5, 5}, {6, 5}, {5, 6}, {20, 9}};
        for (int[] from : ends) {
            for (int[] to : ends) {
                draws("drawLine(" + from[0] + ", " + from[1] + ", " + to[0] + ", " + to[1] + ")", line(from[0], from[1], to[0], to[1]));
            }
        }
    }

    /** drawRectangle: ERROR 9 if x is above u, or y above v, or x, y or u, v is none. */
    private static void sidesOfRectangles() {
        for (int x : COLUMNS) {
            for (int y : ROWS) {
                if (!isPoint(x, y)) {
                    refuses(9, "drawRectangle(" + term(x) + ", " + term(y) + ", 63, 31)");
                    refuses(9, "drawRectangle(0, 0, " + term(x) + ", " + term(y) + ")");
                }
            }
        }
        refuses(9, "drawRectangle(6, 5, 5, 5)");
        refuses(9, "drawRectangle(5, 6, 5, 5)");
        refuses(9, "drawRectangle(63, 0, 62, 31)");
        refuses(9, "drawRectangle(0, 31, 63, 30)");
    }

    private static void pointsOfRectangles() {
        int[][] sides = {{5, 5, 5, 5}, {5, 5, 6, 5}, {5, 5, 5, 6}, {0, 0, 63, 31}, {0, 0, 0, 0}, {63, 31, 63, 31}, {0, 31, 63, 31},
            {63, 0, 63, 31}, {15, 3, 16, 4}, {16, 3, 31, 4}, {14, 3, 48, 4}, {1, 1, 62, 30}, {47, 0, 48, 31}};
        for (int[] s : sides) {
            long[] rows = new long[32];
            for (int y = s[1]; y <= s[3]; y++) {
                for (int x = s[0]; x <= s[2]; x++) {
                    rows[y] |= 1L << x;
                }
            }
            draws("drawRectangle(" + s[0] + ", " + s[1] + ", " + s[2] + ", " + s[3] + ")", rows);
        }
    }

    /** drawCircle: ERROR 13 if r is below 0 or above 31. */
    private static void radii() {
        for (int r : new int[] {-32768, -2, -1, 16, 17, 30, 31, 32, 33, 32767}) {
            refuses(13, "drawCircle(32, 16, " + term(r) + ")");
        }
    }

    /** ERROR 13 if x - r, y - r or x + r, y + r is none. */
    private static void placesOfCircles() {
        for (int r : new int[] {0, 1, 7, 14, 15}) {
            int[][] corners = {{r, r}, {63 - r, r}, {r, 31 - r}, {63 - r, 31 - r}};
            for (int[] c : corners) {
                draws("drawCircle(" + c[0] + ", " + c[1] + ", " + r + ")", circle(c[0], c[1], r));
            }
            refuses(13, "drawCircle(" + term(r - 1) + ", " + r + ", " + r + ")");
            refuses(13, "drawCircle(" + r + ", " + term(r - 1) + ", " + r + ")");
            refuses(13, "drawCircle(" + (64 - r) + ", " + r + ", " + r + ")");
            refuses(13, "drawCircle(" + r + ", " + (32 - r) + ", " + r + ")");
        }
        refuses(13, "drawCircle(-32768, 5, 3)".replace("-32768", term(-32768)));
        refuses(13, "drawCircle(32767, 5, 3)");
        refuses(13, "drawCircle(5, 32767, 31)");
    }

    /** For each row y + e the points x - w .. x + w, w the root of r r - e e. */
    private static long[] circle(int x, int y, int r) {
        long[] rows = new long[32];
        for (int e = -r; e <= r; e++) {
            int w = (int) Math.sqrt(r * r - e * e);
            for (int i = x - w; i <= x + w; i++) {
                rows[y + e] |= 1L << i;
            }
        }
        return rows;
    }

    private static void pointsOfCircles() {
        for (int r = 0; r <= 15; r++) {
            draws("drawCircle(32, 15, " + r + ")", circle(32, 15, r));
            draws("drawCircle(17, 16, " + r + ")", circle(17, 16, r));
        }
    }
}
