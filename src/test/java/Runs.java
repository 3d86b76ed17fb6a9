/** What the tests of runs share: programs that are loaded and run, and how they must end. */
final class Runs {
    private Runs() {
    }

    /** Runs a text to its end, and tells what it has written. */
    static String runOf(String text) {
        TowerComputer x = Check.program(text);
        Check.due("run of " + Check.shortened(text), x.run(5000), 0);
        Check.due("error() behind " + Check.shortened(text), x.error(), 0);
        Check.due("place() behind " + Check.shortened(text), x.place(), -1);
        return Check.output(x);
    }

    /** As runOf() of a body of main. */
    static String written(String body) {
        return runOf(Check.inMain(body));
    }

    static void value(String e, int want) {
        Check.due(e, written("do Output.printInt(" + e + ");"), Integer.toString(want));
    }

    /** The program ends with this error, and the statement at hand is the one that is marked with ^. */
    static TowerComputer fails(int number, String marked) {
        TowerComputer x = Check.program(marked.replace("^", ""));
        Check.due("run of " + Check.shortened(marked), x.run(5000), 3);
        Check.due("error() of " + Check.shortened(marked), x.error(), number);
        Check.due("place() of " + Check.shortened(marked), x.place(), marked.indexOf('^'));
        return x;
    }

    /** As fails() of a body of main, without asking for the statement. */
    static TowerComputer failsInMain(int number, String body) {
        TowerComputer x = Check.mainProgram(body);
        Check.due("run of " + Check.shortened(body), x.run(5000), 3);
        Check.due("error() of " + Check.shortened(body), x.error(), number);
        return x;
    }

    /** With so much fuel the run ends for want of it, at the statement that is marked. */
    static TowerComputer outOfFuel(int fuel, String marked) {
        TowerComputer x = Check.program(marked.replace("^", ""));
        Check.due("run(" + fuel + ") of " + marked, x.run(fuel), 1);
        Check.due("place() behind run(" + fuel + ") of " + marked, x.place(), marked.indexOf('^'));
        Check.due("count(1) behind run(" + fuel + ") of " + marked, x.count(1), fuel);
        Check.due("error() behind run(" + fuel + ") of " + marked, x.error(), 0);
        return x;
    }

    /** A run takes so many steps: with as much fuel it ends well, with one less for want of it. */
    static void steps(String text, int want) {
        TowerComputer x = Check.program(text);
        Check.due("run of " + text, x.run(5000), 0);
        Check.due("count(1) of " + text, x.count(1), want);
        Check.due("run with more fuel of " + text, x.run(want + 1), 0);
        Check.due("run with as much fuel of " + text, x.run(want), 0);
        Check.due("run with less fuel of " + text, x.run(want - 1), 1);
        Check.due("count(1) with less fuel of " + text, x.count(1), want - 1);
    }
}
