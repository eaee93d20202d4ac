import java.util.function.IntUnaryOperator;

/** What the tests by hand have in common: an answer that is due, texts, pictures, passages. */
abstract class Checks {
    static final int INVALID = -1;
    static final int NOT_POSSIBLE = -2;
    static final int LIMIT = -3;
    static final int NOT_FOUND = -4;

    static final int UP = 0;
    static final int RIGHT = 1;
    static final int DOWN = 2;
    static final int LEFT = 3;

    /** Six rows of six. */
    static final String LARGEST = "123456/123456/123456/123456/123456/123456";

    /** Numbers far off, among them such as wrap around or are well again behind a shift, a mask or a remainder. */
    private static final int[] FAR = {
        Integer.MIN_VALUE, Integer.MIN_VALUE + 1, -1 << 30, -256, -64, -36, -32, -16, -4, -2,
        32, 33, 34, 35, 36, 64, 256, 1 << 16, 1 << 30, (1 << 30) + 1, Integer.MAX_VALUE - 1, Integer.MAX_VALUE
    };

    private static String test = "";
    private static int tests = 0;
    private static int wrong = 0;

    static void run(String name, Runnable body) {
        test = name;
        tests++;
        body.run();
    }

    static void due(String call, int got, int want) {
        if (got != want) {
            complain(call + " answered " + got + ", due is " + want);
        }
    }

    static void complain(String what) {
        wrong++;
        System.out.println(test + ": " + what);
    }

    /** Ends the program, with exit code 1 if an answer was wrong. */
    static void end() {
        System.out.println(wrong == 0 ? "all answers of " + tests + " tests are as due" : wrong + " are not as due");
        if (wrong != 0) {
            System.exit(1);
        }
    }

    static void type(PortraitMazes x, String text) {
        x.clearText();
        for (int i = 0; i < text.length(); i++) {
            due("type of " + text + " at " + i, x.type(text.charAt(i)), i + 1);
        }
    }

    static PortraitMazes picture(String text, int cells) {
        PortraitMazes x = new PortraitMazes();
        type(x, text);
        due("read() of " + text, x.read(), cells);
        return x;
    }

    /** Carves from numbers of passages. */
    static void carve(PortraitMazes x, int... places) {
        for (int place : places) {
            int parts = x.count(3);
            due("carve of " + place, x.carve(place / 2, place % 2 == 0 ? RIGHT : DOWN), parts - 1);
        }
    }

    static void dueCounts(PortraitMazes x, int... counts) {
        for (int what = 0; what < counts.length; what++) {
            due("count(" + what + ")", x.count(what), counts[what]);
        }
    }

    static void dueDoors(PortraitMazes x, int entryCell, int entrySide, int exitCell, int exitSide) {
        due("doorOf(0, 0)", x.doorOf(0, 0), entryCell);
        due("doorOf(0, 1)", x.doorOf(0, 1), entrySide);
        due("doorOf(1, 0)", x.doorOf(1, 0), exitCell);
        due("doorOf(1, 1)", x.doorOf(1, 1), exitSide);
    }

    static void dueWay(PortraitMazes x, int... cells) {
        due("drawn(0)", x.drawn(0), cells.length == 0 ? NOT_FOUND : cells.length);
        for (int i = 0; i < cells.length; i++) {
            due("way(" + i + ")", x.way(i), cells[i]);
        }
        due("way behind the end", x.way(cells.length), NOT_FOUND);
    }

    static void dueFarthest(PortraitMazes x, int lower, int higher, int passages) {
        due("farthest(0)", x.farthest(0), lower);
        due("farthest(1)", x.farthest(1), higher);
        due("farthest(2)", x.farthest(2), passages);
    }

    static void dueBest(PortraitMazes x, int taken, int made, int fault) {
        due("best(0)", x.best(0), taken);
        due("best(1)", x.best(1), made);
        due("best(2)", x.best(2), fault);
    }

    static void dueBestExit(PortraitMazes x, int cell, int side, int fault) {
        due("bestExit(0)", x.bestExit(0), cell);
        due("bestExit(1)", x.bestExit(1), side);
        due("bestExit(2)", x.bestExit(2), fault);
    }

    static void dueFault(String text, int place, int reason) {
        PortraitMazes x = new PortraitMazes();
        type(x, text);
        due("fault(0) of " + text, x.fault(0), place);
        due("fault(1) of " + text, x.fault(1), reason);
        if (reason > 0) {
            due("read() of " + text, x.read(), NOT_POSSIBLE);
            due("states after that", x.count(7), 0);
            due("columns after that", x.count(0), 4);
        }
    }

    /** The call takes the numbers from the lowest to the highest, and INVALID_ARGUMENT is due for all others. */
    static void dueRange(String name, int lowest, int highest, IntUnaryOperator call) {
        dueInvalid(name, lowest - 1, call);
        dueInvalid(name, highest + 1, call);
        for (int number : FAR) {
            if (number < lowest || number > highest) {
                dueInvalid(name, number, call);
            }
        }
        for (int number = lowest; number <= highest; number++) {
            if (call.applyAsInt(number) == INVALID) {
                complain(name + " of " + number + " is refused");
            }
        }
    }

    private static void dueInvalid(String name, int number, IntUnaryOperator call) {
        due(name + " of " + number, call.applyAsInt(number), INVALID);
    }
}
