import java.util.ArrayList;
import java.util.Collections;
import java.util.List;
import java.util.Random;

/** Long runs of calls, always the same ones, each answered by the program and by the model of the document. */
public final class ModelTest {
    private static final int RUNS = 400;
    private static final int CALLS = 512;
    private static final int[] ODD = {-1, 36, 100, -100, Integer.MAX_VALUE, Integer.MIN_VALUE};

    private final Random random;
    private final int run;
    private final PortraitMazes mazes = new PortraitMazes();
    private final ModelMazes model = new ModelMazes();
    private final StringBuilder told = new StringBuilder();
    private int calls = 0;
    private boolean wrong = false;

    private ModelTest(int run) {
        this.run = run;
        this.random = new Random(run);
    }

    private boolean goesOn() {
        return !wrong && calls < CALLS;
    }

    private void call(String name, int... a) {
        if (!goesOn()) {
            return;
        }
        calls++;
        int got = answer(name, a);
        int want = modelAnswer(name, a);
        told.append(name).append(java.util.Arrays.toString(a)).append(" = ").append(want).append('\n');
        if (got != want) {
            wrong = true;
            System.out.println("run " + run + ", call " + calls + ":\n" + told + "answered " + got);
        }
    }

    private int answer(String name, int[] a) {
        switch (name) {
            case "tone": return mazes.tone(a[0], a[1]);
            case "carve": return mazes.carve(a[0], a[1]);
            case "wall": return mazes.wall(a[0], a[1]);
            case "door": return mazes.door(a[0], a[1], a[2]);
            case "build": return mazes.build();
            case "exchange": return mazes.exchange();
            case "improve": return mazes.improve();
            case "cellOf": return mazes.cellOf(a[0], a[1]);
            case "doorOf": return mazes.doorOf(a[0], a[1]);
            case "count": return mazes.count(a[0]);
            case "way": return mazes.way(a[0]);
            case "drawn": return mazes.drawn(a[0]);
            case "between": return mazes.between(a[0], a[1]);
            case "farthest": return mazes.farthest(a[0]);
            case "best": return mazes.best(a[0]);
            case "bestExit": return mazes.bestExit(a[0]);
            case "keep": return mazes.keep();
            case "restore": return mazes.restore();
            case "undo": return mazes.undo();
            case "type": return mazes.type(a[0]);
            case "clearText": return mazes.clearText();
            case "fault": return mazes.fault(a[0]);
            case "read": return mazes.read();
            default: throw new IllegalArgumentException(name);
        }
    }

    private int modelAnswer(String name, int[] a) {
        switch (name) {
            case "tone": return model.tone(a[0], a[1]);
            case "carve": return model.carve(a[0], a[1]);
            case "wall": return model.wall(a[0], a[1]);
            case "door": return model.door(a[0], a[1], a[2]);
            case "build": return model.build();
            case "exchange": return model.exchange();
            case "improve": return model.improve();
            case "cellOf": return model.cellOf(a[0], a[1]);
            case "doorOf": return model.doorOf(a[0], a[1]);
            case "count": return model.count(a[0]);
            case "way": return model.way(a[0]);
            case "drawn": return model.drawn(a[0]);
            case "between": return model.between(a[0], a[1]);
            case "farthest": return model.farthest(a[0]);
            case "best": return model.best(a[0]);
            case "bestExit": return model.bestExit(a[0]);
            case "keep": return model.keep();
            case "restore": return model.restore();
            case "undo": return model.undo();
            case "type": return model.type(a[0]);
            case "clearText": return model.clearText();
            case "fault": return model.fault(a[0]);
            case "read": return model.read();
            default: throw new IllegalArgumentException(name);
        }
    }

    /** Mostly 0 to highest, at times the number behind it or one far off. */
    private int number(int highest) {
        int dice = random.nextInt(60);
        if (dice == 0) {
            return ODD[random.nextInt(ODD.length)];
        }
        return dice == 1 ? highest + 1 : random.nextInt(highest + 1);
    }

    private int cell() {
        return number(model.count(0) * model.count(1) - 1);
    }

    private void type(String text) {
        for (int i = 0; i < text.length(); i++) {
            call("type", text.charAt(i));
        }
    }

    private String picture(int columns, int rows) {
        StringBuilder text = new StringBuilder();
        int kind = random.nextInt(3);
        for (int row = 0; row < rows; row++) {
            text.append(row == 0 ? "" : "/");
            for (int column = 0; column < columns; column++) {
                int tone = kind == 0 ? random.nextInt(10) : 9 * random.nextInt(2);
                text.append(kind == 1 ? 0 : tone);
            }
        }
        return text.toString();
    }

    private void newPicture() {
        call("clearText");
        type(picture(2 + random.nextInt(5), 2 + random.nextInt(5)));
        call("read");
    }

    private void faultyText() {
        call("clearText");
        StringBuilder text = new StringBuilder(picture(1 + random.nextInt(7), 1 + random.nextInt(7)));
        if (random.nextInt(3) > 0 && text.length() > 1) {
            int place = random.nextInt(text.length());
            switch (random.nextInt(4)) {
                case 0: text.deleteCharAt(place); break;
                case 1: text.insert(place, "/05:. ".charAt(random.nextInt(6))); break;
                case 2: text.setCharAt(place, "/05:. ".charAt(random.nextInt(6))); break;
                default: text.setLength(place);
            }
        }
        type(text.toString());
        call("fault", 0);
        call("fault", 1);
        call("read");
    }

    private void carveAtRandom() {
        List<Integer> places = new ArrayList<>();
        for (int place = 0; place < 2 * model.count(0) * model.count(1); place++) {
            places.add(place);
        }
        Collections.shuffle(places, random);
        for (int place : places) {
            if (model.count(4) == 0) {
                call("carve", place / 2, 1 + place % 2);
            }
        }
    }

    private void lookAtAll() {
        for (int what = 0; what < 10; what++) {
            call("count", what);
        }
        for (int what = 0; what < 5; what++) {
            call("drawn", what);
        }
        for (int what = 0; what < 3; what++) {
            call("farthest", what);
            call("best", what);
            call("bestExit", what);
        }
        for (int door = 0; door < 2; door++) {
            call("doorOf", door, 0);
            call("doorOf", door, 1);
        }
        for (int i = 0; i < 10; i++) {
            call("cellOf", cell(), i % 7);
            call("way", number(12));
        }
    }

    private void change() {
        switch (random.nextInt(20)) {
            case 0: call("tone", cell(), number(9)); break;
            case 1: call("tone", cell(), number(9)); break;
            case 2: call("build"); break;
            case 3: call("exchange"); break;
            case 4: call("exchange"); break;
            case 5: call("improve"); break;
            case 6: call("keep"); break;
            case 7: call("restore"); break;
            case 8: call("undo"); break;
            case 9: call("undo"); break;
            case 10: call("door", number(1), cell(), number(3)); break;
            case 11: call("door", number(1), cell(), number(3)); break;
            case 12: call("door", number(1), cell(), number(3)); break;
            case 13: call("wall", cell(), number(3)); break;
            case 14: call("wall", cell(), number(3)); break;
            case 15: call("type", 30 + random.nextInt(100)); break;
            default: call("carve", cell(), number(3));
        }
    }

    private void look() {
        switch (random.nextInt(10)) {
            case 0: call("doorOf", number(1), number(1)); break;
            case 1: call("count", number(9)); break;
            case 2: call("way", number(10)); break;
            case 3: call("drawn", number(4)); break;
            case 4: call("between", cell(), cell()); break;
            case 5: call("farthest", number(2)); break;
            case 6: call("best", number(2)); break;
            case 7: call("bestExit", number(2)); break;
            case 8: call("fault", number(1)); break;
            default: call("cellOf", cell(), number(6));
        }
    }

    private void go() {
        if (random.nextInt(5) > 0) {
            newPicture();
        }
        if (random.nextBoolean()) {
            carveAtRandom();
        }
        while (goesOn()) {
            int dice = random.nextInt(200);
            if (dice == 0) {
                newPicture();
            } else if (dice == 1) {
                carveAtRandom();
            } else if (dice < 4) {
                faultyText();
            } else if (dice < 8) {
                lookAtAll();
            } else if (dice < 110) {
                change();
            } else {
                look();
            }
        }
    }

    public static void main(String[] args) {
        int failed = 0;
        for (int run = 1; run <= RUNS && failed < 3; run++) {
            ModelTest test = new ModelTest(run);
            test.go();
            failed += test.wrong ? 1 : 0;
        }
        System.out.println(failed == 0 ? "all answers are as due" : failed + " runs are not as due");
        if (failed != 0) {
            System.exit(1);
        }
    }
}
