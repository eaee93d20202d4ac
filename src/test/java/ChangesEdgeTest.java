import java.util.ArrayList;
import java.util.List;
import java.util.function.Supplier;
import java.util.function.ToIntFunction;

/** The boundary cases that the document names of changes and errors: the history, the order of errors, refused calls. */
public final class ChangesEdgeTest extends Edges {
    private static final String CHANGES = "Changes and errors";

    /** Some answers that tell a state, with the text and the snapshot as far as they show. */
    private static List<Integer> look(PortraitMazes x) {
        List<Integer> answers = new ArrayList<>();
        for (int what = 0; what < 10; what++) {
            answers.add(x.count(what));
        }
        for (int i = 0; i < 4; i++) {
            answers.add(x.doorOf(i / 2, i % 2));
        }
        int cells = answers.get(0) * answers.get(1);
        for (int cell = 0; cell < cells; cell++) {
            answers.add(x.cellOf(cell, 0));
            answers.add(x.cellOf(cell, 1));
        }
        answers.add(x.fault(0));
        answers.add(x.fault(1));
        return answers;
    }

    private static void dueSame(String when, PortraitMazes x, List<Integer> want) {
        List<Integer> got = look(x);
        if (!got.equals(want)) {
            complain(when + " there is " + got + ", due is " + want);
        }
    }

    /** Not even the history, the snapshot and the text differ: compared with one that was not called. */
    private static void dueNoChange(Supplier<PortraitMazes> begin, ToIntFunction<PortraitMazes> call, int error) {
        PortraitMazes x = begin.get();
        PortraitMazes twin = begin.get();
        due("the call", call.applyAsInt(x), error);
        dueSame("after the call", x, look(twin));
        for (int i = 0; i < 4; i++) {
            due("undo()", x.undo(), twin.undo());
            dueSame("after undo()", x, look(twin));
        }
        due("restore()", x.restore(), twin.restore());
        dueSame("after restore()", x, look(twin));
        due("read()", x.read(), twin.read());
        dueSame("after read()", x, look(twin));
    }

    private static PortraitMazes changed() {
        PortraitMazes x = new PortraitMazes();
        type(x, "12/34");
        x.tone(1, 7);
        x.tone(15, 9);
        x.keep();
        x.door(0, 3, UP);
        carve(x, 4, 5);
        return x;
    }

    private static PortraitMazes whole() {
        PortraitMazes x = changed();
        x.build();
        x.improve();
        x.exchange();
        return x;
    }

    private static PortraitMazes faulty() {
        PortraitMazes x = changed();
        type(x, "12/3");
        return x;
    }

    private static PortraitMazes full() {
        PortraitMazes x = changed();
        type(x, LARGEST + "/123456/123456/1234");
        return x;
    }

    private static PortraitMazes small() {
        PortraitMazes x = changed();
        x.read();
        return x;
    }

    private static PortraitMazes undone() {
        PortraitMazes x = changed();
        for (int left = 3; left >= 0; left--) {
            due("undo()", x.undo(), left);
        }
        return x;
    }

    private static void refused(String call, Supplier<PortraitMazes> begin, ToIntFunction<PortraitMazes> made, int error) {
        edge(CHANGES, "A call that returns an error changes nothing", call, () -> dueNoChange(begin, made, error));
    }

    private static void refusedInvalid() {
        refused("tone, cell", ChangesEdgeTest::changed, x -> x.tone(16, 5), INVALID);
        refused("tone, tone", ChangesEdgeTest::changed, x -> x.tone(1, 10), INVALID);
        refused("tone, small", ChangesEdgeTest::small, x -> x.tone(4, 5), INVALID);
        refused("carve, cell", ChangesEdgeTest::changed, x -> x.carve(-1, RIGHT), INVALID);
        refused("carve, direction", ChangesEdgeTest::changed, x -> x.carve(0, 4), INVALID);
        refused("wall, cell", ChangesEdgeTest::changed, x -> x.wall(18, RIGHT), INVALID);
        refused("wall, direction", ChangesEdgeTest::changed, x -> x.wall(2, 5), INVALID);
        refused("door, door", ChangesEdgeTest::changed, x -> x.door(2, 0, UP), INVALID);
        refused("door, cell", ChangesEdgeTest::changed, x -> x.door(0, 16, UP), INVALID);
        refused("door, side", ChangesEdgeTest::changed, x -> x.door(0, 0, 4), INVALID);
        refused("cellOf", ChangesEdgeTest::changed, x -> x.cellOf(0, 7), INVALID);
        refused("doorOf", ChangesEdgeTest::changed, x -> x.doorOf(0, 2), INVALID);
        refused("count", ChangesEdgeTest::changed, x -> x.count(10), INVALID);
        refused("way", ChangesEdgeTest::changed, x -> x.way(-1), INVALID);
        refused("drawn", ChangesEdgeTest::changed, x -> x.drawn(5), INVALID);
        refused("between", ChangesEdgeTest::changed, x -> x.between(0, 16), INVALID);
        refused("farthest", ChangesEdgeTest::changed, x -> x.farthest(3), INVALID);
        refused("best", ChangesEdgeTest::whole, x -> x.best(3), INVALID);
        refused("bestExit", ChangesEdgeTest::changed, x -> x.bestExit(3), INVALID);
        refused("type", ChangesEdgeTest::changed, x -> x.type(127), INVALID);
        refused("fault", ChangesEdgeTest::faulty, x -> x.fault(2), INVALID);
    }

    private static void refusedNotPossible() {
        refused("carve at the border", ChangesEdgeTest::changed, x -> x.carve(0, UP), NOT_POSSIBLE);
        refused("carve of joined cells", ChangesEdgeTest::changed, x -> x.carve(2, RIGHT), NOT_POSSIBLE);
        refused("wall of a wall", ChangesEdgeTest::changed, x -> x.wall(0, RIGHT), NOT_POSSIBLE);
        refused("door inside", ChangesEdgeTest::changed, x -> x.door(0, 5, UP), NOT_POSSIBLE);
        refused("door at the other", ChangesEdgeTest::changed, x -> x.door(1, 3, UP), NOT_POSSIBLE);
        refused("build of a whole maze", ChangesEdgeTest::whole, PortraitMazes::build, NOT_POSSIBLE);
        refused("exchange of parts", ChangesEdgeTest::changed, PortraitMazes::exchange, NOT_POSSIBLE);
        refused("exchange without a better one", ChangesEdgeTest::whole, PortraitMazes::exchange, NOT_POSSIBLE);
        refused("improve of parts", ChangesEdgeTest::changed, PortraitMazes::improve, NOT_POSSIBLE);
        refused("best of parts", ChangesEdgeTest::changed, x -> x.best(0), NOT_POSSIBLE);
        refused("restore of none", PortraitMazes::new, PortraitMazes::restore, NOT_POSSIBLE);
        refused("undo of none", PortraitMazes::new, PortraitMazes::undo, NOT_POSSIBLE);
        refused("undo of none any more", ChangesEdgeTest::undone, PortraitMazes::undo, NOT_POSSIBLE);
        refused("read of a faulty text", ChangesEdgeTest::faulty, PortraitMazes::read, NOT_POSSIBLE);
        refused("read of an empty text", PortraitMazes::new, PortraitMazes::read, NOT_POSSIBLE);
    }

    private static void refusedOtherwise() {
        refused("type into a full text", ChangesEdgeTest::full, x -> x.type(48), LIMIT);
        refused("cellOf without a way", ChangesEdgeTest::changed, x -> x.cellOf(0, 4), NOT_FOUND);
        refused("cellOf without a walk", ChangesEdgeTest::changed, x -> x.cellOf(0, 6), NOT_FOUND);
        refused("way without a way", ChangesEdgeTest::changed, x -> x.way(0), NOT_FOUND);
        refused("drawn without a way", ChangesEdgeTest::changed, x -> x.drawn(0), NOT_FOUND);
        refused("drawn without a walk", ChangesEdgeTest::changed, x -> x.drawn(2), NOT_FOUND);
        refused("between parts", ChangesEdgeTest::changed, x -> x.between(0, 1), NOT_FOUND);
        refused("farthest without a passage", PortraitMazes::new, x -> x.farthest(0), NOT_FOUND);
        refused("fault of none", ChangesEdgeTest::changed, x -> x.fault(0), NOT_FOUND);
    }

    // ---- changes

    private static void change(String call, Supplier<PortraitMazes> begin, ToIntFunction<PortraitMazes> made, int answer) {
        edge(CHANGES, "tone, carve, wall, door, build, exchange, improve, restore and read that return no error", call,
            () -> dueRecorded(begin.get(), made, answer));
    }

    private static void dueRecorded(PortraitMazes x, ToIntFunction<PortraitMazes> call, int answer) {
        List<Integer> before = look(x);
        int states = x.count(7);
        due("the call", call.applyAsInt(x), answer);
        due("count(7)", x.count(7), states + 1);
        due("undo()", x.undo(), states);
        dueSame("after undo()", x, before);
    }

    private static PortraitMazes longWay() {
        PortraitMazes x = new PortraitMazes();
        x.door(0, 12, LEFT);
        x.door(1, 13, DOWN);
        x.build();
        return x;
    }

    private static PortraitMazes kept() {
        PortraitMazes x = longWay();
        x.keep();
        x.undo();
        return x;
    }

    private static PortraitMazes typed() {
        PortraitMazes x = longWay();
        type(x, "123/456");
        return x;
    }

    private static void changes() {
        change("tone", ChangesEdgeTest::longWay, x -> x.tone(15, 9), 0);
        change("tone, the same", ChangesEdgeTest::longWay, x -> x.tone(15, 0), 0);
        change("carve", PortraitMazes::new, x -> x.carve(15, UP), 15);
        change("wall", ChangesEdgeTest::longWay, x -> x.wall(15, UP), 2);
        change("door", ChangesEdgeTest::longWay, x -> x.door(1, 15, DOWN), 13);
        change("door, where it is", ChangesEdgeTest::longWay, x -> x.door(1, 13, DOWN), 13);
        change("build", PortraitMazes::new, PortraitMazes::build, 15);
        change("exchange", ChangesEdgeTest::longWay, PortraitMazes::exchange, 18);
        change("improve", ChangesEdgeTest::longWay, PortraitMazes::improve, 1);
        change("improve, none", ChangesEdgeTest::wholeAtOnce, PortraitMazes::improve, 0);
        change("restore", ChangesEdgeTest::kept, PortraitMazes::restore, 15);
        change("restore, the same", ChangesEdgeTest::keptNow, PortraitMazes::restore, 15);
        change("read", ChangesEdgeTest::typed, PortraitMazes::read, 6);
    }

    private static PortraitMazes wholeAtOnce() {
        PortraitMazes x = new PortraitMazes();
        x.build();
        return x;
    }

    private static PortraitMazes keptNow() {
        PortraitMazes x = longWay();
        x.keep();
        return x;
    }

    private static void othersAreNoChanges() {
        PortraitMazes x = longWay();
        x.keep();
        x.type('1');
        x.clearText();
        x.type('2');
        look(x);
        x.best(0);
        x.bestExit(0);
        x.farthest(0);
        x.way(0);
        x.drawn(2);
        x.between(0, 1);
        due("count(7)", x.count(7), 3);
        due("undo()", x.undo(), 2);
        due("count(2), build() is undone", x.count(2), 0);
    }

    private static void fourStatesAreKept() {
        PortraitMazes x = new PortraitMazes();
        for (int tone = 1; tone <= 4; tone++) {
            x.tone(0, tone);
            due("count(7)", x.count(7), tone);
        }
        for (int left = 3; left >= 0; left--) {
            due("undo()", x.undo(), left);
            due("cellOf(0, 0)", x.cellOf(0, 0), left);
        }
        due("undo() of none", x.undo(), NOT_POSSIBLE);
    }

    private static void theFifthDropsTheOldest() {
        PortraitMazes x = new PortraitMazes();
        for (int tone = 1; tone <= 5; tone++) {
            x.tone(0, tone);
        }
        due("count(7)", x.count(7), 4);
        for (int left = 3; left >= 0; left--) {
            due("undo()", x.undo(), left);
            due("cellOf(0, 0)", x.cellOf(0, 0), left + 1);
        }
        due("undo() of the dropped one", x.undo(), NOT_POSSIBLE);
        due("cellOf(0, 0)", x.cellOf(0, 0), 1);
    }

    private static void manyDropped() {
        PortraitMazes x = new PortraitMazes();
        for (int change = 1; change <= 109; change++) {
            x.tone(0, change % 10);
        }
        for (int left = 3; left >= 0; left--) {
            due("undo()", x.undo(), left);
            due("cellOf(0, 0)", x.cellOf(0, 0), 5 + left);
        }
        x.tone(0, 1);
        due("count(7), from empty again", x.count(7), 1);
    }

    private static void everythingIsRecorded() {
        PortraitMazes x = new PortraitMazes();
        x.tone(7, 8);
        carve(x, 13);
        x.door(1, 2, UP);
        List<Integer> before = look(x);
        type(x, "98/76");
        x.read();
        dueCounts(x, 2, 2, 0, 4, 0, 0, 30, 4, 5, 0);
        x.undo();
        x.clearText();
        dueSame("after undo()", x, before);
    }

    private static void theTextIsNotRecorded() {
        PortraitMazes x = new PortraitMazes();
        type(x, "12/3");
        x.tone(0, 1);
        x.type('4');
        x.tone(0, 2);
        x.undo();
        due("count(8) after undo()", x.count(8), 5);
        x.undo();
        due("count(8) after undo()", x.count(8), 5);
        due("read()", x.read(), 4);
        x.clearText();
        x.undo();
        due("count(8), emptied", x.count(8), 0);
    }

    private static void theSnapshotIsNotRecorded() {
        PortraitMazes x = new PortraitMazes();
        x.tone(0, 1);
        x.keep();
        x.undo();
        due("count(9) after undo()", x.count(9), 1);
        due("cellOf(0, 0)", x.cellOf(0, 0), 0);
        x.tone(0, 2);
        x.keep();
        x.undo();
        x.restore();
        due("cellOf(0, 0), the later snapshot", x.cellOf(0, 0), 2);
    }

    private static void theSnapshotHoldsNoText() {
        PortraitMazes x = new PortraitMazes();
        type(x, "12/34");
        x.keep();
        x.clearText();
        x.restore();
        due("count(8)", x.count(8), 0);
    }

    // ---- errors

    private static void invalidRatherThanNotPossible() {
        PortraitMazes x = new PortraitMazes();
        due("door(2, 5, UP)", x.door(2, 5, UP), INVALID);
        due("door(-1, 0, LEFT)", x.door(-1, 0, LEFT), INVALID);
        due("best(3) of parts", x.best(3), INVALID);
        due("best(-1) of parts", x.best(-1), INVALID);
        due("carve(0, 4), nothing beside it", x.carve(0, 4), INVALID);
        due("carve(16, UP)", x.carve(16, UP), INVALID);
        due("wall(0, 4), no passage", x.wall(0, 4), INVALID);
        due("wall(16, UP), no passage", x.wall(16, UP), INVALID);
        x.build();
        due("carve(0, 5) of a whole one", x.carve(0, 5), INVALID);
    }

    private static void invalidRatherThanLimit() {
        PortraitMazes x = full();
        due("count(8)", x.count(8), 60);
        due("type(31)", x.type(31), INVALID);
        due("type(127)", x.type(127), INVALID);
        due("type(32)", x.type(32), LIMIT);
        due("type(126)", x.type(126), LIMIT);
    }

    private static void invalidRatherThanNotFound() {
        PortraitMazes x = new PortraitMazes();
        due("cellOf(16, 4)", x.cellOf(16, 4), INVALID);
        due("cellOf(16, 6)", x.cellOf(16, 6), INVALID);
        due("cellOf(15, 7)", x.cellOf(15, 7), INVALID);
        due("way(-1)", x.way(-1), INVALID);
        due("drawn(-1)", x.drawn(-1), INVALID);
        due("drawn(5)", x.drawn(5), INVALID);
        due("between(0, 16)", x.between(0, 16), INVALID);
        due("between(16, 0)", x.between(16, 0), INVALID);
        due("farthest(3)", x.farthest(3), INVALID);
        due("farthest(-1)", x.farthest(-1), INVALID);
        x.door(0, 1, UP);
        due("bestExit(3)", x.bestExit(3), INVALID);
        due("bestExit(-1)", x.bestExit(-1), INVALID);
        type(x, "12/34");
        due("fault(2)", x.fault(2), INVALID);
        due("fault(-1)", x.fault(-1), INVALID);
    }

    private static void dueCells(PortraitMazes x, int cells) {
        int last = cells - 1;
        dueRange("tone(.., 0)", 0, last, cell -> x.tone(cell, 0));
        dueRange("carve(.., UP)", 0, last, cell -> x.carve(cell, UP));
        dueRange("wall(.., UP)", 0, last, cell -> x.wall(cell, UP));
        dueRange("door(0, .., UP)", 0, last, cell -> x.door(0, cell, UP));
        dueRange("cellOf(.., 0)", 0, last, cell -> x.cellOf(cell, 0));
        dueRange("between(.., 0)", 0, last, cell -> x.between(cell, 0));
        dueRange("between(0, ..)", 0, last, cell -> x.between(0, cell));
    }

    private static void cellsThereAreNot() {
        dueCells(new PortraitMazes(), 16);
        dueCells(picture("12/34", 4), 4);
        dueCells(picture(LARGEST, 36), 36);
    }

    private static void cellsThereAreNotAnyMore() {
        PortraitMazes x = new PortraitMazes();
        due("cellOf(15, 0)", x.cellOf(15, 0), 0);
        type(x, "12/34");
        x.keep();
        x.read();
        due("cellOf(4, 0) of four cells", x.cellOf(4, 0), INVALID);
        due("cellOf(15, 0) of four cells", x.cellOf(15, 0), INVALID);
        due("restore()", x.restore(), 0);
        due("cellOf(15, 0) of sixteen cells", x.cellOf(15, 0), 0);
        due("undo()", x.undo(), 1);
        due("cellOf(4, 0) of four cells", x.cellOf(4, 0), INVALID);
        due("undo()", x.undo(), 0);
        due("cellOf(4, 0) of sixteen cells", x.cellOf(4, 0), 0);
    }

    private static void constants() {
        due("INVALID_ARGUMENT", PortraitMazes.INVALID_ARGUMENT, -1);
        due("NOT_POSSIBLE", PortraitMazes.NOT_POSSIBLE, -2);
        due("LIMIT_REACHED", PortraitMazes.LIMIT_REACHED, -3);
        due("NOT_FOUND", PortraitMazes.NOT_FOUND, -4);
    }

    private static void histories() {
        edge(CHANGES, "The changes are the calls of", "no others", ChangesEdgeTest::othersAreNoChanges);
        edge(CHANGES, "A history of at most 4 states is kept", "four", ChangesEdgeTest::fourStatesAreKept);
        edge(CHANGES, "if there are 5 states then, the oldest one is dropped", "five",
            ChangesEdgeTest::theFifthDropsTheOldest);
        edge(CHANGES, "if there are 5 states then, the oldest one is dropped", "many", ChangesEdgeTest::manyDropped);
        String records = "each change records everything before it but the text and the snapshot";
        edge(CHANGES, records, "everything", ChangesEdgeTest::everythingIsRecorded);
        edge(CHANGES, records, "the text", ChangesEdgeTest::theTextIsNotRecorded);
        edge(CHANGES, records, "the snapshot", ChangesEdgeTest::theSnapshotIsNotRecorded);
        edge(CHANGES, records, "the snapshot's text", ChangesEdgeTest::theSnapshotHoldsNoText);
    }

    private static void errors() {
        // No call has both NOT_POSSIBLE and LIMIT_REACHED, or both LIMIT_REACHED and NOT_FOUND.
        String order = "INVALID_ARGUMENT is returned rather than NOT_POSSIBLE";
        edge(CHANGES, order, "NOT_POSSIBLE", ChangesEdgeTest::invalidRatherThanNotPossible);
        edge(CHANGES, order, "LIMIT_REACHED", ChangesEdgeTest::invalidRatherThanLimit);
        edge(CHANGES, order, "NOT_FOUND", ChangesEdgeTest::invalidRatherThanNotFound);
        String noCell = "If there is no cell with a certain number, this is INVALID_ARGUMENT";
        edge(CHANGES, noCell, "all sizes", ChangesEdgeTest::cellsThereAreNot);
        edge(CHANGES, noCell, "another size", ChangesEdgeTest::cellsThereAreNotAnyMore);
        edge(CHANGES, "INVALID_ARGUMENT = -1", "the constants", ChangesEdgeTest::constants);
    }

    public static void main(String[] args) {
        changes();
        histories();
        errors();
        refusedInvalid();
        refusedNotPossible();
        refusedOtherwise();
        end();
    }
}
