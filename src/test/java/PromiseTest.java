/** Runs by hand for each promise of the document: ordinary inputs, edges, wrong inputs. */
public final class PromiseTest extends Checks {
    private static void constants() {
        due("INVALID_ARGUMENT", PortraitMazes.INVALID_ARGUMENT, -1);
        due("NOT_POSSIBLE", PortraitMazes.NOT_POSSIBLE, -2);
        due("LIMIT_REACHED", PortraitMazes.LIMIT_REACHED, -3);
        due("NOT_FOUND", PortraitMazes.NOT_FOUND, -4);
    }

    private static void promise1NewObject() {
        PortraitMazes x = new PortraitMazes();
        int[] counts = {4, 4, 0, 16, 0, 0, 0, 0, 0, 0};
        for (int what = 0; what < counts.length; what++) {
            due("count(" + what + ")", x.count(what), counts[what]);
        }
        for (int cell = 0; cell < 16; cell++) {
            due("tone of " + cell, x.cellOf(cell, 0), 0);
            due("passages of " + cell, x.cellOf(cell, 1), 0);
            due("part of " + cell, x.cellOf(cell, 2), cell);
            due("cells of the part of " + cell, x.cellOf(cell, 3), 1);
        }
        due("doorOf(0, 0)", x.doorOf(0, 0), 0);
        due("doorOf(0, 1)", x.doorOf(0, 1), LEFT);
        due("doorOf(1, 0)", x.doorOf(1, 0), 15);
        due("doorOf(1, 1)", x.doorOf(1, 1), RIGHT);
        due("undo()", x.undo(), NOT_POSSIBLE);
        due("restore()", x.restore(), NOT_POSSIBLE);
        due("fault(1)", x.fault(1), 1);
    }

    private static void promise2Tone() {
        PortraitMazes x = new PortraitMazes();
        due("tone(5, 7)", x.tone(5, 7), 0);
        due("tone(5, 9)", x.tone(5, 9), 7);
        due("cellOf(5, 0)", x.cellOf(5, 0), 9);
        due("tone(15, 3)", x.tone(15, 3), 0);
        due("tone(-1, 0)", x.tone(-1, 0), INVALID);
        due("tone(16, 0)", x.tone(16, 0), INVALID);
        due("tone(0, -1)", x.tone(0, -1), INVALID);
        due("tone(0, 10)", x.tone(0, 10), INVALID);
        due("tone(MAX, MIN)", x.tone(Integer.MAX_VALUE, Integer.MIN_VALUE), INVALID);
        due("count(6)", x.count(6), 12);
        due("count(7)", x.count(7), 3);
        due("tone(5, 9) again", x.tone(5, 9), 9);
        due("count(7), the same tone is a change too", x.count(7), 4);
        PortraitMazes small = picture("12/34", 4);
        due("tone(4, 0) of four cells", small.tone(4, 0), INVALID);
        due("tone(3, 0) of four cells", small.tone(3, 0), 4);
    }

    private static void promise3Carve() {
        PortraitMazes x = new PortraitMazes();
        due("carve(0, RIGHT)", x.carve(0, RIGHT), 15);
        due("cellOf(0, 1)", x.cellOf(0, 1), 2);
        due("cellOf(1, 1)", x.cellOf(1, 1), 8);
        due("carve(0, RIGHT) again", x.carve(0, RIGHT), NOT_POSSIBLE);
        due("carve(1, LEFT)", x.carve(1, LEFT), NOT_POSSIBLE);
        due("carve(0, DOWN)", x.carve(0, DOWN), 14);
        due("carve(5, UP)", x.carve(5, UP), 13);
        due("carve(5, LEFT), a ring", x.carve(5, LEFT), NOT_POSSIBLE);
        due("carve(15, LEFT)", x.carve(15, LEFT), 12);
        due("carve(0, UP)", x.carve(0, UP), NOT_POSSIBLE);
        due("carve(0, LEFT)", x.carve(0, LEFT), NOT_POSSIBLE);
        due("carve(3, RIGHT)", x.carve(3, RIGHT), NOT_POSSIBLE);
        due("carve(4, LEFT)", x.carve(4, LEFT), NOT_POSSIBLE);
        due("carve(12, DOWN)", x.carve(12, DOWN), NOT_POSSIBLE);
        due("count(2)", x.count(2), 4);
        due("count(7)", x.count(7), 4);
        due("carve(-1, UP)", x.carve(-1, UP), INVALID);
        due("carve(16, UP)", x.carve(16, UP), INVALID);
        due("carve(0, -1)", x.carve(0, -1), INVALID);
        due("carve(0, 4)", x.carve(0, 4), INVALID);
        due("carve(MIN, MAX)", x.carve(Integer.MIN_VALUE, Integer.MAX_VALUE), INVALID);
    }

    private static void promise4Wall() {
        PortraitMazes x = new PortraitMazes();
        carve(x, 0, 1, 3);
        due("wall(0, RIGHT)", x.wall(0, RIGHT), 14);
        due("wall(0, RIGHT) again", x.wall(0, RIGHT), NOT_POSSIBLE);
        due("wall(1, LEFT)", x.wall(1, LEFT), NOT_POSSIBLE);
        due("wall(5, UP), from the other end", x.wall(5, UP), 15);
        due("cellOf(1, 1)", x.cellOf(1, 1), 0);
        due("cellOf(5, 1)", x.cellOf(5, 1), 0);
        due("cellOf(0, 1)", x.cellOf(0, 1), 4);
        due("wall(0, UP), the border", x.wall(0, UP), NOT_POSSIBLE);
        due("wall(0, LEFT), the door", x.wall(0, LEFT), NOT_POSSIBLE);
        due("count(7)", x.count(7), 4);
        due("wall(-1, UP)", x.wall(-1, UP), INVALID);
        due("wall(16, UP)", x.wall(16, UP), INVALID);
        due("wall(0, -1)", x.wall(0, -1), INVALID);
        due("wall(0, 4)", x.wall(0, 4), INVALID);
        due("wall(0, 34), not a direction by a remainder", x.wall(0, 34), INVALID);
    }

    private static void promise5Door() {
        PortraitMazes x = new PortraitMazes();
        due("door(0, 0, UP)", x.door(0, 0, UP), 0);
        due("doorOf(0, 1)", x.doorOf(0, 1), UP);
        due("door(1, 0, UP), where the entry is", x.door(1, 0, UP), NOT_POSSIBLE);
        due("door(1, 0, LEFT), the same cell", x.door(1, 0, LEFT), 15);
        due("door(0, 0, LEFT), where the exit is", x.door(0, 0, LEFT), NOT_POSSIBLE);
        due("door(1, 0, LEFT), where it is itself", x.door(1, 0, LEFT), 0);
        due("count(7)", x.count(7), 3);
        due("door(0, 7, RIGHT)", x.door(0, 7, RIGHT), 0);
        due("door(0, 14, DOWN)", x.door(0, 14, DOWN), 7);
        due("door(0, 0, RIGHT)", x.door(0, 0, RIGHT), NOT_POSSIBLE);
        due("door(0, 5, UP)", x.door(0, 5, UP), NOT_POSSIBLE);
        due("doorOf(0, 0)", x.doorOf(0, 0), 14);
        due("doorOf(0, 1)", x.doorOf(0, 1), DOWN);
        due("door(-1, 0, UP)", x.door(-1, 0, UP), INVALID);
        due("door(2, 0, UP)", x.door(2, 0, UP), INVALID);
        due("door(0, -1, UP)", x.door(0, -1, UP), INVALID);
        due("door(0, 16, UP)", x.door(0, 16, UP), INVALID);
        due("door(0, 0, -1)", x.door(0, 0, -1), INVALID);
        due("door(0, 0, 4)", x.door(0, 0, 4), INVALID);
    }

    private static void promise6Build() {
        PortraitMazes light = new PortraitMazes();
        due("build()", light.build(), 15);
        due("cellOf(0, 1)", light.cellOf(0, 1), 6);
        due("cellOf(5, 1)", light.cellOf(5, 1), 5);
        due("cellOf(15, 1)", light.cellOf(15, 1), 1);
        dueWay(light, 0, 1, 2, 3, 7, 11, 15);
        due("build() of a whole one", light.build(), NOT_POSSIBLE);
        due("count(7)", light.count(7), 1);
        due("undo()", light.undo(), 0);
        due("count(2)", light.count(2), 0);

        PortraitMazes toned = picture("90/99", 4);
        due("build()", toned.build(), 3);
        due("cellOf(0, 1), the lower of two alike", toned.cellOf(0, 1), 6);
        due("cellOf(1, 1)", toned.cellOf(1, 1), 8);
        due("cellOf(3, 1)", toned.cellOf(3, 1), 8);

        PortraitMazes begun = picture("90/99", 4);
        carve(begun, 3);
        due("build() beside a passage", begun.build(), 2);
        due("cellOf(0, 1)", begun.cellOf(0, 1), 4);
        due("cellOf(1, 1)", begun.cellOf(1, 1), 4);

        PortraitMazes one = new PortraitMazes();
        due("build()", one.build(), 15);
        due("wall(0, RIGHT)", one.wall(0, RIGHT), 2);
        due("build() of one", one.build(), 1);
        due("cellOf(0, 1)", one.cellOf(0, 1), 6);
    }

    private static void promise7Exchange() {
        PortraitMazes x = picture("99/00", 4);
        carve(x, 0, 1, 4);
        due("drawn(1)", x.drawn(1), 27);
        due("exchange()", x.exchange(), 9);
        due("cellOf(0, 1)", x.cellOf(0, 1), 2);
        due("cellOf(1, 1)", x.cellOf(1, 1), 12);
        due("cellOf(3, 1)", x.cellOf(3, 1), 9);
        due("drawn(1)", x.drawn(1), 9);
        due("count(7)", x.count(7), 4);
        due("exchange() without a better one", x.exchange(), NOT_POSSIBLE);
        due("undo()", x.undo(), 3);
        due("drawn(1)", x.drawn(1), 27);
        due("wall(0, DOWN)", x.wall(0, DOWN), 2);
        due("exchange() of two parts", x.exchange(), NOT_POSSIBLE);
        due("new exchange()", new PortraitMazes().exchange(), NOT_POSSIBLE);
    }

    private static void promise8Improve() {
        PortraitMazes x = picture("99/00", 4);
        carve(x, 0, 1, 4);
        x.undo();
        x.undo();
        x.undo();
        due("improve() of parts", x.improve(), NOT_POSSIBLE);
        carve(x, 0, 1, 4);
        x.keep();
        x.undo();
        due("restore()", x.restore(), 3);
        due("improve()", x.improve(), 1);
        due("drawn(1)", x.drawn(1), 9);
        due("improve() again", x.improve(), 0);
        due("count(7)", x.count(7), 4);
        due("undo(), also improve() with none made is a change", x.undo(), 3);
        due("drawn(1)", x.drawn(1), 9);
        due("undo()", x.undo(), 2);
        due("drawn(1)", x.drawn(1), 27);

        PortraitMazes snake = picture("000000/000000/000000/000000/000000/000000", 36);
        for (int cell = 0; cell < 36; cell++) {
            if (cell % 6 < 5) {
                carve(snake, 2 * cell);
            }
        }
        carve(snake, 2 * 5 + 1, 2 * 6 + 1, 2 * 17 + 1, 2 * 18 + 1, 2 * 29 + 1);
        due("drawn(1)", snake.drawn(1), 279);
        due("improve() by two short cuts", snake.improve(), 2);
        due("drawn(1)", snake.drawn(1), 99);
        due("count(7)", snake.count(7), 4);
        due("undo() takes both back", snake.undo(), 3);
        due("drawn(1)", snake.drawn(1), 279);
        due("exchange()", snake.exchange(), 189);
        due("exchange()", snake.exchange(), 99);
        due("exchange()", snake.exchange(), NOT_POSSIBLE);
    }

    private static void promise9CellOf() {
        PortraitMazes x = new PortraitMazes();
        x.tone(6, 8);
        carve(x, 8, 10, 3, 11, 1, 5);
        due("cellOf(6, 0)", x.cellOf(6, 0), 8);
        due("cellOf(5, 1)", x.cellOf(5, 1), 15);
        due("cellOf(6, 1)", x.cellOf(6, 1), 9);
        due("cellOf(9, 2)", x.cellOf(9, 2), 0);
        due("cellOf(9, 3)", x.cellOf(9, 3), 7);
        due("cellOf(15, 2)", x.cellOf(15, 2), 15);
        due("cellOf(15, 3)", x.cellOf(15, 3), 1);
        due("cellOf(0, 4)", x.cellOf(0, 4), 0);
        due("cellOf(2, 4)", x.cellOf(2, 4), 4);
        due("cellOf(15, 4)", x.cellOf(15, 4), NOT_FOUND);
        due("cellOf(0, 5) without a way", x.cellOf(0, 5), 0);
        due("cellOf(0, 6) of a walk that failed", x.cellOf(0, 6), NOT_FOUND);
        x.door(1, 2, UP);
        int[] onWay = {1, 0, 1, 0, 1, 1, 1, 0, 0, 0, 0, 0, 0, 0, 0, 0};
        int[] visits = {1, 0, 1, 0, 1, 2, 1, 0, 0, 1, 0, 0, 0, 0, 0, 0};
        for (int cell = 0; cell < 16; cell++) {
            due("cellOf(" + cell + ", 5)", x.cellOf(cell, 5), onWay[cell]);
            due("cellOf(" + cell + ", 6)", x.cellOf(cell, 6), visits[cell]);
        }
        due("cellOf(-1, 0)", x.cellOf(-1, 0), INVALID);
        due("cellOf(16, 0)", x.cellOf(16, 0), INVALID);
        due("cellOf(0, -1)", x.cellOf(0, -1), INVALID);
        due("cellOf(0, 7)", x.cellOf(0, 7), INVALID);
    }

    private static void promise10DoorOf() {
        PortraitMazes x = picture("123/456", 6);
        due("doorOf(0, 0)", x.doorOf(0, 0), 0);
        due("doorOf(0, 1)", x.doorOf(0, 1), LEFT);
        due("doorOf(1, 0)", x.doorOf(1, 0), 5);
        due("doorOf(1, 1)", x.doorOf(1, 1), RIGHT);
        x.door(0, 4, DOWN);
        x.door(1, 1, UP);
        due("doorOf(0, 0)", x.doorOf(0, 0), 4);
        due("doorOf(0, 1)", x.doorOf(0, 1), DOWN);
        due("doorOf(1, 0)", x.doorOf(1, 0), 1);
        due("doorOf(1, 1)", x.doorOf(1, 1), UP);
        due("doorOf(-1, 0)", x.doorOf(-1, 0), INVALID);
        due("doorOf(2, 0)", x.doorOf(2, 0), INVALID);
        due("doorOf(0, -1)", x.doorOf(0, -1), INVALID);
        due("doorOf(0, 2)", x.doorOf(0, 2), INVALID);
    }

    private static void promise11Count() {
        PortraitMazes x = picture("12/34/56", 6);
        carve(x, 0, 3);
        x.keep();
        int[] parts = {2, 3, 2, 4, 0, 2, 21, 3, 8, 1};
        for (int what = 0; what < parts.length; what++) {
            due("count(" + what + ")", x.count(what), parts[what]);
        }
        x.build();
        int[] whole = {2, 3, 5, 1, 1, 2, 21, 4, 8, 1};
        for (int what = 0; what < whole.length; what++) {
            due("count(" + what + ") of a whole one", x.count(what), whole[what]);
        }
        due("count(-1)", x.count(-1), INVALID);
        due("count(10)", x.count(10), INVALID);
    }

    private static void promise12Way() {
        PortraitMazes x = new PortraitMazes();
        due("way(0) without a way", x.way(0), NOT_FOUND);
        due("way(-1)", x.way(-1), INVALID);
        carve(x, 1, 8, 3, 10);
        x.door(1, 1, UP);
        dueWay(x, 0, 4, 5, 1);
        due("way(4)", x.way(4), NOT_FOUND);
        due("way(MAX)", x.way(Integer.MAX_VALUE), NOT_FOUND);
        due("way(MIN)", x.way(Integer.MIN_VALUE), INVALID);
        x.door(1, 0, UP);
        dueWay(x, 0);
    }

    private static void promise13Drawn() {
        PortraitMazes x = new PortraitMazes();
        x.tone(5, 9);
        due("drawn(0) without a way", x.drawn(0), NOT_FOUND);
        due("drawn(1) without a way", x.drawn(1), 9);
        due("drawn(2) without a way", x.drawn(2), NOT_FOUND);
        due("drawn(3) without a way", x.drawn(3), NOT_FOUND);
        due("drawn(4) without a way", x.drawn(4), NOT_FOUND);
        x.door(1, 0, UP);
        due("drawn(0) of one cell", x.drawn(0), 1);
        due("drawn(2) of one cell", x.drawn(2), 1);
        due("drawn(4) of one cell", x.drawn(4), 0);
        carve(x, 0);
        due("drawn(2), ahead comes before the exit to the left", x.drawn(2), 3);
        x.wall(0, RIGHT);
        x.door(0, 4, LEFT);
        carve(x, 8, 10, 11, 3, 1);
        due("drawn(0)", x.drawn(0), 2);
        due("drawn(1)", x.drawn(1), 27);
        due("cellOf(5, 6)", x.cellOf(5, 6), 4);
        due("drawn(2)", x.drawn(2), 10);
        due("drawn(3), four visits count as 9", x.drawn(3), 18);
        due("drawn(4)", x.drawn(4), 0);
        x.door(1, 9, RIGHT);
        x.door(1, 2, UP);
        carve(x, 5);
        due("drawn(0)", x.drawn(0), 4);
        due("drawn(4)", x.drawn(4), 1);
        due("drawn(-1)", x.drawn(-1), INVALID);
        due("drawn(5)", x.drawn(5), INVALID);
        walkThatTurnsBack();
    }

    private static void walkThatTurnsBack() {
        PortraitMazes x = new PortraitMazes();
        carve(x, 0, 2, 4);
        due("drawn(2) of a walk that comes back to the entry", x.drawn(2), NOT_FOUND);
        x.door(1, 3, UP);
        due("drawn(2) straight on", x.drawn(2), 4);
        due("drawn(3)", x.drawn(3), 12);
        x.door(1, 1, UP);
        due("drawn(2) there and back", x.drawn(2), 6);
        due("drawn(3)", x.drawn(3), 18);
        due("drawn(0)", x.drawn(0), 2);
    }

    private static void promise14Between() {
        PortraitMazes x = new PortraitMazes();
        carve(x, 0, 3, 8);
        due("between(0, 0)", x.between(0, 0), 0);
        due("between(0, 4)", x.between(0, 4), 3);
        due("between(4, 0)", x.between(4, 0), 3);
        due("between(5, 0)", x.between(5, 0), 2);
        due("between(0, 2)", x.between(0, 2), NOT_FOUND);
        due("between(-1, 0)", x.between(-1, 0), INVALID);
        due("between(0, -1)", x.between(0, -1), INVALID);
        due("between(16, 0)", x.between(16, 0), INVALID);
        due("between(0, 16)", x.between(0, 16), INVALID);
    }

    private static void promise15Farthest() {
        PortraitMazes x = new PortraitMazes();
        dueFarthest(x, NOT_FOUND, NOT_FOUND, NOT_FOUND);
        carve(x, 28);
        dueFarthest(x, 14, 15, 1);
        carve(x, 8, 10, 3, 11);
        dueFarthest(x, 1, 4, 2);
        x.build();
        due("farthest(-1)", x.farthest(-1), INVALID);
        due("farthest(3)", x.farthest(3), INVALID);
        PortraitMazes comb = new PortraitMazes();
        due("farthest(3) without passages", comb.farthest(3), INVALID);
        comb.build();
        dueFarthest(comb, 12, 15, 9);
    }

    private static void promise16Best() {
        PortraitMazes x = picture("99/00", 4);
        due("best(0) of parts", x.best(0), NOT_POSSIBLE);
        due("best(3) of parts", x.best(3), INVALID);
        x.build();
        dueBest(x, 1, 4, 9);
        due("best(-1)", x.best(-1), INVALID);
        due("best(3)", x.best(3), INVALID);
        due("count(7)", x.count(7), 2);
        PortraitMazes other = picture("99/00", 4);
        carve(other, 0, 1, 4);
        dueBest(other, 1, 3, 9);
        other.door(1, 0, UP);
        dueBest(other, 0, 3, 9);
    }

    private static void promise17BestExit() {
        PortraitMazes x = new PortraitMazes();
        dueBestExit(x, 0, UP, 9);
        x.door(0, 0, UP);
        dueBestExit(x, 0, LEFT, 9);
        x.door(0, 1, UP);
        dueBestExit(x, NOT_FOUND, NOT_FOUND, NOT_FOUND);
        carve(x, 2);
        dueBestExit(x, 2, UP, 18);
        carve(x, 4);
        dueBestExit(x, 2, UP, 18);
        x.tone(3, 9);
        x.tone(2, 6);
        dueBestExit(x, 3, UP, 12);
        due("bestExit(-1)", x.bestExit(-1), INVALID);
        due("bestExit(3)", x.bestExit(3), INVALID);
        x.door(0, 5, UP);
        PortraitMazes corner = picture("00/99", 4);
        carve(corner, 1, 4);
        dueBestExit(corner, 3, RIGHT, 9);
        corner.door(1, 3, DOWN);
        corner.door(0, 3, RIGHT);
        dueBestExit(corner, 2, DOWN, 0);
        corner.wall(2, RIGHT);
        dueBestExit(corner, 3, DOWN, 9);
    }

    private static void promise18Keep() {
        PortraitMazes x = new PortraitMazes();
        due("keep()", x.keep(), 0);
        due("count(9)", x.count(9), 1);
        due("count(7), no change", x.count(7), 0);
        carve(x, 0, 2);
        due("keep() in its place", x.keep(), 2);
        x.wall(0, RIGHT);
        due("restore()", x.restore(), 2);
        due("cellOf(0, 1)", x.cellOf(0, 1), 2);
    }

    private static void promise19Restore() {
        PortraitMazes x = new PortraitMazes();
        due("restore() of none", x.restore(), NOT_POSSIBLE);
        due("count(7)", x.count(7), 0);
        x.tone(3, 7);
        x.door(0, 3, UP);
        carve(x, 4);
        x.keep();
        type(x, "12/34");
        due("read()", x.read(), 4);
        carve(x, 0);
        due("restore()", x.restore(), 1);
        due("count(0)", x.count(0), 4);
        due("count(1)", x.count(1), 4);
        due("count(6)", x.count(6), 7);
        due("count(8), the text stays", x.count(8), 5);
        due("doorOf(0, 0)", x.doorOf(0, 0), 3);
        due("doorOf(0, 1)", x.doorOf(0, 1), UP);
        due("doorOf(1, 0)", x.doorOf(1, 0), 15);
        due("cellOf(2, 1)", x.cellOf(2, 1), 2);
        x.tone(3, 1);
        due("restore() once more", x.restore(), 1);
        due("cellOf(3, 0)", x.cellOf(3, 0), 7);
        due("undo(), restore is a change", x.undo(), 3);
        due("cellOf(3, 0)", x.cellOf(3, 0), 1);
        due("count(9)", x.count(9), 1);
    }

    private static void promise20Undo() {
        PortraitMazes x = new PortraitMazes();
        due("undo() of none", x.undo(), NOT_POSSIBLE);
        for (int tone = 1; tone <= 6; tone++) {
            x.tone(0, tone);
            due("count(7)", x.count(7), Math.min(tone, 4));
        }
        for (int left = 3; left >= 0; left--) {
            due("undo()", x.undo(), left);
            due("cellOf(0, 0)", x.cellOf(0, 0), left + 2);
        }
        due("undo() of none any more", x.undo(), NOT_POSSIBLE);
        due("cellOf(0, 0)", x.cellOf(0, 0), 2);
        type(x, "99/99/99");
        due("read()", x.read(), 6);
        x.door(0, 1, UP);
        x.build();
        x.keep();
        due("undo()", x.undo(), 2);
        due("count(2)", x.count(2), 0);
        due("undo()", x.undo(), 1);
        due("doorOf(0, 0)", x.doorOf(0, 0), 0);
        due("undo()", x.undo(), 0);
        due("count(1)", x.count(1), 4);
        due("doorOf(1, 0)", x.doorOf(1, 0), 15);
        due("cellOf(0, 0)", x.cellOf(0, 0), 2);
        due("count(8), the text is not undone", x.count(8), 8);
        due("count(9), the snapshot is not undone", x.count(9), 1);
        due("restore()", x.restore(), 5);
        due("count(1)", x.count(1), 3);
    }

    private static void promise21Type() {
        PortraitMazes x = new PortraitMazes();
        due("type(31)", x.type(31), INVALID);
        due("type(127)", x.type(127), INVALID);
        due("type(32)", x.type(32), 1);
        due("type(126)", x.type(126), 2);
        for (int length = 3; length <= 60; length++) {
            due("type(48)", x.type(48), length);
        }
        due("type(48), the 61st", x.type(48), LIMIT);
        due("type(31), the 61st", x.type(31), INVALID);
        due("count(8)", x.count(8), 60);
        due("count(7), no change", x.count(7), 0);
    }

    private static void promise22ClearText() {
        PortraitMazes x = new PortraitMazes();
        due("clearText() of none", x.clearText(), 0);
        type(x, "ab");
        due("clearText()", x.clearText(), 2);
        due("count(8)", x.count(8), 0);
        due("clearText() again", x.clearText(), 0);
        due("fault(0)", x.fault(0), 0);
        due("count(7), no change", x.count(7), 0);
    }

    private static void promise23Fault() {
        String good = "123456/123456/123456/123456/123456/123456";
        dueFault(good, NOT_FOUND, NOT_FOUND);
        dueFault("12/34", NOT_FOUND, NOT_FOUND);
        dueFault("09/90/00", NOT_FOUND, NOT_FOUND);
        dueFault("", 0, 1);
        dueFault("/", 0, 1);
        dueFault("12/3", 4, 1);
        dueFault("12/", 3, 1);
        dueFault("12/3/", 4, 1);
        dueFault("12/345", 5, 1);
        dueFault("12//", 3, 1);
        dueFault("12/34/", 6, 1);
        dueFault("1a/34", 1, 1);
        dueFault("12/3:", 4, 1);
        dueFault("12.34", 2, 1);
        dueFault("0123456", 6, 2);
        dueFault("0123456/", 6, 2);
        dueFault("0123456a", 6, 2);
        dueFault(good + "/", 41, 3);
        dueFault(good + "/1", 41, 3);
        dueFault(good + "1", 41, 1);
        dueFault("11/11/11/11/11/11/", 17, 3);
        dueFault("11/11/11/11/11/1/", 16, 1);
        dueFault("1/1/1/1/1/1/", 11, 3);
        dueFault("1", 1, 4);
        dueFault("123", 3, 4);
        dueFault("1/2/3", 5, 4);
        dueFault("1/2/", 4, 1);
        dueFault("1/23", 3, 1);
        dueFault("1/2a", 3, 1);
        PortraitMazes x = new PortraitMazes();
        due("fault(-1)", x.fault(-1), INVALID);
        due("fault(2)", x.fault(2), INVALID);
        type(x, "12/34");
        due("fault(2) without a fault", x.fault(2), INVALID);
    }

    private static void promise24Read() {
        PortraitMazes x = new PortraitMazes();
        due("read() of none", x.read(), NOT_POSSIBLE);
        x.door(0, 3, UP);
        carve(x, 0);
        type(x, "123/456");
        due("read()", x.read(), 6);
        due("count(0)", x.count(0), 3);
        due("count(1)", x.count(1), 2);
        due("count(2)", x.count(2), 0);
        due("count(7)", x.count(7), 3);
        due("count(8), the text stays", x.count(8), 7);
        for (int cell = 0; cell < 6; cell++) {
            due("tone of " + cell, x.cellOf(cell, 0), cell + 1);
        }
        due("cellOf(6, 0)", x.cellOf(6, 0), INVALID);
        due("doorOf(0, 0)", x.doorOf(0, 0), 0);
        due("doorOf(0, 1)", x.doorOf(0, 1), LEFT);
        due("doorOf(1, 0)", x.doorOf(1, 0), 5);
        due("doorOf(1, 1)", x.doorOf(1, 1), RIGHT);
        type(x, "123/45");
        due("read() with a fault", x.read(), NOT_POSSIBLE);
        due("count(7)", x.count(7), 3);
        due("undo()", x.undo(), 2);
        due("count(0)", x.count(0), 4);
        due("cellOf(0, 1)", x.cellOf(0, 1), 2);
        due("doorOf(0, 0)", x.doorOf(0, 0), 3);
        picture("987654/123456/123456/123456/123456/123450", 36);
    }

    public static void main(String[] args) {
        run("the constants", PromiseTest::constants);
        run("promise 1", PromiseTest::promise1NewObject);
        run("promise 2", PromiseTest::promise2Tone);
        run("promise 3", PromiseTest::promise3Carve);
        run("promise 4", PromiseTest::promise4Wall);
        run("promise 5", PromiseTest::promise5Door);
        run("promise 6", PromiseTest::promise6Build);
        run("promise 7", PromiseTest::promise7Exchange);
        run("promise 8", PromiseTest::promise8Improve);
        run("promise 9", PromiseTest::promise9CellOf);
        run("promise 10", PromiseTest::promise10DoorOf);
        run("promise 11", PromiseTest::promise11Count);
        run("promise 12", PromiseTest::promise12Way);
        run("promise 13", PromiseTest::promise13Drawn);
        run("promise 14", PromiseTest::promise14Between);
        run("promise 15", PromiseTest::promise15Farthest);
        run("promise 16", PromiseTest::promise16Best);
        run("promise 17", PromiseTest::promise17BestExit);
        run("promise 18", PromiseTest::promise18Keep);
        run("promise 19", PromiseTest::promise19Restore);
        run("promise 20", PromiseTest::promise20Undo);
        run("promise 21", PromiseTest::promise21Type);
        run("promise 22", PromiseTest::promise22ClearText);
        run("promise 23", PromiseTest::promise23Fault);
        run("promise 24", PromiseTest::promise24Read);
        end();
    }
}
