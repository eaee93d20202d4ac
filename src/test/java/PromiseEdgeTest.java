/** The boundary cases that the document names in its promises 1 to 24. */
public final class PromiseEdgeTest extends Edges {
    private static final String RANGE = "INVALID_ARGUMENT if an argument is out of range";
    private static final String WHAT_RANGE = "INVALID_ARGUMENT if what is out of range";
    private static final String CELL = "`cell`: number of the cell";
    private static final String NOT_WHOLE = "NOT_POSSIBLE if the maze is not whole";

    private static PortraitMazes light() {
        return picture("00/00", 4);
    }

    /** Passages, a way, a snapshot, so that every call answers something. */
    private static PortraitMazes lively() {
        PortraitMazes x = picture("123/456/789", 9);
        x.build();
        x.keep();
        return x;
    }

    // ---- promise 1

    private static void newObject() {
        PortraitMazes x = new PortraitMazes();
        dueCounts(x, 4, 4, 0, 16, 0, 0, 0, 0, 0, 0);
        for (int cell = 0; cell < 16; cell++) {
            due("tone of " + cell, x.cellOf(cell, 0), 0);
            due("passages of " + cell, x.cellOf(cell, 1), 0);
        }
        dueDoors(x, 0, LEFT, 15, RIGHT);
        due("undo()", x.undo(), NOT_POSSIBLE);
        due("restore()", x.restore(), NOT_POSSIBLE);
        due("read()", x.read(), NOT_POSSIBLE);
    }

    private static void objectsAreApart() {
        PortraitMazes one = new PortraitMazes();
        one.tone(0, 9);
        one.keep();
        one.type('1');
        dueCounts(new PortraitMazes(), 4, 4, 0, 16, 0, 0, 0, 0, 0, 0);
        dueCounts(one, 4, 4, 0, 16, 0, 0, 9, 1, 1, 1);
    }

    // ---- promise 2

    private static void toneCells() {
        PortraitMazes x = lively();
        dueRange("tone(.., 3)", 0, 8, cell -> x.tone(cell, 3));
    }

    private static void toneTones() {
        PortraitMazes x = lively();
        dueRange("tone(8, ..)", 0, 9, tone -> x.tone(8, tone));
        due("cellOf(8, 0)", x.cellOf(8, 0), 9);
        due("tone(8, 0)", x.tone(8, 0), 9);
        due("cellOf(8, 0)", x.cellOf(8, 0), 0);
    }

    private static void toneBoth() {
        PortraitMazes x = lively();
        due("tone(9, 10)", x.tone(9, 10), INVALID);
        due("tone(-1, -1)", x.tone(-1, -1), INVALID);
        due("tone(MAX, MIN)", x.tone(Integer.MAX_VALUE, Integer.MIN_VALUE), INVALID);
        due("cellOf(8, 0)", x.cellOf(8, 0), 9);
    }

    private static void toneAgain() {
        PortraitMazes x = new PortraitMazes();
        due("tone(0, 0)", x.tone(0, 0), 0);
        due("tone(0, 9)", x.tone(0, 9), 0);
        due("tone(0, 9)", x.tone(0, 9), 9);
        due("tone(0, 0)", x.tone(0, 0), 9);
    }

    // ---- promise 3

    private static void carveCells() {
        PortraitMazes x = lively();
        dueRange("carve(.., UP)", 0, 8, cell -> x.carve(cell, UP));
    }

    private static void carveDirections() {
        PortraitMazes x = lively();
        dueRange("carve(4, ..)", 0, 3, direction -> x.carve(4, direction));
        PortraitMazes none = new PortraitMazes();
        dueRange("carve(5, ..)", 0, 3, direction -> none.carve(5, direction));
        due("cellOf(5, 1)", none.cellOf(5, 1), 15);
    }

    private static void carveDownToOnePart() {
        PortraitMazes x = light();
        due("carve(0, RIGHT)", x.carve(0, RIGHT), 3);
        due("carve(2, UP)", x.carve(2, UP), 2);
        due("carve(3, LEFT)", x.carve(3, LEFT), 1);
    }

    private static void carveWithoutACell() {
        PortraitMazes x = light();
        int[][] outwards = {{UP, LEFT}, {UP, RIGHT}, {DOWN, LEFT}, {DOWN, RIGHT}};
        for (int cell = 0; cell < 4; cell++) {
            for (int direction : outwards[cell]) {
                due("carve(" + cell + ", " + direction + ")", x.carve(cell, direction), NOT_POSSIBLE);
            }
        }
        due("count(2)", x.count(2), 0);
    }

    private static void carveJoinedAlready() {
        PortraitMazes x = light();
        carve(x, 0);
        due("carve(0, RIGHT), by this passage", x.carve(0, RIGHT), NOT_POSSIBLE);
        due("carve(1, LEFT), by this passage", x.carve(1, LEFT), NOT_POSSIBLE);
        carve(x, 1, 3);
        due("carve(2, RIGHT), by three others", x.carve(2, RIGHT), NOT_POSSIBLE);
        due("carve(3, LEFT), by three others", x.carve(3, LEFT), NOT_POSSIBLE);
        due("count(2)", x.count(2), 3);
        x.wall(0, RIGHT);
        due("carve(2, RIGHT), not joined any more", x.carve(2, RIGHT), 1);
    }

    // ---- promise 4

    private static void wallCells() {
        PortraitMazes x = lively();
        dueRange("wall(.., UP)", 0, 8, cell -> x.wall(cell, UP));
    }

    private static void wallDirections() {
        PortraitMazes x = lively();
        dueRange("wall(4, ..)", 0, 3, direction -> x.wall(4, direction));
        due("cellOf(4, 1)", x.cellOf(4, 1), 0);
    }

    private static void wallUpToAllParts() {
        PortraitMazes x = light();
        x.build();
        due("wall(0, RIGHT)", x.wall(0, RIGHT), 2);
        due("wall(2, UP)", x.wall(2, UP), 3);
        due("wall(3, UP)", x.wall(3, UP), 4);
        due("count(2)", x.count(2), 0);
    }

    private static void wallWithoutAPassage() {
        PortraitMazes x = light();
        due("wall(0, RIGHT), a wall", x.wall(0, RIGHT), NOT_POSSIBLE);
        carve(x, 0);
        due("wall(0, DOWN), a wall", x.wall(0, DOWN), NOT_POSSIBLE);
        due("wall(0, UP), the border", x.wall(0, UP), NOT_POSSIBLE);
        due("wall(0, LEFT), the entry", x.wall(0, LEFT), NOT_POSSIBLE);
        due("wall(3, RIGHT), the exit", x.wall(3, RIGHT), NOT_POSSIBLE);
        due("wall(1, LEFT)", x.wall(1, LEFT), 4);
        due("wall(0, RIGHT), from the other end", x.wall(0, RIGHT), NOT_POSSIBLE);
    }

    // ---- promise 5

    private static void doorDoors() {
        PortraitMazes x = lively();
        dueRange("door(.., 2, UP)", 0, 1, door -> x.door(door, 2, UP));
    }

    private static void doorCells() {
        PortraitMazes x = lively();
        dueRange("door(0, .., UP)", 0, 8, cell -> x.door(0, cell, UP));
    }

    private static void doorSides() {
        PortraitMazes x = lively();
        dueRange("door(1, 0, ..)", 0, 3, side -> x.door(1, 0, side));
    }

    private static void doorAtACellsSide() {
        PortraitMazes x = new PortraitMazes();
        for (int side = UP; side <= LEFT; side++) {
            due("door(0, 5, " + side + "), all around", x.door(0, 5, side), NOT_POSSIBLE);
        }
        due("door(0, 1, DOWN)", x.door(0, 1, DOWN), NOT_POSSIBLE);
        due("door(0, 4, RIGHT)", x.door(0, 4, RIGHT), NOT_POSSIBLE);
        due("door(0, 3, LEFT)", x.door(0, 3, LEFT), NOT_POSSIBLE);
        due("door(0, 12, UP)", x.door(0, 12, UP), NOT_POSSIBLE);
        due("door(0, 3, RIGHT)", x.door(0, 3, RIGHT), 0);
        due("door(0, 12, DOWN)", x.door(0, 12, DOWN), 3);
    }

    private static void doorAtTheOther() {
        PortraitMazes x = new PortraitMazes();
        due("door(1, 0, LEFT)", x.door(1, 0, LEFT), NOT_POSSIBLE);
        due("door(0, 15, RIGHT)", x.door(0, 15, RIGHT), NOT_POSSIBLE);
        due("door(1, 0, UP), its cell, another side", x.door(1, 0, UP), 15);
        due("door(0, 0, UP)", x.door(0, 0, UP), NOT_POSSIBLE);
        due("door(0, 15, RIGHT), free now", x.door(0, 15, RIGHT), 0);
    }

    private static void doorWhereItIs() {
        PortraitMazes x = new PortraitMazes();
        due("door(0, 0, LEFT)", x.door(0, 0, LEFT), 0);
        due("door(1, 15, RIGHT)", x.door(1, 15, RIGHT), 15);
        due("door(1, 15, DOWN), at the same cell", x.door(1, 15, DOWN), 15);
        dueDoors(x, 0, LEFT, 15, DOWN);
    }

    // ---- promise 6

    private static void buildOfAWholeMaze() {
        PortraitMazes x = light();
        due("build()", x.build(), 3);
        due("build() again", x.build(), NOT_POSSIBLE);
        PortraitMazes carved = light();
        carve(carved, 0, 1, 4);
        due("build() of a carved one", carved.build(), NOT_POSSIBLE);
    }

    private static void buildOfOneOrAll() {
        PortraitMazes x = light();
        carve(x, 0, 1);
        due("build() of one passage", x.build(), 1);
        due("build() of 35 passages", picture(LARGEST, 36).build(), 35);
    }

    // ---- promise 7

    private static void exchangeNotWhole() {
        due("exchange() without passages", new PortraitMazes().exchange(), NOT_POSSIBLE);
        PortraitMazes x = picture("99/00", 4);
        carve(x, 1, 4);
        due("exchange() of two parts", x.exchange(), NOT_POSSIBLE);
        due("count(2)", x.count(2), 2);
    }

    private static void exchangeNoBetter() {
        PortraitMazes x = light();
        x.build();
        due("exchange() of equal ones", x.exchange(), NOT_POSSIBLE);
        PortraitMazes worse = light();
        carve(worse, 0, 1, 3);
        worse.door(1, 1, RIGHT);
        due("best(2)", worse.best(2), 18);
        due("exchange(), all are as good or worse", worse.exchange(), NOT_POSSIBLE);
        due("cellOf(0, 1)", worse.cellOf(0, 1), 6);
    }

    private static void exchangeLastBetter() {
        PortraitMazes x = picture("99/00", 4);
        carve(x, 0, 1, 4);
        due("exchange()", x.exchange(), 9);
        due("drawn(1)", x.drawn(1), 9);
        due("exchange() again", x.exchange(), NOT_POSSIBLE);
    }

    // ---- promise 8

    private static void improveNotWhole() {
        PortraitMazes x = picture("99/00", 4);
        due("improve() without passages", x.improve(), NOT_POSSIBLE);
        carve(x, 1, 4);
        due("improve() of two parts", x.improve(), NOT_POSSIBLE);
    }

    private static void improveNone() {
        PortraitMazes x = light();
        x.build();
        due("improve()", x.improve(), 0);
        due("cellOf(0, 1)", x.cellOf(0, 1), 6);
    }

    private static void improveUntilNoBetter() {
        PortraitMazes x = picture("000000/000000/000000/000000/000000/000000", 36);
        for (int cell = 0; cell < 36; cell++) {
            if (cell % 6 < 5) {
                carve(x, 2 * cell);
            }
        }
        carve(x, 2 * 5 + 1, 2 * 6 + 1, 2 * 17 + 1, 2 * 18 + 1, 2 * 29 + 1);
        due("improve()", x.improve(), 2);
        due("exchange() then", x.exchange(), NOT_POSSIBLE);
        due("improve() then", x.improve(), 0);
    }

    // ---- promise 9

    private static void cellOfCells() {
        PortraitMazes x = lively();
        for (int what = 0; what <= 6; what++) {
            int number = what;
            dueRange("cellOf(.., " + what + ")", 0, 8, cell -> x.cellOf(cell, number));
        }
    }

    private static void cellOfWhats() {
        PortraitMazes x = lively();
        dueRange("cellOf(8, ..)", 0, 6, what -> x.cellOf(8, what));
    }

    private static void cellOfNoAndAllPassages() {
        PortraitMazes x = new PortraitMazes();
        due("cellOf(5, 1)", x.cellOf(5, 1), 0);
        due("cellOf(5, 2), its own part", x.cellOf(5, 2), 5);
        due("cellOf(5, 3), its own part", x.cellOf(5, 3), 1);
        carve(x, 23);
        due("cellOf(15, 2), one passage, to the lowest", x.cellOf(15, 2), 11);
        x.wall(15, UP);
        carve(x, 3, 8, 10, 11);
        due("cellOf(5, 1)", x.cellOf(5, 1), 15);
        due("cellOf(9, 2)", x.cellOf(9, 2), 1);
        due("cellOf(15, 3), its own part", x.cellOf(15, 3), 1);
        due("cellOf(9, 3)", x.cellOf(9, 3), 5);
        due("cellOf(15, 2), its own part", x.cellOf(15, 2), 15);
        x.build();
        due("cellOf(15, 2), all one part", x.cellOf(15, 2), 0);
        due("cellOf(15, 3), all one part", x.cellOf(15, 3), 16);
    }

    private static void cellOfNotJoinedWithTheEntry() {
        PortraitMazes x = new PortraitMazes();
        due("cellOf(0, 4), the entry's", x.cellOf(0, 4), 0);
        due("cellOf(1, 4)", x.cellOf(1, 4), NOT_FOUND);
        carve(x, 2);
        due("cellOf(1, 4), joined with another", x.cellOf(1, 4), NOT_FOUND);
        carve(x, 0);
        due("cellOf(2, 4)", x.cellOf(2, 4), 2);
        x.door(0, 2, UP);
        due("cellOf(2, 4), the entry's now", x.cellOf(2, 4), 0);
        due("cellOf(15, 4), the exit's", x.cellOf(15, 4), NOT_FOUND);
    }

    private static void cellOfOnTheWay() {
        PortraitMazes x = light();
        due("cellOf(0, 5) without a way", x.cellOf(0, 5), 0);
        x.build();
        int[] on = {1, 1, 0, 1};
        for (int cell = 0; cell < 4; cell++) {
            due("cellOf(" + cell + ", 5)", x.cellOf(cell, 5), on[cell]);
        }
    }

    private static void cellOfOnTheWayOnceJoined() {
        PortraitMazes x = light();
        due("bestExit(0), the entry's cell alone is joined", x.bestExit(0), 0);
        carve(x, 0, 3);
        due("cellOf(1, 5)", x.cellOf(1, 5), 1);
        due("cellOf(3, 5)", x.cellOf(3, 5), 1);
        due("cellOf(2, 5), not joined", x.cellOf(2, 5), 0);
        x.wall(1, DOWN);
        due("cellOf(1, 5), not joined any more", x.cellOf(1, 5), 0);
    }

    private static void cellOfFailedWalk() {
        PortraitMazes x = light();
        for (int cell = 0; cell < 4; cell++) {
            due("cellOf(" + cell + ", 6)", x.cellOf(cell, 6), NOT_FOUND);
        }
        x.door(1, 0, UP);
        due("cellOf(0, 6)", x.cellOf(0, 6), 1);
        due("cellOf(3, 6), never come to", x.cellOf(3, 6), 0);
    }

    // ---- promise 10

    private static void doorOfDoors() {
        PortraitMazes x = lively();
        dueRange("doorOf(.., 0)", 0, 1, door -> x.doorOf(door, 0));
    }

    private static void doorOfWhats() {
        PortraitMazes x = lively();
        dueRange("doorOf(1, ..)", 0, 1, what -> x.doorOf(1, what));
        dueDoors(x, 0, LEFT, 8, RIGHT);
    }

    // ---- promise 11

    private static void countWhats() {
        PortraitMazes x = lively();
        dueRange("count(..)", 0, 9, x::count);
    }

    private static void countWholeOrNot() {
        PortraitMazes x = light();
        carve(x, 0, 1);
        dueCounts(x, 2, 2, 2, 2, 0);
        carve(x, 4);
        dueCounts(x, 2, 2, 3, 1, 1);
    }

    private static void countJustOnePassage() {
        PortraitMazes x = new PortraitMazes();
        due("count(5) without passages", x.count(5), 0);
        carve(x, 0);
        due("count(5), both ends", x.count(5), 2);
        carve(x, 2);
        due("count(5), not the one between", x.count(5), 2);
        carve(x, 3);
        due("count(5), not the one with three", x.count(5), 3);
    }

    private static void countSumOfTones() {
        due("count(6) of the lightest", light().count(6), 0);
        due("count(6) of the darkest", picture("999999/999999/999999/999999/999999/999999", 36).count(6), 324);
    }

    private static void countSnapshot() {
        PortraitMazes x = new PortraitMazes();
        due("count(9)", x.count(9), 0);
        x.keep();
        due("count(9)", x.count(9), 1);
        x.keep();
        x.restore();
        due("count(9)", x.count(9), 1);
    }

    // ---- promise 12

    private static void wayNegative() {
        PortraitMazes whole = lively();
        PortraitMazes none = new PortraitMazes();
        for (int index : new int[] {-1, -2, -16, -256, Integer.MIN_VALUE + 1, Integer.MIN_VALUE}) {
            due("way(" + index + ")", whole.way(index), INVALID);
            due("way(" + index + ") without a way", none.way(index), INVALID);
        }
        due("way(0)", whole.way(0), 0);
    }

    private static void wayNone() {
        PortraitMazes x = light();
        due("way(0)", x.way(0), NOT_FOUND);
        carve(x, 0);
        due("way(0), not joined yet", x.way(0), NOT_FOUND);
        carve(x, 3);
        due("way(0)", x.way(0), 0);
    }

    private static void wayNotSoMany() {
        PortraitMazes x = light();
        x.build();
        due("way(2), the last one", x.way(2), 3);
        due("way(3)", x.way(3), NOT_FOUND);
        due("way(MAX)", x.way(Integer.MAX_VALUE), NOT_FOUND);
        x.door(1, 0, UP);
        due("way(0), the only one", x.way(0), 0);
        due("way(1)", x.way(1), NOT_FOUND);
    }

    // ---- promise 13

    private static void drawnWhats() {
        PortraitMazes x = lively();
        dueRange("drawn(..)", 0, 4, x::drawn);
    }

    private static void drawnWithoutAWay() {
        PortraitMazes x = picture("12/34", 4);
        due("drawn(0)", x.drawn(0), NOT_FOUND);
        due("drawn(4)", x.drawn(4), NOT_FOUND);
        due("drawn(1), also without a way", x.drawn(1), 10);
        x.door(1, 0, UP);
        due("drawn(0)", x.drawn(0), 1);
        due("drawn(4)", x.drawn(4), 0);
    }

    private static void drawnOfAFailedWalk() {
        PortraitMazes x = picture("12/34", 4);
        due("drawn(2)", x.drawn(2), NOT_FOUND);
        due("drawn(3)", x.drawn(3), NOT_FOUND);
        x.door(1, 0, UP);
        due("drawn(2)", x.drawn(2), 1);
        due("drawn(3)", x.drawn(3), 11);
    }

    private static void drawnTurnsWithoutDoors() {
        PortraitMazes x = picture("000/000/000", 9);
        carve(x, 0, 2);
        x.door(0, 0, UP);
        x.door(1, 2, UP);
        due("drawn(4), up from both", x.drawn(4), 0);
        carve(x, 5);
        x.door(1, 5, RIGHT);
        due("drawn(4), one corner", x.drawn(4), 1);
        carve(x, 11, 14);
        x.door(1, 7, DOWN);
        due("drawn(4), two corners", x.drawn(4), 2);
        PortraitMazes two = light();
        carve(two, 0);
        two.door(1, 1, UP);
        due("drawn(4), one passage", two.drawn(4), 0);
        carve(two, 3);
        two.door(1, 3, RIGHT);
        due("drawn(4), a corner behind the first passage", two.drawn(4), 1);
    }

    // ---- promise 14

    private static void betweenCells() {
        PortraitMazes x = lively();
        dueRange("between(.., 4)", 0, 8, one -> x.between(one, 4));
        dueRange("between(4, ..)", 0, 8, other -> x.between(4, other));
        due("between(9, -1)", x.between(9, -1), INVALID);
    }

    private static void betweenACellAndItself() {
        PortraitMazes x = light();
        due("between(3, 3)", x.between(3, 3), 0);
        x.build();
        due("between(3, 3)", x.between(3, 3), 0);
    }

    private static void betweenNotJoined() {
        PortraitMazes x = light();
        due("between(0, 1)", x.between(0, 1), NOT_FOUND);
        carve(x, 0, 4);
        due("between(1, 0)", x.between(1, 0), 1);
        due("between(1, 3)", x.between(1, 3), NOT_FOUND);
        due("between(3, 1)", x.between(3, 1), NOT_FOUND);
    }

    // ---- promise 15

    private static void farthestWhats() {
        PortraitMazes x = lively();
        dueRange("farthest(..)", 0, 2, x::farthest);
        PortraitMazes none = new PortraitMazes();
        dueRange("farthest(..) without a passage", 0, 2, none::farthest);
    }

    private static void farthestWithoutAPassage() {
        PortraitMazes x = light();
        dueFarthest(x, NOT_FOUND, NOT_FOUND, NOT_FOUND);
        carve(x, 4);
        dueFarthest(x, 2, 3, 1);
        x.wall(2, RIGHT);
        dueFarthest(x, NOT_FOUND, NOT_FOUND, NOT_FOUND);
    }

    private static void farthestLowestLowerCell() {
        PortraitMazes x = new PortraitMazes();
        carve(x, 28, 12, 4);
        dueFarthest(x, 2, 3, 1);
    }

    private static void farthestLowestHigherCell() {
        PortraitMazes x = new PortraitMazes();
        carve(x, 0, 2, 3);
        dueFarthest(x, 0, 2, 2);
        PortraitMazes star = new PortraitMazes();
        carve(star, 3, 8, 10, 11);
        dueFarthest(star, 1, 4, 2);
    }

    // ---- promise 16

    private static void bestWhats() {
        PortraitMazes x = lively();
        dueRange("best(..)", 0, 2, x::best);
        PortraitMazes none = new PortraitMazes();
        dueRange("best(..) of parts", 0, 2, none::best);
    }

    private static void bestNotWhole() {
        PortraitMazes x = light();
        dueBest(x, NOT_POSSIBLE, NOT_POSSIBLE, NOT_POSSIBLE);
        carve(x, 0, 1);
        dueBest(x, NOT_POSSIBLE, NOT_POSSIBLE, NOT_POSSIBLE);
        carve(x, 4);
        dueBest(x, 0, 3, 27);
    }

    private static void bestThoughNoBetter() {
        PortraitMazes x = light();
        x.build();
        due("drawn(1)", x.drawn(1), 27);
        dueBest(x, 0, 4, 27);
        due("exchange()", x.exchange(), NOT_POSSIBLE);
    }

    private static void bestThoughWorse() {
        PortraitMazes x = light();
        x.tone(2, 9);
        carve(x, 1, 4, 3);
        x.door(1, 2, DOWN);
        due("drawn(1)", x.drawn(1), 9);
        dueBest(x, 3, 0, 9);
        x.door(1, 1, UP);
        x.tone(1, 9);
        due("drawn(1)", x.drawn(1), 18);
        x.tone(3, 9);
        due("drawn(1), the best way", x.drawn(1), 9);
        dueBest(x, 1, 0, 27);
    }

    // ---- promise 17

    private static void bestExitWhats() {
        PortraitMazes x = lively();
        dueRange("bestExit(..)", 0, 2, x::bestExit);
    }

    private static void bestExitNotAtTheEntry() {
        PortraitMazes x = new PortraitMazes();
        dueBestExit(x, 0, UP, 9);
        x.door(0, 0, UP);
        dueBestExit(x, 0, LEFT, 9);
        x.door(1, 0, LEFT);
        x.door(0, 15, RIGHT);
        dueBestExit(x, 15, DOWN, 9);
        x.door(0, 15, DOWN);
        dueBestExit(x, 15, RIGHT, 9);
    }

    private static void bestExitWhereTheExitIs() {
        PortraitMazes x = new PortraitMazes();
        x.door(1, 0, UP);
        dueBestExit(x, 0, UP, 9);
    }

    private static void bestExitNone() {
        PortraitMazes x = new PortraitMazes();
        x.door(0, 7, RIGHT);
        dueBestExit(x, NOT_FOUND, NOT_FOUND, NOT_FOUND);
        carve(x, 12);
        dueBestExit(x, NOT_FOUND, NOT_FOUND, NOT_FOUND);
        carve(x, 4);
        dueBestExit(x, NOT_FOUND, NOT_FOUND, NOT_FOUND);
        carve(x, 5);
        dueBestExit(x, 2, UP, 27);
    }

    private static void bestExitJoinedAlone() {
        PortraitMazes x = picture("90/99", 4);
        x.door(0, 1, UP);
        dueBestExit(x, 1, RIGHT, 36);
        carve(x, 0);
        dueBestExit(x, 0, UP, 27);
        x.tone(0, 0);
        dueBestExit(x, 1, RIGHT, 27);
    }

    private static void bestExitLowest() {
        PortraitMazes x = new PortraitMazes();
        x.door(0, 1, UP);
        carve(x, 0, 2);
        dueBestExit(x, 0, UP, 18);
        x.tone(2, 1);
        dueBestExit(x, 2, UP, 17);
        x.tone(3, 9);
        carve(x, 4);
        dueBestExit(x, 3, UP, 17);
    }

    // ---- promises 18 to 20

    private static void keepInPlace() {
        PortraitMazes x = new PortraitMazes();
        due("keep() without passages", x.keep(), 0);
        x.build();
        due("keep() of a whole one", x.keep(), 15);
        x.undo();
        due("restore()", x.restore(), 15);
        x.undo();
        due("keep() in its place", x.keep(), 0);
        x.build();
        due("restore()", x.restore(), 0);
    }

    private static void restoreEverything() {
        PortraitMazes x = new PortraitMazes();
        x.tone(5, 7);
        carve(x, 13);
        x.door(0, 1, UP);
        x.door(1, 12, DOWN);
        x.keep();
        type(x, "98/76");
        x.read();
        x.build();
        due("restore()", x.restore(), 1);
        dueCounts(x, 4, 4, 1, 15, 0, 2, 7, 4, 5, 1);
        dueDoors(x, 1, UP, 12, DOWN);
        due("cellOf(5, 0)", x.cellOf(5, 0), 7);
        due("cellOf(6, 1)", x.cellOf(6, 1), 4);
    }

    private static void restoreFewerRowsThanColumns() {
        PortraitMazes x = picture("123456/789012", 12);
        carve(x, 11, 20);
        x.keep();
        type(x, "12/34/56");
        x.read();
        due("restore()", x.restore(), 2);
        dueCounts(x, 6, 2, 2, 10, 0, 2, 48, 4);
        due("cellOf(11, 0)", x.cellOf(11, 0), 2);
        due("between(5, 10)", x.between(5, 10), 2);
        dueDoors(x, 0, LEFT, 11, RIGHT);
    }

    private static void restoreOfNone() {
        PortraitMazes x = new PortraitMazes();
        due("restore()", x.restore(), NOT_POSSIBLE);
        x.tone(0, 1);
        due("restore(), with a history", x.restore(), NOT_POSSIBLE);
        due("cellOf(0, 0)", x.cellOf(0, 0), 1);
    }

    private static void restoreStays() {
        PortraitMazes x = new PortraitMazes();
        carve(x, 0);
        x.keep();
        for (int time = 1; time <= 6; time++) {
            x.wall(0, RIGHT);
            due("restore() the " + time + ". time", x.restore(), 1);
            x.tone(0, 9);
        }
        due("restore()", x.restore(), 1);
        due("cellOf(0, 0)", x.cellOf(0, 0), 0);
        due("count(9)", x.count(9), 1);
    }

    private static void undoOfNone() {
        PortraitMazes x = new PortraitMazes();
        due("undo()", x.undo(), NOT_POSSIBLE);
        x.keep();
        x.type('1');
        due("undo(), no change yet", x.undo(), NOT_POSSIBLE);
        x.tone(0, 1);
        due("undo()", x.undo(), 0);
        due("undo() again", x.undo(), NOT_POSSIBLE);
    }

    private static void undoRemoves() {
        PortraitMazes x = new PortraitMazes();
        x.tone(0, 1);
        x.tone(0, 2);
        due("undo()", x.undo(), 1);
        due("cellOf(0, 0)", x.cellOf(0, 0), 1);
        x.tone(0, 3);
        due("count(7)", x.count(7), 2);
        due("undo()", x.undo(), 1);
        due("cellOf(0, 0)", x.cellOf(0, 0), 1);
        due("undo()", x.undo(), 0);
        due("cellOf(0, 0)", x.cellOf(0, 0), 0);
    }

    private static void undoFewerColumnsThanRows() {
        PortraitMazes x = picture("12/34/56", 6);
        carve(x, 7);
        x.read();
        due("undo()", x.undo(), 2);
        dueCounts(x, 2, 3, 1, 5, 0, 2, 21, 2);
        due("between(3, 5)", x.between(3, 5), 1);
        due("undo()", x.undo(), 1);
        due("undo(), as many columns as rows", x.undo(), 0);
        dueCounts(x, 4, 4, 0, 16);
        dueDoors(x, 0, LEFT, 15, RIGHT);
    }

    // ---- promises 21 to 24

    private static void typeCharacters() {
        PortraitMazes x = new PortraitMazes();
        for (int character = 32; character <= 126; character++) {
            if (character == 80) {
                due("clearText()", x.clearText(), 48);
            }
            int length = character < 80 ? character - 31 : character - 79;
            due("type(" + character + ")", x.type(character), length);
        }
    }

    private static void typeOutOfRange() {
        PortraitMazes x = new PortraitMazes();
        int[] wrong = {31, 127, 0, -1, 128, 256 + 48, (1 << 16) + 48, -48, Integer.MIN_VALUE, Integer.MAX_VALUE};
        for (int character : wrong) {
            due("type(" + character + ")", x.type(character), INVALID);
        }
        due("count(8)", x.count(8), 0);
        due("type(32)", x.type(32), 1);
        due("type(126)", x.type(126), 2);
    }

    private static void typeIntoAFullText() {
        PortraitMazes x = new PortraitMazes();
        for (int length = 1; length <= 60; length++) {
            due("type(57)", x.type(57), length);
        }
        due("type(57), the 61st", x.type(57), LIMIT);
        due("type(57), once more", x.type(57), LIMIT);
        due("clearText()", x.clearText(), 60);
    }

    private static void clearTextEmptyAndFull() {
        PortraitMazes x = new PortraitMazes();
        due("clearText() of an empty one", x.clearText(), 0);
        type(x, LARGEST + "/123456/123456/1234");
        due("clearText() of a full one", x.clearText(), 60);
        due("clearText() again", x.clearText(), 0);
        due("type(48)", x.type(48), 1);
    }

    private static void faultWhats() {
        PortraitMazes x = new PortraitMazes();
        dueRange("fault(..) of an empty one", 0, 1, x::fault);
        PortraitMazes good = lively();
        dueRange("fault(..) without a fault", 0, 1, good::fault);
    }

    private static void faultOfNone() {
        dueFault("12/34", NOT_FOUND, NOT_FOUND);
        dueFault(LARGEST, NOT_FOUND, NOT_FOUND);
        dueFault("12/3", 4, 1);
    }

    private static void readWithAFault() {
        String[] texts = {"", "1", "12", "1/2", "12/3", "12/345", "12/34/", "1234567/1234567", LARGEST + "/", "12/3x"};
        for (String text : texts) {
            PortraitMazes x = new PortraitMazes();
            carve(x, 0);
            type(x, text);
            due("read() of " + text, x.read(), NOT_POSSIBLE);
            dueCounts(x, 4, 4, 1, 15, 0, 2, 0, 1, text.length(), 0);
        }
    }

    private static void readSizes() {
        picture("00/00", 4);
        picture("00/00/00/00/00/00", 12);
        picture("000000/000000", 12);
        picture(LARGEST, 36);
    }

    private static void readWithoutPassages() {
        PortraitMazes x = new PortraitMazes();
        x.build();
        type(x, "1234/5678/9012/3456");
        due("read() of the same size", x.read(), 16);
        dueCounts(x, 4, 4, 0, 16, 0, 0, 66, 2);
    }

    private static void readDoorsAsAtFirst() {
        PortraitMazes x = new PortraitMazes();
        x.door(0, 15, DOWN);
        x.door(1, 0, UP);
        type(x, "12/34/56");
        x.read();
        dueDoors(x, 0, LEFT, 5, RIGHT);
        x.door(0, 1, UP);
        x.door(1, 4, DOWN);
        x.read();
        dueDoors(x, 0, LEFT, 5, RIGHT);
    }

    private static void readTwice() {
        PortraitMazes x = picture("12/34", 4);
        due("count(8)", x.count(8), 5);
        due("read() again", x.read(), 4);
        due("type, at the end of it", x.type('/'), 6);
        due("read()", x.read(), NOT_POSSIBLE);
    }

    private static void promises1To5() {
        edge("Promise 1", "a light maze of 4 by 4 cells without passages", "all", PromiseEdgeTest::newObject);
        edge("Promise 1", "Creates", "two of them", PromiseEdgeTest::objectsAreApart);

        edge("Promise 2", CELL, "all, too small, too large", PromiseEdgeTest::toneCells);
        edge("Promise 2", "`tone`: 0 to 9", "all, too small, too large", PromiseEdgeTest::toneTones);
        edge("Promise 2", RANGE, "both", PromiseEdgeTest::toneBoth);
        edge("Promise 2", "Returns what it was", "the same again", PromiseEdgeTest::toneAgain);

        edge("Promise 3", CELL, "all, too small, too large", PromiseEdgeTest::carveCells);
        edge("Promise 3", "`direction`: 0 to 3", "all, too small, too large", PromiseEdgeTest::carveDirections);
        edge("Promise 3", RANGE, "cell, direction", PromiseEdgeTest::carveDirections);
        edge("Promise 3", "how many parts there are then", "down to one", PromiseEdgeTest::carveDownToOnePart);
        edge("Promise 3", "if there is no cell beside it there", "borders", PromiseEdgeTest::carveWithoutACell);
        edge("Promise 3", "or both are joined already", "near and far", PromiseEdgeTest::carveJoinedAlready);

        edge("Promise 4", CELL, "all, too small, too large", PromiseEdgeTest::wallCells);
        edge("Promise 4", "`direction`: 0 to 3", "all, too small, too large", PromiseEdgeTest::wallDirections);
        edge("Promise 4", RANGE, "cell, direction", PromiseEdgeTest::wallDirections);
        edge("Promise 4", "how many parts there are then", "up to all", PromiseEdgeTest::wallUpToAllParts);
        edge("Promise 4", "NOT_POSSIBLE if there is no passage", "all kinds", PromiseEdgeTest::wallWithoutAPassage);

        edge("Promise 5", "`door`: 0 or 1", "both, too small, too large", PromiseEdgeTest::doorDoors);
        edge("Promise 5", CELL, "all, too small, too large", PromiseEdgeTest::doorCells);
        edge("Promise 5", "`side`: 0 to 3", "all, too small, too large", PromiseEdgeTest::doorSides);
        edge("Promise 5", RANGE, "side", PromiseEdgeTest::doorSides);
        edge("Promise 5", "if there is a cell beside it on this side", "inside", PromiseEdgeTest::doorAtACellsSide);
        edge("Promise 5", "or the other door is there", "both doors", PromiseEdgeTest::doorAtTheOther);
        edge("Promise 5", "Returns the cell at which it was", "where it is", PromiseEdgeTest::doorWhereItIs);
    }

    private static void promises6To8() {
        edge("Promise 6", "NOT_POSSIBLE if the maze is whole", "whole", PromiseEdgeTest::buildOfAWholeMaze);
        edge("Promise 6", "how many passages are made", "one, all", PromiseEdgeTest::buildOfOneOrAll);

        edge("Promise 7", NOT_WHOLE, "parts", PromiseEdgeTest::exchangeNotWhole);
        edge("Promise 7", "or there is no better one", "none", PromiseEdgeTest::exchangeNoBetter);
        edge("Promise 7", "Returns the fault of the way then", "the last one", PromiseEdgeTest::exchangeLastBetter);

        edge("Promise 8", NOT_WHOLE, "parts", PromiseEdgeTest::improveNotWhole);
        edge("Promise 8", "as long as they are better ones", "none", PromiseEdgeTest::improveNone);
        edge("Promise 8", "as long as they are better ones", "two", PromiseEdgeTest::improveUntilNoBetter);
    }

    private static void promises9To11() {
        edge("Promise 9", CELL, "all, too small, too large", PromiseEdgeTest::cellOfCells);
        edge("Promise 9", "`what`: 0: its tone", "all, too small, too large", PromiseEdgeTest::cellOfWhats);
        edge("Promise 9", RANGE, "what", PromiseEdgeTest::cellOfWhats);
        edge("Promise 9", "its passages, as a set of directions", "none, all", PromiseEdgeTest::cellOfNoAndAllPassages);
        edge("Promise 9", "NOT_FOUND for 4 if it is not joined with the cell of the entry", "joined or not",
            PromiseEdgeTest::cellOfNotJoinedWithTheEntry);
        edge("Promise 9", "1 if it is on the way, otherwise 0", "both", PromiseEdgeTest::cellOfOnTheWay);
        edge("Promise 9", "1 if it is on the way, otherwise 0", "joined later",
            PromiseEdgeTest::cellOfOnTheWayOnceJoined);
        edge("Promise 9", "for 6 if the walk has failed", "failed", PromiseEdgeTest::cellOfFailedWalk);

        edge("Promise 10", "`door`: 0 or 1", "both, too small, too large", PromiseEdgeTest::doorOfDoors);
        edge("Promise 10", "`what`: 0: its cell", "all, too small, too large", PromiseEdgeTest::doorOfWhats);
        edge("Promise 10", RANGE, "what", PromiseEdgeTest::doorOfWhats);

        edge("Promise 11", "`what`: 0: columns", "all, too small, too large", PromiseEdgeTest::countWhats);
        edge("Promise 11", WHAT_RANGE, "what", PromiseEdgeTest::countWhats);
        edge("Promise 11", "1 if the maze is whole, otherwise 0", "both", PromiseEdgeTest::countWholeOrNot);
        edge("Promise 11", "cells with just one passage", "none to three", PromiseEdgeTest::countJustOnePassage);
        edge("Promise 11", "the sum of all tones", "least, greatest", PromiseEdgeTest::countSumOfTones);
        edge("Promise 11", "1 if there is a snapshot, otherwise 0", "both", PromiseEdgeTest::countSnapshot);
    }

    private static void promises12To14() {
        edge("Promise 12", "`index`: 0 for that of the entry, and so on", "0", PromiseEdgeTest::wayNotSoMany);
        edge("Promise 12", "INVALID_ARGUMENT if index is negative", "negative", PromiseEdgeTest::wayNegative);
        edge("Promise 12", "NOT_FOUND if there is no way", "none", PromiseEdgeTest::wayNone);
        edge("Promise 12", "or not so many", "the last one, one more", PromiseEdgeTest::wayNotSoMany);

        edge("Promise 13", "`what`: 0: how many cells the way has", "all", PromiseEdgeTest::drawnWhats);
        edge("Promise 13", WHAT_RANGE, "too small, too large", PromiseEdgeTest::drawnWhats);
        edge("Promise 13", "NOT_FOUND for 0 and 4 if there is no way", "none", PromiseEdgeTest::drawnWithoutAWay);
        edge("Promise 13", "for 2 and 3 if the walk has failed", "failed", PromiseEdgeTest::drawnOfAFailedWalk);
        edge("Promise 13", "from passage to passage", "none to two", PromiseEdgeTest::drawnTurnsWithoutDoors);
        edge("Promise 13", "doors do not count", "doors", PromiseEdgeTest::drawnTurnsWithoutDoors);

        edge("Promise 14", "`one`: number of a cell", "all, too small, too large", PromiseEdgeTest::betweenCells);
        edge("Promise 14", "`other`: number of a cell", "all, too small, too large", PromiseEdgeTest::betweenCells);
        edge("Promise 14", "INVALID_ARGUMENT", "both", PromiseEdgeTest::betweenCells);
        edge("Promise 14", "how many passages", "no passage", PromiseEdgeTest::betweenACellAndItself);
        edge("Promise 14", "NOT_FOUND if they are not joined", "joined or not", PromiseEdgeTest::betweenNotJoined);
    }

    private static void promises15To17() {
        edge("Promise 15", "`what`: 0: the lower one", "all", PromiseEdgeTest::farthestWhats);
        edge("Promise 15", WHAT_RANGE, "too small, too large", PromiseEdgeTest::farthestWhats);
        edge("Promise 15", "NOT_FOUND if there is no passage", "none", PromiseEdgeTest::farthestWithoutAPassage);
        edge("Promise 15", "the one with the lowest lower cell", "three pairs", PromiseEdgeTest::farthestLowestLowerCell);
        edge("Promise 15", "of these with the lowest higher one", "several", PromiseEdgeTest::farthestLowestHigherCell);

        edge("Promise 16", "`what`: 0: the number", "all", PromiseEdgeTest::bestWhats);
        edge("Promise 16", WHAT_RANGE, "too small, too large", PromiseEdgeTest::bestWhats);
        edge("Promise 16", NOT_WHOLE, "four, two, one", PromiseEdgeTest::bestNotWhole);
        edge("Promise 16", "also if it is no better one", "as good", PromiseEdgeTest::bestThoughNoBetter);
        edge("Promise 16", "also if it is no better one", "worse", PromiseEdgeTest::bestThoughWorse);

        edge("Promise 17", "`what`: 0: the cell", "all", PromiseEdgeTest::bestExitWhats);
        edge("Promise 17", WHAT_RANGE, "too small, too large", PromiseEdgeTest::bestExitWhats);
        edge("Promise 17", "(nor the entry)", "the entry's cell", PromiseEdgeTest::bestExitNotAtTheEntry);
        edge("Promise 17", "a cell and a side", "where the exit is", PromiseEdgeTest::bestExitWhereTheExitIs);
        edge("Promise 17", "NOT_FOUND if there is none", "none", PromiseEdgeTest::bestExitNone);
        edge("Promise 17", "whose cell is joined with that of the entry", "joined", PromiseEdgeTest::bestExitJoinedAlone);
        edge("Promise 17", "the cell, of several the lowest", "several", PromiseEdgeTest::bestExitLowest);
        edge("Promise 17", "the side, of several the lowest", "several", PromiseEdgeTest::bestExitLowest);
    }

    private static void promises18To24() {
        edge("Promise 18", "in place of the one that was", "three", PromiseEdgeTest::keepInPlace);

        edge("Promise 19", "NOT_POSSIBLE if there is none", "none", PromiseEdgeTest::restoreOfNone);
        edge("Promise 19", "Restores the state of the snapshot", "all of it", PromiseEdgeTest::restoreEverything);
        edge("Promise 19", "Restores the state of the snapshot", "6 by 2",
            PromiseEdgeTest::restoreFewerRowsThanColumns);
        edge("Promise 19", "which stays", "many times", PromiseEdgeTest::restoreStays);

        edge("Promise 20", "NOT_POSSIBLE if it is empty", "empty", PromiseEdgeTest::undoOfNone);
        edge("Promise 20", "Restores the latest state of the history", "2 by 3, 4 by 4",
            PromiseEdgeTest::undoFewerColumnsThanRows);
        edge("Promise 20", "which is removed from it", "change, undo, change", PromiseEdgeTest::undoRemoves);

        edge("Promise 21", "`character`: 32 to 126", "all", PromiseEdgeTest::typeCharacters);
        edge("Promise 21", "INVALID_ARGUMENT if character is out of range", "wrong", PromiseEdgeTest::typeOutOfRange);
        edge("Promise 21", "LIMIT_REACHED if it has 60 characters", "full", PromiseEdgeTest::typeIntoAFullText);

        edge("Promise 22", "Returns the length it had", "empty, full", PromiseEdgeTest::clearTextEmptyAndFull);

        edge("Promise 23", "`what`: 0: its place", "both", PromiseEdgeTest::faultWhats);
        edge("Promise 23", WHAT_RANGE, "too small, too large", PromiseEdgeTest::faultWhats);
        edge("Promise 23", "NOT_FOUND if the text has no fault", "none", PromiseEdgeTest::faultOfNone);

        edge("Promise 24", "NOT_POSSIBLE if the text has a fault", "all kinds", PromiseEdgeTest::readWithAFault);
        edge("Promise 24", "Returns how many cells there are", "least, greatest", PromiseEdgeTest::readSizes);
        edge("Promise 24", "without passages", "the same size", PromiseEdgeTest::readWithoutPassages);
        edge("Promise 24", "with the doors as at first", "another size, the same", PromiseEdgeTest::readDoorsAsAtFirst);
        edge("Promise 24", "the text stays", "twice", PromiseEdgeTest::readTwice);
    }

    public static void main(String[] args) {
        promises1To5();
        promises6To8();
        promises9To11();
        promises12To14();
        promises15To17();
        promises18To24();
        dueAllPromisesHeld();
        end();
    }
}
