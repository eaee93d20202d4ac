/** The boundary cases that the document names in its terms: the maze, doors, the walk, how it draws, building. */
public final class TermsEdgeTest extends Edges {
    private static final String CELLS = "Cells, passages";
    private static final String DOORS = "Doors, the way";
    private static final String DRAWS = "How it draws";
    private static final String BUILDING = "Building";

    /** Of three by three cells, those at the middle of each side, by direction. */
    private static final int[] MIDDLES = {1, 5, 7, 3};
    private static final int[] STEPS = {-3, 1, 3, -1};
    private static final int[] WALK_STEPS = {-4, 1, 4, -1};

    private static PortraitMazes nine() {
        return picture("000/000/000", 9);
    }

    private static PortraitMazes four(String text) {
        return picture(text, 4);
    }

    private static int turned(int direction, int by) {
        return (direction + by) % 4;
    }

    // ---- What it is

    private static void call512() {
        PortraitMazes x = new PortraitMazes();
        for (int call = 1; call < 512; call++) {
            due("call " + call, x.tone(3, call % 10), (call + 9) % 10 * (call > 1 ? 1 : 0));
        }
        due("undo(), call 512", x.undo(), 3);
        PortraitMazes dear = new PortraitMazes();
        type(dear, "000000/000000/000000/000000/000000/000000");
        dear.read();
        dear.build();
        int calls = 44;
        for (; calls < 511; calls++) {
            due("improve(), call " + (calls + 1), dear.improve(), 0);
        }
        due("best(2), call 512", dear.best(2), 99);
    }

    // ---- Cells, passages

    private static void sizeAtFirst() {
        dueCounts(new PortraitMazes(), 4, 4);
    }

    private static void leastSize() {
        PortraitMazes x = four("12/34");
        dueCounts(x, 2, 2);
        due("build()", x.build(), 3);
        due("tone(3, 0)", x.tone(3, 0), 4);
        due("tone(4, 0)", x.tone(4, 0), INVALID);
    }

    private static void greatestSize() {
        PortraitMazes x = picture(LARGEST, 36);
        dueCounts(x, 6, 6);
        due("build()", x.build(), 35);
        due("tone(35, 0)", x.tone(35, 0), 6);
        due("tone(36, 0)", x.tone(36, 0), INVALID);
    }

    private static void leastColumnsMostRows() {
        PortraitMazes x = picture("12/34/56/78/90/12", 12);
        dueCounts(x, 2, 6);
        due("build()", x.build(), 11);
    }

    private static void mostColumnsLeastRows() {
        PortraitMazes x = picture("123456/789012", 12);
        dueCounts(x, 6, 2);
        due("build()", x.build(), 11);
    }

    private static void sizesRefused() {
        for (String text : new String[] {"1/2", "1", "12", "1234567/1234567", "12/12/12/12/12/12/12"}) {
            PortraitMazes x = new PortraitMazes();
            type(x, text);
            due("read() of " + text, x.read(), NOT_POSSIBLE);
            dueCounts(x, 4, 4);
        }
    }

    private static void numberOfACellByColumns() {
        PortraitMazes wide = picture("123456/789012", 12);
        due("carve(5, DOWN)", wide.carve(5, DOWN), 11);
        due("between(5, 11)", wide.between(5, 11), 1);
        due("tone of the first in the row 1", wide.cellOf(6, 0), 7);
        due("carve(2, UP), in the row 0", wide.carve(2, UP), NOT_POSSIBLE);
        due("carve(8, DOWN), in the row 1", wide.carve(8, DOWN), NOT_POSSIBLE);
        due("carve(8, UP)", wide.carve(8, UP), 10);
        due("between(8, 2)", wide.between(8, 2), 1);
        PortraitMazes high = picture("12/34/56/78/90/12", 12);
        due("carve(1, DOWN)", high.carve(1, DOWN), 11);
        due("between(1, 3)", high.between(1, 3), 1);
        due("tone of the first in the row 1", high.cellOf(2, 0), 3);
        due("carve(4, UP)", high.carve(4, UP), 10);
        due("between(4, 2)", high.between(4, 2), 1);
        due("carve(2, LEFT)", high.carve(2, LEFT), NOT_POSSIBLE);
        due("carve(3, RIGHT)", high.carve(3, RIGHT), NOT_POSSIBLE);
    }

    private static void lightestTone() {
        PortraitMazes x = new PortraitMazes();
        due("tone(0, 0), 0 at first", x.tone(0, 0), 0);
        due("tone(0, -1)", x.tone(0, -1), INVALID);
        due("cellOf(15, 0), 0 at first", x.cellOf(15, 0), 0);
    }

    private static void darkestTone() {
        PortraitMazes x = new PortraitMazes();
        due("tone(0, 9)", x.tone(0, 9), 0);
        due("tone(0, 10)", x.tone(0, 10), INVALID);
        due("cellOf(0, 0)", x.cellOf(0, 0), 9);
    }

    private static void nothingBesideTheBorder() {
        PortraitMazes x = new PortraitMazes();
        for (int i = 0; i < 4; i++) {
            due("carve up at column " + i, x.carve(i, UP), NOT_POSSIBLE);
            due("carve right at row " + i, x.carve(4 * i + 3, RIGHT), NOT_POSSIBLE);
            due("carve down at column " + i, x.carve(12 + i, DOWN), NOT_POSSIBLE);
            due("carve left at row " + i, x.carve(4 * i, LEFT), NOT_POSSIBLE);
        }
        dueCounts(x, 4, 4, 0, 16, 0, 0, 0, 0);
    }

    private static void besideWithinTheBorder() {
        for (int direction = UP; direction <= LEFT; direction++) {
            PortraitMazes x = new PortraitMazes();
            int other = 5 + WALK_STEPS[direction];
            due("carve(5, " + direction + ")", x.carve(5, direction), 15);
            due("between(5, " + other + ")", x.between(5, other), 1);
            due("cellOf(5, 1)", x.cellOf(5, 1), 1 << direction);
            due("cellOf of the other", x.cellOf(other, 1), 1 << turned(direction, 2));
        }
    }

    private static void wallsAtFirst() {
        PortraitMazes x = new PortraitMazes();
        for (int cell = 0; cell < 16; cell++) {
            for (int direction = UP; direction <= LEFT; direction++) {
                due("wall(" + cell + ", " + direction + ")", x.wall(cell, direction), NOT_POSSIBLE);
            }
            due("passages of " + cell, x.cellOf(cell, 1), 0);
        }
    }

    private static void smallestRing() {
        PortraitMazes x = new PortraitMazes();
        carve(x, 0, 1, 3);
        due("carve(4, RIGHT)", x.carve(4, RIGHT), NOT_POSSIBLE);
        due("carve(5, LEFT)", x.carve(5, LEFT), NOT_POSSIBLE);
        due("count(2)", x.count(2), 3);
        due("between(4, 5)", x.between(4, 5), 3);
    }

    private static void ringAlongTheWholeBorder() {
        PortraitMazes x = picture(LARGEST, 36);
        for (int i = 0; i < 5; i++) {
            carve(x, 2 * i, 2 * (30 + i), 2 * (6 * i + 5) + 1);
            if (i > 0) {
                carve(x, 2 * 6 * i + 1);
            }
        }
        due("between(0, 6)", x.between(0, 6), 19);
        due("carve(0, DOWN), all around", x.carve(0, DOWN), NOT_POSSIBLE);
        due("carve(6, UP), all around", x.carve(6, UP), NOT_POSSIBLE);
        due("wall(33, LEFT)", x.wall(33, LEFT), 18);
        due("carve(0, DOWN)", x.carve(0, DOWN), 17);
    }

    private static void wholeWithOnePart() {
        PortraitMazes x = four("00/00");
        dueCounts(x, 2, 2, 0, 4, 0);
        carve(x, 0, 3);
        dueCounts(x, 2, 2, 2, 2, 0);
        carve(x, 4);
        dueCounts(x, 2, 2, 3, 1, 1);
    }

    private static void highestNumberTakenAway() {
        PortraitMazes x = picture("999999/999999/999999/999999/999999/999999", 36);
        x.build();
        due("wall(34, UP)", x.wall(34, UP), 2);
        due("carve(34, RIGHT)", x.carve(34, RIGHT), 1);
        x.door(0, 34, DOWN);
        dueBest(x, 68, 66, 198);
    }

    private static void highestNumberMade() {
        PortraitMazes x = picture("000000/000000/000000/000000/000000/000000", 36);
        x.build();
        x.door(0, 34, DOWN);
        dueBest(x, 8, 68, 18);
    }

    private static void lowestNumber() {
        PortraitMazes x = four("00/00");
        carve(x, 1, 3, 4);
        x.door(1, 1, RIGHT);
        dueBest(x, 1, 0, 18);
        PortraitMazes other = four("99/99");
        carve(other, 0, 1, 3);
        other.door(1, 1, RIGHT);
        dueBest(other, 0, 4, 0);
    }

    private static void oneMoreIfBelow() {
        PortraitMazes x = picture("000000/000000/000000/000000/000000/000000", 36);
        for (int row = 0; row < 6; row++) {
            for (int column = 0; column < 5; column++) {
                carve(x, 2 * (6 * row + column));
            }
            if (row < 5) {
                carve(x, 2 * 6 * row + 1);
            }
        }
        x.door(0, 29, RIGHT);
        dueBest(x, 48, 59, 18);
    }

    // ---- Doors, the way

    private static void doorsAtFirst() {
        dueDoors(new PortraitMazes(), 0, LEFT, 15, RIGHT);
        dueDoors(four("12/34"), 0, LEFT, 3, RIGHT);
        dueDoors(picture(LARGEST, 36), 0, LEFT, 35, RIGHT);
    }

    private static void doorsAtTheBorderAlone() {
        PortraitMazes x = new PortraitMazes();
        for (int cell = 0; cell < 16; cell++) {
            boolean[] border = {cell < 4, cell % 4 == 3, cell >= 12, cell % 4 == 0};
            for (int side = UP; side <= LEFT; side++) {
                boolean free = border[side] && !(cell == 15 && side == RIGHT);
                due("is an error: door(0, " + cell + ", " + side + ")",
                    x.door(0, cell, side) == NOT_POSSIBLE ? 1 : 0, free ? 0 : 1);
            }
        }
    }

    private static void notBehindAPassageToo() {
        PortraitMazes x = new PortraitMazes();
        carve(x, 0);
        due("door(0, 0, RIGHT), a passage", x.door(0, 0, RIGHT), NOT_POSSIBLE);
        due("door(0, 0, DOWN), a wall to a cell", x.door(0, 0, DOWN), NOT_POSSIBLE);
    }

    private static void bothDoorsAtOneSide() {
        PortraitMazes x = new PortraitMazes();
        due("door(0, 15, RIGHT)", x.door(0, 15, RIGHT), NOT_POSSIBLE);
        due("door(1, 0, LEFT)", x.door(1, 0, LEFT), NOT_POSSIBLE);
        dueDoors(x, 0, LEFT, 15, RIGHT);
    }

    private static void bothDoorsAtOneCell() {
        PortraitMazes x = new PortraitMazes();
        due("door(1, 0, UP)", x.door(1, 0, UP), 15);
        due("door(1, 4, LEFT), the same side of another cell", x.door(1, 4, LEFT), 0);
        due("door(0, 15, DOWN)", x.door(0, 15, DOWN), 0);
        due("door(1, 15, RIGHT)", x.door(1, 15, RIGHT), 4);
        dueDoors(x, 15, DOWN, 15, RIGHT);
    }

    private static void shortestWay() {
        PortraitMazes x = new PortraitMazes();
        x.door(1, 0, UP);
        dueWay(x, 0);
        x.door(1, 1, UP);
        dueWay(x);
        carve(x, 0);
        dueWay(x, 0, 1);
    }

    private static void longestWay() {
        PortraitMazes x = picture(LARGEST, 36);
        for (int row = 0; row < 6; row++) {
            for (int column = 0; column < 5; column++) {
                carve(x, 2 * (6 * row + column));
            }
            if (row < 5) {
                carve(x, 2 * (6 * row + (row % 2 == 0 ? 5 : 0)) + 1);
            }
        }
        x.door(1, 30, LEFT);
        due("drawn(0)", x.drawn(0), 36);
        due("way(35)", x.way(35), 30);
        due("way(36)", x.way(36), NOT_FOUND);
        due("drawn(2)", x.drawn(2), 36);
    }

    private static void walkLooksAwayFromTheDoor() {
        for (int side = UP; side <= LEFT; side++) {
            PortraitMazes x = nine();
            int right = turned(side, 3);
            due("door(0, ..)", x.door(0, MIDDLES[side], side), 0);
            due("carve to the right", x.carve(MIDDLES[side], right), 8);
            due("carve to the left", x.carve(MIDDLES[side], turned(side, 1)), 7);
            due("door(1, ..)", x.door(1, MIDDLES[side] + STEPS[right], side), 8);
            due("drawn(2) from the side " + side, x.drawn(2), 2);
        }
    }

    /** A walk that comes to the middle of a cross, and leaves by one of its arms, or would have to come back. */
    private static void dueCross(int exitTurn, int visits) {
        for (int side = UP; side <= LEFT; side++) {
            PortraitMazes x = nine();
            for (int direction = UP; direction <= LEFT; direction++) {
                x.carve(4, direction);
            }
            int exit = turned(side, exitTurn);
            x.door(0, MIDDLES[side], side);
            x.door(1, MIDDLES[exit], exit);
            due("drawn(2) from the side " + side, x.drawn(2), visits);
        }
    }

    private static void walkTurnsRightFirst() {
        dueCross(3, 3);
    }

    private static void walkGoesAheadThen() {
        dueCross(2, 5);
    }

    private static void walkTurnsLeftThen() {
        dueCross(1, 7);
    }

    private static void walkTurnsBackLast() {
        PortraitMazes x = new PortraitMazes();
        carve(x, 0);
        x.door(1, 0, UP);
        due("drawn(2)", x.drawn(2), 3);
        due("cellOf(0, 6)", x.cellOf(0, 6), 2);
        due("cellOf(1, 6)", x.cellOf(1, 6), 1);
    }

    private static void walkPassesTheExit() {
        PortraitMazes x = new PortraitMazes();
        x.door(1, 0, UP);
        due("drawn(2) without a passage", x.drawn(2), 1);
        carve(x, 1);
        due("drawn(2) with a passage that comes first", x.drawn(2), 3);
    }

    private static void walkTakesTheExitFirst() {
        PortraitMazes x = new PortraitMazes();
        x.door(0, 0, UP);
        x.door(1, 0, LEFT);
        carve(x, 0, 1);
        due("drawn(2)", x.drawn(2), 1);
        due("cellOf(1, 6)", x.cellOf(1, 6), 0);
    }

    private static void walkLooksAsBefore() {
        PortraitMazes x = new PortraitMazes();
        carve(x, 0, 2, 3);
        due("drawn(2)", x.drawn(2), NOT_FOUND);
        due("drawn(3)", x.drawn(3), NOT_FOUND);
        due("cellOf(0, 6)", x.cellOf(0, 6), NOT_FOUND);
        due("cellOf(15, 6)", x.cellOf(15, 6), NOT_FOUND);
    }

    private static void walkLooksOtherwise() {
        PortraitMazes x = nine();
        carve(x, 0, 3, 6, 8, 9);
        x.door(1, 0, UP);
        due("drawn(2)", x.drawn(2), 11);
        due("cellOf(4, 6), in all four directions", x.cellOf(4, 6), 4);
    }

    private static void longestWalk() {
        PortraitMazes x = picture("000000/000000/000000/000000/000000/000000", 36);
        x.build();
        x.door(1, 0, UP);
        due("drawn(2), each passage twice", x.drawn(2), 71);
        due("cellOf(0, 6)", x.cellOf(0, 6), 3);
    }

    private static void walkCanGoNowhere() {
        PortraitMazes x = new PortraitMazes();
        for (int cell = 1; cell < 16; cell++) {
            for (int side = UP; side <= LEFT; side++) {
                x.door(1, cell, side);
                due("drawn(2) to " + cell, x.drawn(2), NOT_FOUND);
            }
        }
        due("cellOf(0, 6)", x.cellOf(0, 6), NOT_FOUND);
    }

    private static void walkCannotGoThroughTheEntry() {
        PortraitMazes x = new PortraitMazes();
        carve(x, 0);
        due("drawn(2) back at the entry", x.drawn(2), NOT_FOUND);
        x.door(0, 0, UP);
        carve(x, 1);
        due("drawn(2) back at the entry above", x.drawn(2), NOT_FOUND);
    }

    private static void walkComesToTheBeginning() {
        PortraitMazes x = new PortraitMazes();
        x.door(1, 0, UP);
        due("cellOf(0, 6)", x.cellOf(0, 6), 1);
        due("cellOf(1, 6), not come to", x.cellOf(1, 6), 0);
        due("drawn(2)", x.drawn(2), 1);
    }

    // ---- How it draws

    private static void faultOfTheWayAtACell() {
        int[] faults = {9, 0, 9, 18};
        String[] texts = {"00/00", "90/00", "90/09", "00/09"};
        for (int i = 0; i < texts.length; i++) {
            PortraitMazes x = four(texts[i]);
            x.door(1, 0, UP);
            due("drawn(1) of " + texts[i], x.drawn(1), faults[i]);
        }
    }

    private static void threeVisitsAndMore() {
        PortraitMazes x = nine();
        carve(x, 0, 3, 6, 8, 9);
        x.door(1, 0, UP);
        due("drawn(3), four visits of a light cell are 9", x.drawn(3), 30);
        x.tone(4, 9);
        due("drawn(3), four visits of a dark cell", x.drawn(3), 21);
        x.wall(4, DOWN);
        due("cellOf(4, 6)", x.cellOf(4, 6), 3);
        due("drawn(3), three visits of a dark cell", x.drawn(3), 18);
        x.tone(4, 8);
        due("drawn(3), three visits of a cell of 8", x.drawn(3), 19);
    }

    private static void differenceWithoutASign() {
        PortraitMazes x = new PortraitMazes();
        x.door(1, 0, UP);
        due("drawn(3), one visit of a light cell", x.drawn(3), 3);
        x.tone(0, 3);
        due("drawn(3), one visit of a cell of 3", x.drawn(3), 0);
        x.tone(0, 9);
        due("drawn(3), one visit of a dark cell", x.drawn(3), 6);
        x.tone(1, 9);
        due("drawn(3), no visit of a dark cell", x.drawn(3), 15);
    }

    private static void noWayNoCellOnIt() {
        PortraitMazes x = four("90/09");
        due("drawn(1)", x.drawn(1), 18);
        due("cellOf(0, 5), the entry's", x.cellOf(0, 5), 0);
        due("cellOf(3, 5), the exit's", x.cellOf(3, 5), 0);
        carve(x, 0);
        due("drawn(1), not joined yet", x.drawn(1), 18);
        due("cellOf(1, 5), joined with the entry's alone", x.cellOf(1, 5), 0);
        carve(x, 3);
        due("drawn(1), joined", x.drawn(1), 9);
    }

    private static void failedWalkNoFault() {
        PortraitMazes x = four("90/09");
        due("drawn(3)", x.drawn(3), NOT_FOUND);
        carve(x, 0);
        due("drawn(3), not joined yet", x.drawn(3), NOT_FOUND);
        carve(x, 3);
        due("drawn(3), joined", x.drawn(3), 15);
    }

    // ---- Building

    private static void buildsUntilWhole() {
        PortraitMazes x = new PortraitMazes();
        due("build() from nothing", x.build(), 15);
        due("wall(10, UP)", x.wall(10, UP), 2);
        due("build() of two parts", x.build(), 1);
        dueCounts(x, 4, 4, 15, 1, 1);
    }

    private static void buildsTheGreatestSum() {
        PortraitMazes x = four("90/55");
        x.build();
        due("cellOf(1, 1), by sums", x.cellOf(1, 1), 8);
        due("cellOf(3, 1)", x.cellOf(3, 1), 8);
        PortraitMazes last = four("00/09");
        last.build();
        due("cellOf(3, 1), the last two places first", last.cellOf(3, 1), 9);
        due("cellOf(0, 1)", last.cellOf(0, 1), 2);
    }

    private static void buildsTheLowestOfSeveral() {
        PortraitMazes x = four("77/77");
        x.build();
        due("cellOf(0, 1)", x.cellOf(0, 1), 6);
        due("cellOf(3, 1)", x.cellOf(3, 1), 1);
    }

    private static void buildsAfterAnotherPicture() {
        PortraitMazes x = four("00/91");
        due("build()", x.build(), 3);
        due("read() of the same", x.read(), 4);
        due("build() of the same", x.build(), 3);
        due("cellOf(0, 1) of the same", x.cellOf(0, 1), 4);
        type(x, "000/000");
        x.read();
        due("build()", x.build(), 5);
        due("cellOf(0, 1)", x.cellOf(0, 1), 6);
        type(x, "99/00/99");
        x.read();
        due("build()", x.build(), 5);
        due("cellOf(4, 1)", x.cellOf(4, 1), 3);
        due("cellOf(5, 1)", x.cellOf(5, 1), 8);
    }

    private static void exchangeNotTheSame() {
        PortraitMazes x = four("00/00");
        x.build();
        dueBest(x, 0, 4, 27);
    }

    private static void exchangeLeavesItWhole() {
        PortraitMazes x = four("99/00");
        carve(x, 0, 1, 4);
        due("exchange()", x.exchange(), 9);
        dueCounts(x, 2, 2, 3, 1, 1);
        PortraitMazes light = new PortraitMazes();
        light.build();
        due("best(2), although without a way it would be 0", light.best(2), 63);
    }

    private static void onlyAWholeMazeHasExchanges() {
        PortraitMazes x = four("99/00");
        carve(x, 1, 4);
        dueBest(x, NOT_POSSIBLE, NOT_POSSIBLE, NOT_POSSIBLE);
        due("exchange()", x.exchange(), NOT_POSSIBLE);
        due("improve()", x.improve(), NOT_POSSIBLE);
        carve(x, 0);
        dueBest(x, 1, 3, 9);
        due("improve()", x.improve(), 1);
    }

    private static void equalFaultIsNotBetter() {
        PortraitMazes x = four("00/00");
        x.build();
        due("drawn(1)", x.drawn(1), 27);
        due("best(2)", x.best(2), 27);
        due("exchange()", x.exchange(), NOT_POSSIBLE);
        due("improve()", x.improve(), 0);
        due("cellOf(0, 1)", x.cellOf(0, 1), 6);
    }

    private static void aLittleLessIsBetter() {
        PortraitMazes x = four("00/10");
        carve(x, 0, 1, 3);
        due("drawn(1)", x.drawn(1), 28);
        due("best(2)", x.best(2), 26);
        due("exchange()", x.exchange(), 26);
        due("exchange() again", x.exchange(), NOT_POSSIBLE);
    }

    private static void lowestTakenAwayOfSeveral() {
        PortraitMazes x = four("00/00");
        carve(x, 0, 1, 4);
        dueBest(x, 0, 3, 27);
        PortraitMazes higher = picture("000/000", 6);
        higher.build();
        dueBest(higher, 1, 6, 36);
    }

    private static void lowestMadeOfSeveral() {
        PortraitMazes x = picture("00/00/00", 6);
        carve(x, 0, 1, 5, 3, 7);
        x.door(1, 0, UP);
        dueBest(x, 0, 4, 9);
    }

    private static void leastFaultBeforeLowestNumbers() {
        PortraitMazes x = four("99/00");
        carve(x, 0, 1, 4);
        dueBest(x, 1, 3, 9);
        PortraitMazes made = picture("00/00/90", 6);
        carve(made, 0, 1, 5, 3, 7);
        dueBest(made, 0, 8, 27);
    }

    private static void cellsAndPassages() {
        edge("What it is", "at most 512 calls", "the last one", TermsEdgeTest::call512);
        String sizes = "columns (2 to 6) and rows (2 to 6), 4 and 4 at first";
        edge(CELLS, sizes, "at first", TermsEdgeTest::sizeAtFirst);
        edge(CELLS, sizes, "the least", TermsEdgeTest::leastSize);
        edge(CELLS, sizes, "the greatest", TermsEdgeTest::greatestSize);
        edge(CELLS, sizes, "least columns, most rows", TermsEdgeTest::leastColumnsMostRows);
        edge(CELLS, sizes, "most columns, least rows", TermsEdgeTest::mostColumnsLeastRows);
        edge(CELLS, sizes, "too small and too large", TermsEdgeTest::sizesRefused);
        edge(CELLS, "row * columns + column", "the end of a row", TermsEdgeTest::numberOfACellByColumns);
        edge(CELLS, "0 (light) to 9 (dark), 0 at first", "light", TermsEdgeTest::lightestTone);
        edge(CELLS, "0 (light) to 9 (dark), 0 at first", "dark", TermsEdgeTest::darkestTone);
        String beside = "beside a cell in a direction is the next cell there, if there is one";
        edge(CELLS, beside, "there is none", TermsEdgeTest::nothingBesideTheBorder);
        edge(CELLS, beside, "there is one", TermsEdgeTest::besideWithinTheBorder);
        edge(CELLS, "there is a wall (at first) or a passage", "at first", TermsEdgeTest::wallsAtFirst);
        edge(CELLS, "There is never a ring", "the smallest one", TermsEdgeTest::smallestRing);
        edge(CELLS, "There is never a ring", "along the border", TermsEdgeTest::ringAlongTheWholeBorder);
        edge(CELLS, "The maze is whole if there is one part", "four, two, one", TermsEdgeTest::wholeWithOnePart);
        String number = "2 times the lower one of its cells";
        edge(CELLS, number, "the highest, taken away", TermsEdgeTest::highestNumberTakenAway);
        edge(CELLS, number, "the highest, made", TermsEdgeTest::highestNumberMade);
        edge(CELLS, number, "the lowest", TermsEdgeTest::lowestNumber);
        edge(CELLS, "plus 1 if the other one is below it", "the last such one", TermsEdgeTest::oneMoreIfBelow);
    }

    private static void doorsAndWay() {
        String border = "each at a side of a cell at which there is no cell beside it";
        edge(DOORS, "at first the entry is at the left side", "all sizes", TermsEdgeTest::doorsAtFirst);
        edge(DOORS, border, "all sides of all cells", TermsEdgeTest::doorsAtTheBorderAlone);
        edge(DOORS, border, "passages and walls", TermsEdgeTest::notBehindAPassageToo);
        edge(DOORS, "not both at the same side of the same cell", "refused", TermsEdgeTest::bothDoorsAtOneSide);
        edge(DOORS, "not both at the same side of the same cell", "one of both", TermsEdgeTest::bothDoorsAtOneCell);
        edge(DOORS, "if these are joined (both cells are on it)", "shortest ways", TermsEdgeTest::shortestWay);
        edge(DOORS, "if these are joined (both cells are on it)", "the longest way", TermsEdgeTest::longestWay);
    }

    private static void walks() {
        String turns = "to the right of where it looks, ahead, to the left, back";
        edge(DOORS, "looking away from the door", "all sides", TermsEdgeTest::walkLooksAwayFromTheDoor);
        edge(DOORS, turns, "right", TermsEdgeTest::walkTurnsRightFirst);
        edge(DOORS, turns, "ahead", TermsEdgeTest::walkGoesAheadThen);
        edge(DOORS, turns, "left", TermsEdgeTest::walkTurnsLeftThen);
        edge(DOORS, turns, "back", TermsEdgeTest::walkTurnsBackLast);
        edge(DOORS, "when that direction comes first so", "later", TermsEdgeTest::walkPassesTheExit);
        edge(DOORS, "when that direction comes first so", "first", TermsEdgeTest::walkTakesTheExitFirst);
        edge(DOORS, "looking as it did there before, it has failed", "as before", TermsEdgeTest::walkLooksAsBefore);
        edge(DOORS, "looking as it did there before, it has failed", "otherwise", TermsEdgeTest::walkLooksOtherwise);
        edge(DOORS, "looking as it did there before, it has failed", "longest", TermsEdgeTest::longestWalk);
        edge(DOORS, "so has it if it can go nowhere", "no passage", TermsEdgeTest::walkCanGoNowhere);
        edge(DOORS, "(It cannot go through the entry.)", "back", TermsEdgeTest::walkCannotGoThroughTheEntry);
        edge(DOORS, "the beginning, too", "one cell", TermsEdgeTest::walkComesToTheBeginning);
    }

    private static void draws() {
        String way = "9 less its tone, if it is on the way, otherwise its tone";
        edge(DRAWS, way, "light and dark", TermsEdgeTest::faultOfTheWayAtACell);
        edge(DRAWS, "which counts as 9 at most", "two to four times", TermsEdgeTest::threeVisitsAndMore);
        edge(DRAWS, "the difference, without a sign", "both signs, 0", TermsEdgeTest::differenceWithoutASign);
        edge(DRAWS, "Without a way, no cell is on it", "the doors' cells", TermsEdgeTest::noWayNoCellOnIt);
        edge(DRAWS, "of a walk that has failed there is no fault", "failed", TermsEdgeTest::failedWalkNoFault);
    }

    private static void building() {
        edge(BUILDING, "until the maze is whole", "all and one", TermsEdgeTest::buildsUntilWhole);
        edge(BUILDING, "the greatest sum of both tones", "sums", TermsEdgeTest::buildsTheGreatestSum);
        edge(BUILDING, "of several that with the lowest number", "all alike", TermsEdgeTest::buildsTheLowestOfSeveral);
        edge(BUILDING, "until the maze is whole", "another size", TermsEdgeTest::buildsAfterAnotherPicture);
        edge(BUILDING, "another one (not the same)", "all alike", TermsEdgeTest::exchangeNotTheSame);
        edge(BUILDING, "so that the maze is whole afterwards", "whole", TermsEdgeTest::exchangeLeavesItWhole);
        edge(BUILDING, "only a whole maze has exchanges", "two", TermsEdgeTest::onlyAWholeMazeHasExchanges);
        edge(BUILDING, "if the fault of the way becomes less by it", "equal", TermsEdgeTest::equalFaultIsNotBetter);
        edge(BUILDING, "if the fault of the way becomes less by it", "less", TermsEdgeTest::aLittleLessIsBetter);
        edge(BUILDING, "that with the least fault then", "first", TermsEdgeTest::leastFaultBeforeLowestNumbers);
        edge(BUILDING, "of which the passage taken away has the lowest number", "several",
            TermsEdgeTest::lowestTakenAwayOfSeveral);
        edge(BUILDING, "of these the one made has the lowest number", "several", TermsEdgeTest::lowestMadeOfSeveral);
    }

    public static void main(String[] args) {
        cellsAndPassages();
        doorsAndWay();
        walks();
        draws();
        building();
        end();
    }
}
