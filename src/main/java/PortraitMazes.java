import java.util.Arrays;

/** Mazes whose way from door to door, and the walk along the right hand, draw a picture. */
public final class PortraitMazes {
    public static final int INVALID_ARGUMENT = -1;
    public static final int NOT_POSSIBLE = -2;
    public static final int LIMIT_REACHED = -3;
    public static final int NOT_FOUND = -4;

    private static final int UP = 0;
    private static final int RIGHT = 1;
    private static final int DOWN = 2;
    private static final int LEFT = 3;
    private static final int DIRECTIONS = 4;

    private static final int ENTRY = 0;
    private static final int EXIT = 1;
    private static final int DOORS = 2;

    private static final int FIRST_SIZE = 4;
    private static final int MOST_IN_A_LINE = 6;
    private static final int MOST_CELLS = 36;
    private static final int DARKEST = 9;
    private static final int DARK_OF_ONE_VISIT = 3;

    private static final int MOST_STATES = 4;
    private static final int MOST_CHARACTERS = 60;
    private static final int FIRST_CHARACTER = 32;
    private static final int LAST_CHARACTER = 126;

    /** Stands for a cell, a place of a passage or a direction that there is not. */
    private static final int NONE = -1;

    private final Maze maze;
    private final Maze snapshot;
    private final History history;
    private final Picture text;
    private final Ways ways;
    private final Ways fromEntry;
    private final Ways fromExit;
    private final Walk walk;
    private final Builder builder;
    private final Exchanger exchanger;
    private boolean hasSnapshot;

    public PortraitMazes() {
        maze = new Maze();
        snapshot = new Maze();
        history = new History();
        text = new Picture();
        ways = new Ways();
        fromEntry = new Ways();
        fromExit = new Ways();
        walk = new Walk();
        builder = new Builder();
        exchanger = new Exchanger();
        hasSnapshot = false;
    }

    // ---- tones, passages, doors

    public int tone(int cell, int tone) {
        if (!maze.hasCell(cell) || tone < 0 || tone > DARKEST) {
            return INVALID_ARGUMENT;
        }
        int before = at(maze.tones, cell);
        history.push(maze);
        put(maze.tones, cell, tone);
        return before;
    }

    public int carve(int cell, int direction) {
        if (!maze.hasCell(cell) || !isDirection(direction)) {
            return INVALID_ARGUMENT;
        }
        int other = maze.beside(cell, direction);
        if (other == NONE) {
            return NOT_POSSIBLE;
        }
        ways.findFrom(maze, cell);
        if (ways.reach(other)) {
            return NOT_POSSIBLE;
        }
        history.push(maze);
        maze.setPassage(cell, direction, true);
        return maze.parts();
    }

    public int wall(int cell, int direction) {
        if (!maze.hasCell(cell) || !isDirection(direction)) {
            return INVALID_ARGUMENT;
        }
        if (!maze.hasPassage(cell, direction)) {
            return NOT_POSSIBLE;
        }
        history.push(maze);
        maze.setPassage(cell, direction, false);
        return maze.parts();
    }

    public int door(int door, int cell, int side) {
        if (!isDoor(door) || !maze.hasCell(cell) || !isDirection(side)) {
            return INVALID_ARGUMENT;
        }
        int otherDoor = door == ENTRY ? EXIT : ENTRY;
        if (maze.beside(cell, side) != NONE || maze.isDoorAt(otherDoor, cell, side)) {
            return NOT_POSSIBLE;
        }
        int before = at(maze.doorCells, door);
        history.push(maze);
        put(maze.doorCells, door, cell);
        put(maze.doorSides, door, side);
        return before;
    }

    public int build() {
        if (maze.isWhole()) {
            return NOT_POSSIBLE;
        }
        history.push(maze);
        return builder.joinAllParts(maze);
    }

    public int exchange() {
        if (!maze.isWhole() || !findBetterExchange()) {
            return NOT_POSSIBLE;
        }
        history.push(maze);
        exchanger.apply(maze);
        return exchanger.faultThen;
    }

    public int improve() {
        if (!maze.isWhole()) {
            return NOT_POSSIBLE;
        }
        history.push(maze);
        // Each better exchange takes at least 1 from the fault, which is at most this to begin with.
        int most = MOST_CELLS * DARKEST;
        int made = 0;
        while (made < most && findBetterExchange()) {
            exchanger.apply(maze);
            made++;
        }
        return made;
    }

    // ---- what there is

    public int cellOf(int cell, int what) {
        if (!maze.hasCell(cell)) {
            return INVALID_ARGUMENT;
        }
        switch (what) {
            case 0:
                return at(maze.tones, cell);
            case 1:
                return at(maze.passages, cell);
            case 2:
                ways.findFrom(maze, cell);
                return ways.lowestCell();
            case 3:
                ways.findFrom(maze, cell);
                return ways.cells;
            case 4:
                return between(maze.entryCell(), cell);
            case 5:
                return isOnWay(cell) ? 1 : 0;
            case 6:
                walk.take(maze);
                return walk.failed ? NOT_FOUND : at(walk.visits, cell);
            default:
                return INVALID_ARGUMENT;
        }
    }

    public int doorOf(int door, int what) {
        if (!isDoor(door)) {
            return INVALID_ARGUMENT;
        }
        switch (what) {
            case 0:
                return at(maze.doorCells, door);
            case 1:
                return at(maze.doorSides, door);
            default:
                return INVALID_ARGUMENT;
        }
    }

    public int count(int what) {
        switch (what) {
            case 0:
                return maze.columns;
            case 1:
                return maze.rows;
            case 2:
                return maze.passageCount();
            case 3:
                return maze.parts();
            case 4:
                return maze.isWhole() ? 1 : 0;
            case 5:
                return maze.deadEnds();
            case 6:
                return maze.toneSum();
            case 7:
                return history.states;
            case 8:
                return text.length;
            case 9:
                return hasSnapshot ? 1 : 0;
            default:
                return INVALID_ARGUMENT;
        }
    }

    // ---- the way, the walk

    public int way(int index) {
        if (index < 0) {
            return INVALID_ARGUMENT;
        }
        fromExit.findFrom(maze, maze.exitCell());
        if (index > fromExit.lengthTo(maze.entryCell())) {
            return NOT_FOUND;
        }
        int cell = maze.entryCell();
        for (int step = 0; step < index; step++) {
            cell = at(fromExit.previous, cell);
        }
        return cell;
    }

    public int drawn(int what) {
        switch (what) {
            case 0:
                return hasWay() ? fromExit.lengthTo(maze.entryCell()) + 1 : NOT_FOUND;
            case 1:
                return wayFault();
            case 2:
                walk.take(maze);
                return walk.failed ? NOT_FOUND : walk.allVisits;
            case 3:
                walk.take(maze);
                return walk.failed ? NOT_FOUND : walk.faultOn(maze);
            case 4:
                return hasWay() ? wayTurns() : NOT_FOUND;
            default:
                return INVALID_ARGUMENT;
        }
    }

    public int between(int one, int other) {
        if (!maze.hasCell(one) || !maze.hasCell(other)) {
            return INVALID_ARGUMENT;
        }
        ways.findFrom(maze, one);
        return ways.reach(other) ? ways.lengthTo(other) : NOT_FOUND;
    }

    // ---- what would be

    public int farthest(int what) {
        if (what < 0 || what > 2) {
            return INVALID_ARGUMENT;
        }
        int lower = NONE;
        int higher = NONE;
        int most = 0;
        for (int one = 0; one < maze.cells(); one++) {
            ways.findFrom(maze, one);
            for (int other = one + 1; other < maze.cells(); other++) {
                if (ways.lengthTo(other) > most) {
                    lower = one;
                    higher = other;
                    most = ways.lengthTo(other);
                }
            }
        }
        return most == 0 ? NOT_FOUND : choose(what, lower, higher, most);
    }

    public int best(int what) {
        if (what < 0 || what > 2) {
            return INVALID_ARGUMENT;
        }
        if (!maze.isWhole()) {
            return NOT_POSSIBLE;
        }
        exchanger.find(maze, fromEntry, fromExit);
        return choose(what, exchanger.takenAway, exchanger.made, exchanger.faultThen);
    }

    public int bestExit(int what) {
        if (what < 0 || what > 2) {
            return INVALID_ARGUMENT;
        }
        fromEntry.findFrom(maze, maze.entryCell());
        int light = maze.toneSum();
        int cell = NONE;
        int side = NONE;
        int least = 0;
        for (int tried = 0; tried < maze.cells(); tried++) {
            int free = freeSide(tried);
            if (free != NONE && fromEntry.reach(tried)) {
                int then = light + at(fromEntry.gains, tried);
                if (cell == NONE || then < least) {
                    cell = tried;
                    side = free;
                    least = then;
                }
            }
        }
        return cell == NONE ? NOT_FOUND : choose(what, cell, side, least);
    }

    // ---- snapshot, undo

    public int keep() {
        snapshot.copyFrom(maze);
        hasSnapshot = true;
        return maze.passageCount();
    }

    public int restore() {
        if (!hasSnapshot) {
            return NOT_POSSIBLE;
        }
        history.push(maze);
        maze.copyFrom(snapshot);
        return maze.passageCount();
    }

    public int undo() {
        if (!history.pop(maze)) {
            return NOT_POSSIBLE;
        }
        return history.states;
    }

    // ---- texts

    public int type(int character) {
        if (character < FIRST_CHARACTER || character > LAST_CHARACTER) {
            return INVALID_ARGUMENT;
        }
        if (text.length >= MOST_CHARACTERS) {
            return LIMIT_REACHED;
        }
        put(text.characters, text.length, character);
        text.length++;
        return text.length;
    }

    public int clearText() {
        int before = text.length;
        text.length = 0;
        return before;
    }

    public int fault(int what) {
        if (what < 0 || what > 1) {
            return INVALID_ARGUMENT;
        }
        text.look();
        if (text.reason == Picture.NO_FAULT) {
            return NOT_FOUND;
        }
        return what == 0 ? text.place : text.reason;
    }

    public int read() {
        text.look();
        if (text.reason != Picture.NO_FAULT) {
            return NOT_POSSIBLE;
        }
        history.push(maze);
        text.paint(maze);
        return maze.cells();
    }

    private static boolean isDirection(int number) {
        return number >= 0 && number < DIRECTIONS;
    }

    private static boolean isDoor(int number) {
        return number >= 0 && number < DOORS;
    }

    private static int choose(int what, int first, int second, int third) {
        if (what == 0) {
            return first;
        }
        return what == 1 ? second : third;
    }

    private boolean hasWay() {
        fromExit.findFrom(maze, maze.exitCell());
        return fromExit.reach(maze.entryCell());
    }

    private boolean isOnWay(int cell) {
        if (!hasWay() || !fromExit.reach(cell)) {
            return false;
        }
        fromEntry.findFrom(maze, maze.entryCell());
        int past = fromEntry.lengthTo(cell) + fromExit.lengthTo(cell);
        return past == fromExit.lengthTo(maze.entryCell());
    }

    private int wayFault() {
        int light = maze.toneSum();
        return hasWay() ? light + at(fromExit.gains, maze.entryCell()) : light;
    }

    /** Counts along the ways that hasWay() found. */
    private int wayTurns() {
        int cell = maze.entryCell();
        int steps = fromExit.lengthTo(cell);
        int turns = 0;
        int came = 0;
        for (int step = 0; step < steps; step++) {
            int next = at(fromExit.previous, cell);
            // With two columns or more, the four directions differ in how they change the number.
            int goes = next - cell;
            if (step > 0 && goes != came) {
                turns++;
            }
            came = goes;
            cell = next;
        }
        return turns;
    }

    private boolean findBetterExchange() {
        exchanger.find(maze, fromEntry, fromExit);
        return exchanger.made != NONE && exchanger.faultThen < exchanger.faultNow;
    }

    /** The lowest side of a cell at which the exit could be. */
    private int freeSide(int cell) {
        for (int side = 0; side < DIRECTIONS; side++) {
            if (maze.beside(cell, side) == NONE && !maze.isDoorAt(ENTRY, cell, side)) {
                return side;
            }
        }
        return NONE;
    }

    /** With put(), the way to rows outside loops over them, so that no index can leave its row. */
    private static int at(int[] row, int index) {
        return index >= 0 && index < row.length ? row[index] : 0;
    }

    private static void put(int[] row, int index, int value) {
        if (index >= 0 && index < row.length) {
            row[index] = value;
        }
    }

    /** A state: all that the history and the snapshot hold. */
    private static final class Maze {
        int columns;
        int rows;
        final int[] tones = new int[MOST_CELLS];
        /** Of each cell, the set of directions in which it has a passage. */
        final int[] passages = new int[MOST_CELLS];
        final int[] doorCells = new int[DOORS];
        final int[] doorSides = new int[DOORS];

        Maze() {
            clear(FIRST_SIZE, FIRST_SIZE);
        }

        void clear(int newColumns, int newRows) {
            columns = newColumns;
            rows = newRows;
            Arrays.fill(tones, 0);
            Arrays.fill(passages, 0);
            put(doorCells, ENTRY, 0);
            put(doorSides, ENTRY, LEFT);
            put(doorCells, EXIT, cells() - 1);
            put(doorSides, EXIT, RIGHT);
        }

        void copyFrom(Maze other) {
            columns = other.columns;
            rows = other.rows;
            copyRow(other.tones, tones);
            copyRow(other.passages, passages);
            copyRow(other.doorCells, doorCells);
            copyRow(other.doorSides, doorSides);
        }

        private static void copyRow(int[] from, int[] to) {
            for (int i = 0; i < from.length && i < to.length; i++) {
                to[i] = from[i];
            }
        }

        int cells() {
            return columns * rows;
        }

        boolean hasCell(int cell) {
            return cell >= 0 && cell < cells();
        }

        int beside(int cell, int direction) {
            int cells = columns * rows;
            if (cell < 0 || cell >= cells || columns <= 0) {
                return NONE;
            }
            int column = cell % columns;
            switch (direction) {
                case UP:
                    return cell >= columns ? cell - columns : NONE;
                case RIGHT:
                    return column < columns - 1 ? cell + 1 : NONE;
                case DOWN:
                    return cell + columns < cells ? cell + columns : NONE;
                case LEFT:
                    return column > 0 ? cell - 1 : NONE;
                default:
                    return NONE;
            }
        }

        boolean hasPassage(int cell, int direction) {
            return (at(passages, cell) & (1 << direction)) != 0;
        }

        void setPassage(int cell, int direction, boolean open) {
            int other = beside(cell, direction);
            if (other != NONE) {
                setOpen(cell, direction, open);
                setOpen(other, (direction + 2) % DIRECTIONS, open);
            }
        }

        private void setOpen(int cell, int direction, boolean open) {
            int shut = at(passages, cell) & ~(1 << direction);
            put(passages, cell, open ? shut | (1 << direction) : shut);
        }

        /** One above the highest number that a passage can have. */
        int places() {
            return 2 * cells();
        }

        int lowEnd(int place) {
            return place >> 1;
        }

        int highEnd(int place) {
            return beside(lowEnd(place), placeDirection(place));
        }

        boolean isOpenPlace(int place) {
            return hasPassage(lowEnd(place), placeDirection(place));
        }

        void setPlace(int place, boolean open) {
            setPassage(lowEnd(place), placeDirection(place), open);
        }

        private static int placeDirection(int place) {
            return (place & 1) == 0 ? RIGHT : DOWN;
        }

        int passageCount() {
            int ends = 0;
            for (int cell = 0; cell < cells(); cell++) {
                ends += Integer.bitCount(at(passages, cell));
            }
            return ends / 2;
        }

        /** As there is no ring, each passage joins two parts to one. */
        int parts() {
            return cells() - passageCount();
        }

        boolean isWhole() {
            return parts() == 1;
        }

        int deadEnds() {
            int found = 0;
            for (int cell = 0; cell < cells(); cell++) {
                if (Integer.bitCount(at(passages, cell)) == 1) {
                    found++;
                }
            }
            return found;
        }

        int toneSum() {
            int sum = 0;
            for (int cell = 0; cell < cells(); cell++) {
                sum += at(tones, cell);
            }
            return sum;
        }

        int entryCell() {
            return at(doorCells, ENTRY);
        }

        int exitCell() {
            return at(doorCells, EXIT);
        }

        boolean isDoorAt(int door, int cell, int side) {
            return at(doorCells, door) == cell && at(doorSides, door) == side;
        }
    }

    /** The ways from one cell to all the cells that are joined with it. */
    private static final class Ways {
        int cells;
        final int[] order = new int[MOST_CELLS];
        /** Of each cell, the one before it on the way to it. */
        final int[] previous = new int[MOST_CELLS];
        /** Of each cell, how many passages are on the way to it; NONE if there is no way. */
        final int[] lengths = new int[MOST_CELLS];
        /** Of each cell, how the fault of the way changes if all on the way to it are drawn. */
        final int[] gains = new int[MOST_CELLS];

        void findFrom(Maze maze, int start) {
            Arrays.fill(lengths, NONE);
            cells = 0;
            reachCell(maze, start, NONE);
            for (int i = 0; i < cells && i < MOST_CELLS; i++) {
                int cell = at(order, i);
                for (int direction = 0; direction < DIRECTIONS; direction++) {
                    int next = maze.beside(cell, direction);
                    if (maze.hasPassage(cell, direction) && !reach(next)) {
                        reachCell(maze, next, cell);
                    }
                }
            }
        }

        private void reachCell(Maze maze, int cell, int from) {
            int gain = DARKEST - 2 * at(maze.tones, cell);
            put(order, cells, cell);
            cells++;
            put(previous, cell, from);
            put(lengths, cell, from == NONE ? 0 : lengthTo(from) + 1);
            put(gains, cell, from == NONE ? gain : at(gains, from) + gain);
        }

        int lengthTo(int cell) {
            return cell >= 0 && cell < lengths.length ? lengths[cell] : NONE;
        }

        boolean reach(int cell) {
            return lengthTo(cell) != NONE;
        }

        int lowestCell() {
            int lowest = at(order, 0);
            for (int i = 1; i < cells; i++) {
                lowest = Math.min(lowest, at(order, i));
            }
            return lowest;
        }
    }

    /** The walk along the right hand. */
    private static final class Walk {
        boolean failed;
        int allVisits;
        final int[] visits = new int[MOST_CELLS];
        /** Of each cell, the set of directions in which the walk came to it. */
        final int[] looks = new int[MOST_CELLS];

        void take(Maze maze) {
            Arrays.fill(visits, 0);
            Arrays.fill(looks, 0);
            allVisits = 0;
            failed = true;
            int cell = maze.entryCell();
            int look = opposite(at(maze.doorSides, ENTRY));
            // The walk cannot be in so many cells without having looked somewhere twice.
            for (int step = 0; step <= MOST_CELLS * DIRECTIONS; step++) {
                if ((at(looks, cell) & (1 << look)) != 0) {
                    return;
                }
                come(cell, look);
                look = turn(maze, cell, look);
                if (look == NONE) {
                    return;
                }
                if (maze.isDoorAt(EXIT, cell, look)) {
                    failed = false;
                    return;
                }
                cell = maze.beside(cell, look);
            }
        }

        private void come(int cell, int look) {
            put(looks, cell, at(looks, cell) | (1 << look));
            put(visits, cell, at(visits, cell) + 1);
            allVisits++;
        }

        private static int opposite(int direction) {
            return (direction + 2) % DIRECTIONS;
        }

        /** The first direction to go on in: right, ahead, left, back. */
        private static int turn(Maze maze, int cell, int look) {
            for (int left = 0; left < DIRECTIONS; left++) {
                int direction = (look + 1 + DIRECTIONS - left) % DIRECTIONS;
                if (maze.hasPassage(cell, direction) || maze.isDoorAt(EXIT, cell, direction)) {
                    return direction;
                }
            }
            return NONE;
        }

        int faultOn(Maze maze) {
            int fault = 0;
            for (int cell = 0; cell < maze.cells(); cell++) {
                int dark = Math.min(DARK_OF_ONE_VISIT * at(visits, cell), DARKEST);
                fault += Math.abs(at(maze.tones, cell) - dark);
            }
            return fault;
        }
    }

    /** Makes passages until the maze is whole. */
    private static final class Builder {
        /** Of each cell, a number that is the same in all its part. */
        final int[] partOf = new int[MOST_CELLS];

        int joinAllParts(Maze maze) {
            findParts(maze);
            int made = 0;
            for (int step = 0; step < MOST_CELLS; step++) {
                int place = darkestPlace(maze);
                if (place == NONE) {
                    break;
                }
                maze.setPlace(place, true);
                join(maze.lowEnd(place), maze.highEnd(place));
                made++;
            }
            return made;
        }

        private void findParts(Maze maze) {
            for (int cell = 0; cell < partOf.length; cell++) {
                partOf[cell] = cell;
            }
            for (int place = 0; place < maze.places(); place++) {
                if (maze.isOpenPlace(place)) {
                    join(maze.lowEnd(place), maze.highEnd(place));
                }
            }
        }

        private void join(int one, int other) {
            int stays = at(partOf, one);
            int goes = at(partOf, other);
            for (int cell = 0; cell < partOf.length; cell++) {
                if (partOf[cell] == goes) {
                    partOf[cell] = stays;
                }
            }
        }

        private int darkestPlace(Maze maze) {
            int darkest = NONE;
            int most = NONE;
            for (int place = 0; place < maze.places(); place++) {
                int one = maze.lowEnd(place);
                int other = maze.highEnd(place);
                if (other != NONE && at(partOf, one) != at(partOf, other)) {
                    int dark = at(maze.tones, one) + at(maze.tones, other);
                    if (dark > most) {
                        darkest = place;
                        most = dark;
                    }
                }
            }
            return darkest;
        }
    }

    /** Finds the best exchange of a whole maze. */
    private static final class Exchanger {
        int takenAway;
        int made;
        int faultNow;
        int faultThen;
        private int light;
        /** Of each cell, 1 if the passage taken away cuts it off from the entry. */
        final int[] cutOff = new int[MOST_CELLS];

        void find(Maze maze, Ways fromEntry, Ways fromExit) {
            fromEntry.findFrom(maze, maze.entryCell());
            fromExit.findFrom(maze, maze.exitCell());
            light = maze.toneSum();
            takenAway = NONE;
            made = NONE;
            faultNow = light + at(fromEntry.gains, maze.exitCell());
            faultThen = faultNow;
            for (int place = 0; place < maze.places(); place++) {
                if (maze.isOpenPlace(place)) {
                    cut(maze, place, fromEntry);
                    findMade(maze, place, fromEntry, fromExit);
                }
            }
        }

        void apply(Maze maze) {
            maze.setPlace(takenAway, false);
            maze.setPlace(made, true);
        }

        private void cut(Maze maze, int place, Ways fromEntry) {
            int low = maze.lowEnd(place);
            int high = maze.highEnd(place);
            int first = fromEntry.lengthTo(low) > fromEntry.lengthTo(high) ? low : high;
            Arrays.fill(cutOff, 0);
            put(cutOff, first, 1);
            for (int i = 1; i < fromEntry.cells; i++) {
                int cell = at(fromEntry.order, i);
                if (at(cutOff, at(fromEntry.previous, cell)) == 1) {
                    put(cutOff, cell, 1);
                }
            }
        }

        private void findMade(Maze maze, int taken, Ways fromEntry, Ways fromExit) {
            boolean cutsWay = at(cutOff, maze.exitCell()) == 1;
            for (int place = 0; place < maze.places(); place++) {
                int one = maze.lowEnd(place);
                int other = maze.highEnd(place);
                if (other == NONE || maze.isOpenPlace(place) || at(cutOff, one) == at(cutOff, other)) {
                    continue;
                }
                int near = at(cutOff, one) == 0 ? one : other;
                int far = near == one ? other : one;
                int then = cutsWay ? light + at(fromEntry.gains, near) + at(fromExit.gains, far) : faultNow;
                if (made == NONE || then < faultThen) {
                    takenAway = taken;
                    made = place;
                    faultThen = then;
                }
            }
        }
    }

    /** The latest states before changes, the oldest one first. */
    private static final class History {
        int states;
        private final Maze[] kept = new Maze[MOST_STATES];

        History() {
            for (int i = 0; i < kept.length; i++) {
                kept[i] = new Maze();
            }
            states = 0;
        }

        void push(Maze maze) {
            if (states >= MOST_STATES) {
                dropOldest();
            }
            Maze free = stateAt(states);
            if (free != null) {
                free.copyFrom(maze);
                states++;
            }
        }

        boolean pop(Maze maze) {
            Maze latest = stateAt(states - 1);
            if (latest == null) {
                return false;
            }
            maze.copyFrom(latest);
            states--;
            return true;
        }

        private Maze stateAt(int index) {
            return index >= 0 && index < kept.length ? kept[index] : null;
        }

        private void dropOldest() {
            Maze oldest = stateAt(0);
            for (int i = 0; i < kept.length; i++) {
                kept[i] = i + 1 < kept.length ? kept[i + 1] : oldest;
            }
            states--;
        }
    }

    /** The text, and what it is as a picture. */
    private static final class Picture {
        static final int NO_FAULT = 0;
        static final int WRONG_CHARACTER = 1;
        static final int TOO_WIDE = 2;
        static final int TOO_HIGH = 3;
        static final int TOO_THIN = 4;

        int length;
        int place;
        int reason;
        final int[] characters = new int[MOST_CHARACTERS];
        private int columns;
        private int rows;
        private int inRow;

        void look() {
            reason = NO_FAULT;
            place = 0;
            columns = 0;
            rows = 1;
            inRow = 0;
            for (int i = 0; i < length && reason == NO_FAULT; i++) {
                int character = at(characters, i);
                if (character >= '0' && character <= '9') {
                    lookAtDigit(i);
                } else if (character == '/') {
                    lookAtSlash(i);
                } else {
                    blame(i, WRONG_CHARACTER);
                }
            }
            if (reason == NO_FAULT) {
                lookAtEnd();
            }
        }

        private void lookAtDigit(int index) {
            if (rows == 1 && inRow == MOST_IN_A_LINE) {
                blame(index, TOO_WIDE);
            } else if (rows > 1 && inRow == columns) {
                blame(index, WRONG_CHARACTER);
            } else {
                inRow++;
                columns = Math.max(columns, inRow);
            }
        }

        private void lookAtSlash(int index) {
            if (!isRowFull()) {
                blame(index, WRONG_CHARACTER);
            } else if (rows == MOST_IN_A_LINE) {
                blame(index, TOO_HIGH);
            } else {
                rows++;
                inRow = 0;
            }
        }

        private void lookAtEnd() {
            if (!isRowFull()) {
                blame(length, WRONG_CHARACTER);
            } else if (columns == 1 || rows == 1) {
                blame(length, TOO_THIN);
            }
        }

        private boolean isRowFull() {
            return inRow > 0 && inRow == columns;
        }

        private void blame(int index, int why) {
            place = index;
            reason = why;
        }

        /** Only after look() has found no fault. */
        void paint(Maze maze) {
            maze.clear(columns, rows);
            int cell = 0;
            for (int i = 0; i < length; i++) {
                int character = at(characters, i);
                if (character != '/') {
                    put(maze.tones, cell, character - '0');
                    cell++;
                }
            }
        }
    }
}
