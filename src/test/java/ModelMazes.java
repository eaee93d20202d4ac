import java.util.ArrayDeque;
import java.util.ArrayList;
import java.util.Deque;
import java.util.HashMap;
import java.util.HashSet;
import java.util.List;
import java.util.Map;
import java.util.Set;
import java.util.TreeSet;

/**
 * The document once more, as slow and as plain as can be, for comparison: sets of passages, everything found by trying.
 */
final class ModelMazes {
    private static final int INVALID = -1;
    private static final int NOT_POSSIBLE = -2;
    private static final int LIMIT = -3;
    private static final int NOT_FOUND = -4;
    private static final int[] ROW_STEP = {-1, 0, 1, 0};
    private static final int[] COLUMN_STEP = {0, 1, 0, -1};

    private static final class State {
        int columns;
        int rows;
        List<Integer> tones = new ArrayList<>();
        TreeSet<Integer> passages = new TreeSet<>();
        int[] doorCell;
        int[] doorSide = {3, 1};

        State(int columns, int rows) {
            this.columns = columns;
            this.rows = rows;
            for (int i = 0; i < columns * rows; i++) {
                tones.add(0);
            }
            doorCell = new int[] {0, columns * rows - 1};
        }

        State copy() {
            State copy = new State(columns, rows);
            copy.tones = new ArrayList<>(tones);
            copy.passages = new TreeSet<>(passages);
            copy.doorCell = doorCell.clone();
            copy.doorSide = doorSide.clone();
            return copy;
        }

        int size() {
            return columns * rows;
        }

        int beside(int cell, int direction) {
            int row = cell / columns + ROW_STEP[direction];
            int column = cell % columns + COLUMN_STEP[direction];
            boolean inside = row >= 0 && row < rows && column >= 0 && column < columns;
            return inside ? row * columns + column : -1;
        }

        int place(int cell, int direction) {
            int other = beside(cell, direction);
            return other < 0 ? -1 : 2 * Math.min(cell, other) + (direction % 2 == 0 ? 1 : 0);
        }

        boolean open(int cell, int direction) {
            return passages.contains(place(cell, direction));
        }

        /** All places of passages, with their two cells. */
        Map<Integer, int[]> places() {
            Map<Integer, int[]> found = new java.util.TreeMap<>();
            for (int cell = 0; cell < size(); cell++) {
                for (int direction = 1; direction <= 2; direction++) {
                    if (beside(cell, direction) >= 0) {
                        found.put(place(cell, direction), new int[] {cell, beside(cell, direction)});
                    }
                }
            }
            return found;
        }

        /** The way from one cell to another, or null. */
        List<Integer> way(int from, int to) {
            return way(from, to, -1);
        }

        private List<Integer> way(int from, int to, int without) {
            if (from == to) {
                return new ArrayList<>(List.of(from));
            }
            for (int direction = 0; direction < 4; direction++) {
                int next = beside(from, direction);
                if (next >= 0 && next != without && open(from, direction)) {
                    List<Integer> rest = way(next, to, from);
                    if (rest != null) {
                        rest.add(0, from);
                        return rest;
                    }
                }
            }
            return null;
        }

        Set<Integer> part(int cell) {
            Set<Integer> part = new TreeSet<>();
            for (int other = 0; other < size(); other++) {
                if (way(cell, other) != null) {
                    part.add(other);
                }
            }
            return part;
        }

        int parts() {
            Set<Set<Integer>> parts = new HashSet<>();
            for (int cell = 0; cell < size(); cell++) {
                parts.add(part(cell));
            }
            return parts.size();
        }

        /** There is never a ring, so counting passages is enough to know. */
        boolean whole() {
            return passages.size() == size() - 1;
        }

        int wayFault() {
            List<Integer> way = way(doorCell[0], doorCell[1]);
            int fault = 0;
            for (int cell = 0; cell < size(); cell++) {
                boolean on = way != null && way.contains(cell);
                fault += on ? 9 - tones.get(cell) : tones.get(cell);
            }
            return fault;
        }

        /** The passages taken away and made, and the fault then. */
        int[] bestExchange() {
            int[] best = null;
            for (int taken : new ArrayList<>(passages)) {
                passages.remove(taken);
                for (Map.Entry<Integer, int[]> place : places().entrySet()) {
                    int made = place.getKey();
                    boolean joins = made != taken && !passages.contains(made)
                            && way(place.getValue()[0], place.getValue()[1]) == null;
                    if (joins) {
                        passages.add(made);
                        int fault = wayFault();
                        passages.remove(made);
                        if (best == null || fault < best[2]) {
                            best = new int[] {taken, made, fault};
                        }
                    }
                }
                passages.add(taken);
            }
            return best;
        }

        /** The cells of the walk, or null if it fails. */
        List<Integer> walk() {
            List<Integer> cells = new ArrayList<>();
            Set<String> poses = new HashSet<>();
            int cell = doorCell[0];
            int look = (doorSide[0] + 2) % 4;
            while (poses.add(cell + " " + look)) {
                cells.add(cell);
                int[] turns = {(look + 1) % 4, look, (look + 3) % 4, (look + 2) % 4};
                int goes = -1;
                for (int turn : turns) {
                    boolean exit = cell == doorCell[1] && turn == doorSide[1];
                    if (exit && goes < 0) {
                        return cells;
                    }
                    if (goes < 0 && beside(cell, turn) >= 0 && open(cell, turn)) {
                        goes = turn;
                    }
                }
                if (goes < 0) {
                    return null;
                }
                cell = beside(cell, goes);
                look = goes;
            }
            return null;
        }
    }

    private State now = new State(4, 4);
    private State snapshot;
    private final Deque<State> history = new ArrayDeque<>();
    private String text = "";

    private void change() {
        history.addLast(now.copy());
        if (history.size() == 5) {
            history.removeFirst();
        }
    }

    private boolean isCell(int cell) {
        return cell >= 0 && cell < now.size();
    }

    private static boolean in(int number, int lowest, int highest) {
        return number >= lowest && number <= highest;
    }

    int tone(int cell, int tone) {
        if (!isCell(cell) || !in(tone, 0, 9)) {
            return INVALID;
        }
        change();
        return now.tones.set(cell, tone);
    }

    int carve(int cell, int direction) {
        if (!isCell(cell) || !in(direction, 0, 3)) {
            return INVALID;
        }
        int other = now.beside(cell, direction);
        if (other < 0 || now.way(cell, other) != null) {
            return NOT_POSSIBLE;
        }
        change();
        now.passages.add(now.place(cell, direction));
        return now.parts();
    }

    int wall(int cell, int direction) {
        if (!isCell(cell) || !in(direction, 0, 3)) {
            return INVALID;
        }
        if (now.beside(cell, direction) < 0 || !now.open(cell, direction)) {
            return NOT_POSSIBLE;
        }
        change();
        now.passages.remove(now.place(cell, direction));
        return now.parts();
    }

    int door(int door, int cell, int side) {
        if (!in(door, 0, 1) || !isCell(cell) || !in(side, 0, 3)) {
            return INVALID;
        }
        boolean taken = now.doorCell[1 - door] == cell && now.doorSide[1 - door] == side;
        if (now.beside(cell, side) >= 0 || taken) {
            return NOT_POSSIBLE;
        }
        change();
        int was = now.doorCell[door];
        now.doorCell[door] = cell;
        now.doorSide[door] = side;
        return was;
    }

    int build() {
        if (now.whole()) {
            return NOT_POSSIBLE;
        }
        change();
        int made = 0;
        while (!now.whole()) {
            int best = -1;
            int most = -1;
            for (Map.Entry<Integer, int[]> place : now.places().entrySet()) {
                int one = place.getValue()[0];
                int other = place.getValue()[1];
                int sum = now.tones.get(one) + now.tones.get(other);
                if (sum > most && now.way(one, other) == null) {
                    most = sum;
                    best = place.getKey();
                }
            }
            now.passages.add(best);
            made++;
        }
        return made;
    }

    private boolean better() {
        int[] best = now.bestExchange();
        if (best[2] >= now.wayFault()) {
            return false;
        }
        now.passages.remove(best[0]);
        now.passages.add(best[1]);
        return true;
    }

    int exchange() {
        if (!now.whole() || now.bestExchange()[2] >= now.wayFault()) {
            return NOT_POSSIBLE;
        }
        change();
        better();
        return now.wayFault();
    }

    int improve() {
        if (!now.whole()) {
            return NOT_POSSIBLE;
        }
        change();
        int made = 0;
        while (better()) {
            made++;
        }
        return made;
    }

    int cellOf(int cell, int what) {
        if (!isCell(cell) || !in(what, 0, 6)) {
            return INVALID;
        }
        if (what == 0) {
            return now.tones.get(cell);
        }
        if (what == 1) {
            int set = 0;
            for (int direction = 0; direction < 4; direction++) {
                set += now.beside(cell, direction) >= 0 && now.open(cell, direction) ? 1 << direction : 0;
            }
            return set;
        }
        if (what == 2) {
            return now.part(cell).iterator().next();
        }
        if (what == 3) {
            return now.part(cell).size();
        }
        if (what == 4) {
            return between(now.doorCell[0], cell);
        }
        if (what == 5) {
            List<Integer> way = now.way(now.doorCell[0], now.doorCell[1]);
            return way != null && way.contains(cell) ? 1 : 0;
        }
        List<Integer> walk = now.walk();
        return walk == null ? NOT_FOUND : (int) walk.stream().filter(come -> come == cell).count();
    }

    int doorOf(int door, int what) {
        if (!in(door, 0, 1) || !in(what, 0, 1)) {
            return INVALID;
        }
        return what == 0 ? now.doorCell[door] : now.doorSide[door];
    }

    int count(int what) {
        int deadEnds = 0;
        int sum = 0;
        for (int cell = 0; cell < now.size(); cell++) {
            int set = cellOf(cell, 1);
            deadEnds += set == 1 || set == 2 || set == 4 || set == 8 ? 1 : 0;
            sum += now.tones.get(cell);
        }
        switch (what) {
            case 0: return now.columns;
            case 1: return now.rows;
            case 2: return now.passages.size();
            case 3: return now.parts();
            case 4: return now.parts() == 1 ? 1 : 0;
            case 5: return deadEnds;
            case 6: return sum;
            case 7: return history.size();
            case 8: return text.length();
            case 9: return snapshot == null ? 0 : 1;
            default: return INVALID;
        }
    }

    int way(int index) {
        List<Integer> way = now.way(now.doorCell[0], now.doorCell[1]);
        if (index < 0) {
            return INVALID;
        }
        return way == null || index >= way.size() ? NOT_FOUND : way.get(index);
    }

    int drawn(int what) {
        List<Integer> way = now.way(now.doorCell[0], now.doorCell[1]);
        List<Integer> walk = now.walk();
        switch (what) {
            case 0: return way == null ? NOT_FOUND : way.size();
            case 1: return now.wayFault();
            case 2: return walk == null ? NOT_FOUND : walk.size();
            case 3: return walk == null ? NOT_FOUND : walkFault();
            case 4: return way == null ? NOT_FOUND : turns(way);
            default: return INVALID;
        }
    }

    private int walkFault() {
        int fault = 0;
        for (int cell = 0; cell < now.size(); cell++) {
            int dark = 3 * cellOf(cell, 6);
            fault += Math.abs(now.tones.get(cell) - (dark > 9 ? 9 : dark));
        }
        return fault;
    }

    private int turns(List<Integer> way) {
        int turns = 0;
        for (int i = 2; i < way.size(); i++) {
            boolean wasFlat = way.get(i - 2) / now.columns == way.get(i - 1) / now.columns;
            boolean isFlat = way.get(i - 1) / now.columns == way.get(i) / now.columns;
            turns += wasFlat != isFlat ? 1 : 0;
        }
        return turns;
    }

    int between(int one, int other) {
        if (!isCell(one) || !isCell(other)) {
            return INVALID;
        }
        List<Integer> way = now.way(one, other);
        return way == null ? NOT_FOUND : way.size() - 1;
    }

    int farthest(int what) {
        if (!in(what, 0, 2)) {
            return INVALID;
        }
        int[] best = {NOT_FOUND, NOT_FOUND, NOT_FOUND};
        for (int one = 0; one < now.size(); one++) {
            for (int other = one + 1; other < now.size(); other++) {
                int length = between(one, other);
                if (length > best[2] && length > 0) {
                    best = new int[] {one, other, length};
                }
            }
        }
        return best[what];
    }

    int best(int what) {
        if (!in(what, 0, 2)) {
            return INVALID;
        }
        return now.whole() ? now.bestExchange()[what] : NOT_POSSIBLE;
    }

    int bestExit(int what) {
        if (!in(what, 0, 2)) {
            return INVALID;
        }
        int[] best = {NOT_FOUND, NOT_FOUND, NOT_FOUND};
        State tried = now.copy();
        for (int cell = 0; cell < now.size(); cell++) {
            for (int side = 0; side < 4; side++) {
                boolean free = now.beside(cell, side) < 0 && !(now.doorCell[0] == cell && now.doorSide[0] == side);
                if (free && now.way(now.doorCell[0], cell) != null) {
                    tried.doorCell[1] = cell;
                    int fault = tried.wayFault();
                    if (best[0] < 0 || fault < best[2]) {
                        best = new int[] {cell, side, fault};
                    }
                }
            }
        }
        return best[what];
    }

    int keep() {
        snapshot = now.copy();
        return now.passages.size();
    }

    int restore() {
        if (snapshot == null) {
            return NOT_POSSIBLE;
        }
        change();
        now = snapshot.copy();
        return now.passages.size();
    }

    int undo() {
        if (history.isEmpty()) {
            return NOT_POSSIBLE;
        }
        now = history.removeLast();
        return history.size();
    }

    int type(int character) {
        if (!in(character, 32, 126)) {
            return INVALID;
        }
        if (text.length() == 60) {
            return LIMIT;
        }
        text += (char) character;
        return text.length();
    }

    int clearText() {
        int length = text.length();
        text = "";
        return length;
    }

    int fault(int what) {
        if (!in(what, 0, 1)) {
            return INVALID;
        }
        int[] fault = faultOf(text);
        return fault == null ? NOT_FOUND : fault[what];
    }

    /** Place and reason, or null. */
    private static int[] faultOf(String text) {
        for (int i = 0; i < text.length(); i++) {
            String[] rows = text.substring(0, i).split("/", -1);
            String first = rows[0];
            String last = rows[rows.length - 1];
            boolean complete = !last.isEmpty() && last.length() == first.length();
            char character = text.charAt(i);
            if ("0123456789".indexOf(character) >= 0) {
                if (rows.length == 1 && first.length() == 6) {
                    return new int[] {i, 2};
                }
                if (rows.length > 1 && complete) {
                    return new int[] {i, 1};
                }
            } else if (character == '/' && complete) {
                if (rows.length == 6) {
                    return new int[] {i, 3};
                }
            } else {
                return new int[] {i, 1};
            }
        }
        String[] rows = text.split("/", -1);
        String last = rows[rows.length - 1];
        if (last.isEmpty() || last.length() < rows[0].length()) {
            return new int[] {text.length(), 1};
        }
        return rows.length == 1 || last.length() == 1 ? new int[] {text.length(), 4} : null;
    }

    int read() {
        if (faultOf(text) != null) {
            return NOT_POSSIBLE;
        }
        change();
        String[] rows = text.split("/");
        now = new State(rows[0].length(), rows.length);
        String digits = text.replace("/", "");
        for (int cell = 0; cell < now.size(); cell++) {
            now.tones.set(cell, digits.charAt(cell) - '0');
        }
        return now.size();
    }
}
