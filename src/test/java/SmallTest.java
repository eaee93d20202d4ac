import java.util.ArrayList;
import java.util.List;

/** All small mazes and all small texts, one by one, each answered by the program and by the model of the document. */
public final class SmallTest {
    private static final String SIGNS = "1/x";

    private static int wrong = 0;
    private static int looked = 0;

    /** One maze, made by the same calls in both. */
    private static final class Pair {
        final PortraitMazes mazes = new PortraitMazes();
        final ModelMazes model = new ModelMazes();
        final String text;
        String made = "";

        Pair(String text) {
            this.text = text;
            for (char character : text.toCharArray()) {
                mazes.type(character);
                model.type(character);
            }
        }

        void due(String call, int got, int want) {
            if (got != want) {
                wrong++;
                if (wrong <= 20) {
                    System.out.println(text + made + ": " + call + " answered " + got + ", due is " + want);
                }
            }
        }

        void dueText() {
            looked++;
            due("fault(0)", mazes.fault(0), model.fault(0));
            due("fault(1)", mazes.fault(1), model.fault(1));
            due("read()", mazes.read(), model.read());
        }

        void carve(int place) {
            int direction = 1 + place % 2;
            due("carve of " + place, mazes.carve(place / 2, direction), model.carve(place / 2, direction));
            made += " carve " + place;
        }

        void door(int door, int cell, int side) {
            due("door", mazes.door(door, cell, side), model.door(door, cell, side));
            made += " door " + door + " " + cell + " " + side;
        }

        void dueMaze() {
            looked++;
            int cells = model.count(0) * model.count(1);
            for (int cell = 0; cell < cells; cell++) {
                due("cellOf(" + cell + ", 5)", mazes.cellOf(cell, 5), model.cellOf(cell, 5));
                due("cellOf(" + cell + ", 6)", mazes.cellOf(cell, 6), model.cellOf(cell, 6));
                due("way(" + cell + ")", mazes.way(cell), model.way(cell));
            }
            for (int what = 0; what < 5; what++) {
                due("drawn(" + what + ")", mazes.drawn(what), model.drawn(what));
            }
            for (int what = 0; what < 3; what++) {
                due("best(" + what + ")", mazes.best(what), model.best(what));
                due("bestExit(" + what + ")", mazes.bestExit(what), model.bestExit(what));
            }
            due("improve()", mazes.improve(), model.improve());
            due("drawn(1)", mazes.drawn(1), model.drawn(1));
        }

        void dueForest() {
            for (int what = 2; what < 6; what++) {
                due("count(" + what + ")", mazes.count(what), model.count(what));
            }
            for (int what = 0; what < 3; what++) {
                due("farthest(" + what + ")", mazes.farthest(what), model.farthest(what));
            }
            due("build()", mazes.build(), model.build());
            for (int cell = 0; cell < model.count(0) * model.count(1); cell++) {
                due("cellOf(" + cell + ", 1)", mazes.cellOf(cell, 1), model.cellOf(cell, 1));
            }
        }
    }

    private static Pair pair(String text, List<Integer> places) {
        Pair pair = new Pair(text);
        pair.due("read()", pair.mazes.read(), pair.model.read());
        for (int place : places) {
            pair.carve(place);
        }
        return pair;
    }

    /** All sets of passages without a ring, each a list of their numbers, from the place on. */
    private static void forests(String text, int place, List<Integer> chosen, List<List<Integer>> found) {
        PortraitMazes mazes = pair(text, chosen).mazes;
        int places = 2 * mazes.count(0) * mazes.count(1);
        if (place == places) {
            found.add(new ArrayList<>(chosen));
            return;
        }
        forests(text, place + 1, chosen, found);
        if (mazes.carve(place / 2, 1 + place % 2) > 0) {
            chosen.add(place);
            forests(text, place + 1, chosen, found);
            chosen.remove(chosen.size() - 1);
        }
    }

    private static List<int[]> border(ModelMazes model) {
        List<int[]> found = new ArrayList<>();
        for (int cell = 0; cell < model.count(0) * model.count(1); cell++) {
            for (int side = 0; side < 4; side++) {
                if (model.door(0, cell, side) >= 0 || model.door(1, cell, side) >= 0) {
                    found.add(new int[] {cell, side});
                }
            }
        }
        return found;
    }

    private static void allDoors(String text, List<Integer> places) {
        List<int[]> border = border(pair(text, places).model);
        for (int[] entry : border) {
            for (int[] exit : border) {
                Pair pair = pair(text, places);
                if (entry != exit) {
                    // Where the other door still is, a door cannot go: the exit makes way first.
                    int[] spare = border.stream().filter(at -> at != entry && at[0] > 0).findFirst().orElseThrow();
                    pair.door(1, spare[0], spare[1]);
                    pair.door(0, entry[0], entry[1]);
                    pair.door(1, exit[0], exit[1]);
                    pair.dueMaze();
                }
            }
        }
    }

    private static void mazes(String text, int passagesAtLeast) {
        List<List<Integer>> forests = new ArrayList<>();
        forests(text, 0, new ArrayList<>(), forests);
        for (List<Integer> forest : forests) {
            pair(text, forest).dueForest();
            if (forest.size() >= passagesAtLeast) {
                allDoors(text, forest);
            }
        }
    }

    private static void texts(String begin, int most) {
        new Pair(begin).dueText();
        for (int i = 0; i < SIGNS.length() && begin.length() < most; i++) {
            texts(begin + SIGNS.charAt(i), most);
        }
    }

    /** Pictures of all sizes and a little beyond, with each character left out, put in and put in place of another. */
    private static void textsAlike(int columns, int rows) {
        String row = "1234567".substring(0, columns);
        String text = row + ("/" + row).repeat(rows - 1);
        for (int i = 0; i <= text.length(); i++) {
            String before = text.substring(0, i);
            String from = text.substring(i);
            new Pair(before).dueText();
            for (int sign = 0; sign < SIGNS.length(); sign++) {
                new Pair(before + SIGNS.charAt(sign) + from).dueText();
                new Pair(before + SIGNS.charAt(sign) + from.substring(Math.min(1, from.length()))).dueText();
            }
            new Pair(before + from.substring(Math.min(1, from.length()))).dueText();
        }
    }

    public static void main(String[] args) {
        mazes("00/00", 0);
        mazes("93/07", 0);
        mazes("507/291", 0);
        mazes("18/96/05", 0);
        mazes("090/909/391", 8);
        texts("", 8);
        for (int columns = 1; columns <= 7; columns++) {
            for (int rows = 1; rows <= 7; rows++) {
                textsAlike(columns, rows);
            }
        }
        System.out.println(looked + " mazes and texts, " + wrong + " answers not as due");
        if (wrong != 0) {
            System.exit(1);
        }
    }
}
