/** Promises 1 to 6: a new object, reset, setSeam, value, kind, neighbour. */
public final class MapAndSeamsTest {
    private static final int UNKNOWN = SeamMap.UNKNOWN;
    private static final int BAD_VALUE = SeamMap.BAD_VALUE;
    private static final int NONE = SeamMap.NONE;
    private static final int LEAST = Integer.MIN_VALUE;
    private static final int MOST = Integer.MAX_VALUE;

    private static final Check check = new Check("MapAndSeamsTest");

    public static void main(String[] arguments) {
        newObject();
        reset();
        resetStartsAnew();
        resetWithWrongSize();
        setSeam();
        setSeamWithWrongArguments();
        seamsAreNoEdits();
        value();
        kind();
        neighboursInside();
        neighboursOverWrappedSeams();
        neighboursOverFlippedSeams();
        neighboursAtTheDoubleCorner();
        neighbourWithWrongArguments();
        check.end();
    }

    private static void values(SeamMap map, int... due) {
        for (int what = 0; what < due.length; what++) {
            check.due("value(" + what + ")", map.value(what), due[what]);
        }
    }

    private static void neighbours(SeamMap map, int direction, int... due) {
        for (int i = 0; i < due.length; i += 2) {
            check.due("neighbour(" + due[i] + ", " + direction + ")",
                    map.neighbour(due[i], direction), due[i + 1]);
        }
    }

    private static void newObject() {
        check.promise(1, "a new object");
        SeamMap map = new SeamMap();
        values(map, 6, 5, 0, 0, 0, 0, 1, 98, 0);
        for (int tile = 0; tile < 30; tile++) {
            check.due("kind(" + tile + ")", map.kind(tile), 0);
            check.due("label(" + tile + ")", map.label(tile), 0);
        }
        check.due("kind(30)", map.kind(30), UNKNOWN);
        check.due("clearText()", map.clearText(), 0);
        check.due("undo()", map.undo(), NONE);
        for (int kind = 0; kind < 6; kind++) {
            check.due("setWeight(" + kind + ", 1)", map.setWeight(kind, 1), 1);
        }
        check.due("distance(0, 29)", map.distance(0, 29), 18);
        SeamMap other = new SeamMap();
        map.setTile(3, 4);
        check.due("kind(3) of another object", other.kind(3), 0);
    }

    private static void reset() {
        check.promise(2, "reset");
        for (int columns = 3; columns <= 12; columns++) {
            SeamMap map = new SeamMap();
            for (int rows = 3; rows <= 12; rows++) {
                int tiles = columns * rows;
                check.due("reset(" + columns + ", " + rows + ")", map.reset(columns, rows), tiles);
                int borders = 2 * ((columns - 1) * rows + columns * (rows - 1));
                values(map, columns, rows, 0, 0, 0, 0, 1, borders, 0);
                check.due("kind of the last", map.kind(tiles - 1), 0);
                check.due("kind behind the last", map.kind(tiles), UNKNOWN);
            }
        }
    }

    private static void resetStartsAnew() {
        check.promise(2, "reset");
        SeamMap map = new SeamMap();
        map.setSeam(false, 1, 2);
        map.setSeam(true, 2, 4);
        for (int kind = 0; kind < 6; kind++) {
            map.setTile(kind * 5, kind);
            map.setWeight(kind, kind + 3);
        }
        Check.type(map, "frlx");
        check.due("reset(6, 5)", map.reset(6, 5), 30);
        values(map, 6, 5, 0, 0, 0, 0, 1, 98, 0);
        check.due("undo()", map.undo(), NONE);
        for (int tile = 0; tile < 30; tile++) {
            check.due("kind(" + tile + ")", map.kind(tile), 0);
        }
        check.due("clearText(), as the text stays", map.clearText(), 4);
        for (int kind = 0; kind < 6; kind++) {
            check.due("setWeight(" + kind + ", 1)", map.setWeight(kind, 1), 1);
        }
        map.reset(12, 12);
        map.fill(0, 5);
        map.reset(3, 3);
        map.reset(12, 12);
        check.due("kind(143), out of sight for a while", map.kind(143), 0);
        check.due("value(6)", map.value(6), 1);
    }

    private static void resetWithWrongSize() {
        check.promise(2, "reset");
        SeamMap map = Check.map("0123/4501/2345");
        map.setSeam(false, 2, 1);
        map.setWeight(2, 7);
        String before = Check.everything(map);
        int[] wrong = {LEAST, -3, -1, 0, 2, 13, MOST};
        for (int size : wrong) {
            check.due("reset(" + size + ", 5)", map.reset(size, 5), BAD_VALUE);
            check.due("reset(5, " + size + ")", map.reset(5, size), BAD_VALUE);
            check.due("reset of both " + size, map.reset(size, size), BAD_VALUE);
        }
        check.isTrue("nothing changes", before.equals(Check.everything(map)));
    }

    private static void setSeam() {
        check.promise(3, "setSeam");
        SeamMap map = new SeamMap();
        map.reset(4, 3);
        check.due("setSeam(false, 0, 0)", map.setSeam(false, 0, 0), 0);
        check.due("setSeam(true, 0, 0)", map.setSeam(true, 0, 0), 0);
        check.due("setSeam(false, 0, 2)", map.setSeam(false, 0, 2), 1);
        values(map, 4, 3, 0, 2, 0, 0);
        check.due("setSeam(false, 0, 2)", map.setSeam(false, 0, 2), 0);
        check.due("setSeam(false, 1, 2)", map.setSeam(false, 1, 2), 1);
        values(map, 4, 3, 1, 2, 0, 0);
        check.due("setSeam(true, 2, 3)", map.setSeam(true, 2, 3), 1);
        values(map, 4, 3, 1, 2, 2, 3);
        check.due("setSeam(true, 2, 3)", map.setSeam(true, 2, 3), 0);
        check.due("setSeam(true, 2, 1)", map.setSeam(true, 2, 1), 1);
        check.due("setSeam(true, 1, 1)", map.setSeam(true, 1, 1), 1);
        check.due("setSeam(false, 2, 2)", map.setSeam(false, 2, 2), 1);
        values(map, 4, 3, 2, 2, 1, 1);
        check.due("setSeam(false, 0, 0)", map.setSeam(false, 0, 0), 1);
        values(map, 4, 3, 0, 0, 1, 1);
    }

    private static void setSeamWithWrongArguments() {
        check.promise(3, "setSeam");
        SeamMap map = Check.map("0011/2203/1100");
        map.setSeam(false, 1, 1);
        map.setSeam(true, 2, 2);
        String before = Check.everything(map);
        boolean[] ends = {false, true};
        for (boolean end : ends) {
            int shifts = end ? 4 : 3;
            int[] wrongKinds = {LEAST, -1, 3, MOST};
            for (int kind : wrongKinds) {
                check.due("setSeam(" + end + ", " + kind + ", 0)",
                        map.setSeam(end, kind, 0), BAD_VALUE);
            }
            int[] wrongShifts = {LEAST, -1, shifts, MOST};
            for (int shift : wrongShifts) {
                for (int kind = 0; kind <= 2; kind++) {
                    check.due("setSeam(" + end + ", " + kind + ", " + shift + ")",
                            map.setSeam(end, kind, shift), BAD_VALUE);
                }
            }
        }
        check.isTrue("nothing changes", before.equals(Check.everything(map)));
    }

    private static void seamsAreNoEdits() {
        check.promise(3, "setSeam");
        SeamMap map = Check.map("0101/0101/0101");
        map.setTile(5, 3);
        check.due("value(8)", map.value(8), 2);
        map.setSeam(false, 1, 0);
        check.due("value(8)", map.value(8), 2);
        check.due("undo()", map.undo(), 1);
        check.due("value(2)", map.value(2), 1);
        check.due("kind(5)", map.kind(5), 1);
    }

    private static void value() {
        check.promise(4, "value");
        SeamMap map = new SeamMap();
        map.setSeam(false, 1, 4);
        values(map, 6, 5, 1, 4, 0, 0, 1, 108, 0);
        map.setSeam(true, 2, 5);
        values(map, 6, 5, 1, 4, 2, 5, 1, 120, 0);
        map.setSeam(false, 0, 4);
        values(map, 6, 5, 0, 4, 2, 5, 1, 110, 0);
        map.setTile(8, 1);
        map.setTile(22, 1);
        values(map, 6, 5, 0, 4, 2, 5, 3, 110, 2);
        for (int edit = 3; edit <= 15; edit++) {
            map.setTile(0, 0);
            check.due("value(8)", map.value(8), Math.min(edit, 12));
        }
        int[] wrong = {LEAST, -1, 9, 10, MOST};
        for (int what : wrong) {
            check.due("value(" + what + ")", map.value(what), BAD_VALUE);
        }
    }

    private static void kind() {
        check.promise(5, "kind");
        SeamMap map = Check.map("0123/4501/2345");
        int[] due = {0, 1, 2, 3, 4, 5, 0, 1, 2, 3, 4, 5};
        for (int tile = 0; tile < due.length; tile++) {
            check.due("kind(" + tile + ")", map.kind(tile), due[tile]);
        }
        int[] wrong = {LEAST, -1, 12, 143, 144, MOST};
        for (int tile : wrong) {
            check.due("kind(" + tile + ")", map.kind(tile), UNKNOWN);
        }
    }

    private static void neighboursInside() {
        check.promise(6, "neighbour");
        SeamMap map = new SeamMap();
        map.reset(4, 3);
        neighbours(map, 0, 0, 1, 2, 3, 3, NONE, 5, 6, 7, NONE, 10, 11, 11, NONE);
        neighbours(map, 1, 0, 4, 3, 7, 6, 10, 8, NONE, 11, NONE);
        neighbours(map, 2, 0, NONE, 1, 0, 4, NONE, 7, 6, 8, NONE, 11, 10);
        neighbours(map, 3, 0, NONE, 3, NONE, 4, 0, 6, 2, 11, 7);
    }

    private static void neighboursOverWrappedSeams() {
        check.promise(6, "neighbour");
        SeamMap map = new SeamMap();
        map.reset(4, 3);
        map.setSeam(false, 1, 2);
        neighbours(map, 0, 3, 8, 7, 0, 11, 4, 5, 6);
        neighbours(map, 2, 8, 3, 0, 7, 4, 11, 6, 5);
        neighbours(map, 1, 8, NONE, 3, 7);
        map.setSeam(true, 1, 3);
        neighbours(map, 1, 8, 3, 9, 0, 10, 1, 11, 2, 4, 8);
        neighbours(map, 3, 3, 8, 0, 9, 1, 10, 2, 11, 8, 4);
        map.setSeam(false, 0, 2);
        neighbours(map, 0, 3, NONE, 7, NONE, 11, NONE);
        neighbours(map, 2, 0, NONE, 4, NONE, 8, NONE);
        neighbours(map, 1, 8, 3, 11, 2);
        map.setSeam(true, 1, 0);
        neighbours(map, 1, 8, 0, 9, 1, 10, 2, 11, 3);
        neighbours(map, 3, 0, 8, 1, 9, 2, 10, 3, 11);
    }

    private static void neighboursOverFlippedSeams() {
        check.promise(6, "neighbour");
        SeamMap map = new SeamMap();
        map.reset(4, 3);
        map.setSeam(false, 2, 1);
        neighbours(map, 0, 3, 4, 7, 0, 11, 8);
        neighbours(map, 2, 4, 3, 0, 7, 8, 11);
        map.setSeam(true, 2, 0);
        neighbours(map, 1, 8, 0, 9, 3, 10, 2, 11, 1);
        neighbours(map, 3, 0, 8, 3, 9, 2, 10, 1, 11);
        map.setSeam(true, 2, 3);
        neighbours(map, 1, 8, 3, 9, 2, 10, 1, 11, 0);
        neighbours(map, 3, 3, 8, 2, 9, 1, 10, 0, 11);
    }

    /** The last tile and the first one can be neighbours over both seams at once. */
    private static void neighboursAtTheDoubleCorner() {
        check.promise(6, "neighbour");
        SeamMap map = new SeamMap();
        map.reset(3, 3);
        map.setSeam(false, 1, 1);
        map.setSeam(true, 2, 2);
        check.due("neighbour(8, 0)", map.neighbour(8, 0), 0);
        check.due("neighbour(8, 1)", map.neighbour(8, 1), 0);
        check.due("neighbour(0, 2)", map.neighbour(0, 2), 8);
        check.due("neighbour(0, 3)", map.neighbour(0, 3), 8);
        check.due("value(7)", map.value(7), 36);
    }

    private static void neighbourWithWrongArguments() {
        check.promise(6, "neighbour");
        SeamMap map = new SeamMap();
        int[] wrongTiles = {LEAST, -1, 30, 144, MOST};
        for (int tile : wrongTiles) {
            check.due("neighbour(" + tile + ", 0)", map.neighbour(tile, 0), UNKNOWN);
            check.due("neighbour(" + tile + ", 4)", map.neighbour(tile, 4), UNKNOWN);
        }
        int[] wrongDirections = {LEAST, -1, 4, MOST};
        for (int direction : wrongDirections) {
            check.due("neighbour(0, " + direction + ")", map.neighbour(0, direction), BAD_VALUE);
            check.due("neighbour(29, " + direction + ")", map.neighbour(29, direction), BAD_VALUE);
        }
    }
}
