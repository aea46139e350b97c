/** What the document says of promises 1 to 6: a new object, reset, setSeam, value and so on. */
final class MapSentences {
    private static final int UNKNOWN = SeamMap.UNKNOWN;
    private static final int BAD_VALUE = SeamMap.BAD_VALUE;
    private static final int FULL = SeamMap.FULL;
    private static final int NONE = SeamMap.NONE;
    private static final int LEAST = Integer.MIN_VALUE;
    private static final int MOST = Integer.MAX_VALUE;

    private static final Check check = SentencesTest.check;

    private MapSentences() {
    }

    static void tell(Sentences all) {
        all.section("Promise 1");
        all.says("Creates a map of 6 columns and 5 rows.", MapSentences::newObject);
        tellReset(all);
        tellSetSeam(all);
        all.section("Promise 4");
        all.says("what: 0 for w, 1 for h, 2 for the kind and 3 for the shift of the side seam, 4"
                + " for the kind and 5 for the shift of the end seam, 6 for the number of parts, 7"
                + " for the number of pairs of a tile and a direction in which it has a neighbour,"
                + " 8 for how many edits can be undone", MapSentences::valueWhat);
        all.says("Returns the number; BAD_VALUE.", MapSentences::valueReturns);
        all.section("Promise 5");
        all.says("tile: a tile", MapSentences::kindTile);
        all.says("Returns its kind; UNKNOWN.", MapSentences::kindReturns);
        all.section("Promise 6");
        all.says("tile: a tile", MapSentences::neighbourTile);
        all.says("direction: 0 to 3", MapSentences::neighbourDirection);
        all.says("Returns the index of the neighbour; UNKNOWN; BAD_VALUE; NONE if there is none.",
                MapSentences::neighbourReturns);
    }

    private static void tellReset(Sentences all) {
        all.section("Promise 2");
        all.says("Starts anew with another size: all tiles have the kind 0, both seams are closed"
                + " with the shift 0, all weights are 1, and nothing can be undone.",
                MapSentences::resetStartsAnew);
        all.says("The text stays.", MapSentences::resetLeavesTheText);
        all.says("columns: w, 3 to 12", MapSentences::resetColumns);
        all.says("rows: h, 3 to 12", MapSentences::resetRows);
        all.says("Returns the number of tiles; BAD_VALUE.", MapSentences::resetReturns);
    }

    private static void tellSetSeam(Sentences all) {
        all.section("Promise 3");
        all.says("Sets a seam.", MapSentences::setSeam);
        all.says("end: false for the side seam, true for the end seam", MapSentences::setSeamEnd);
        all.says("kind: 0 to 2", MapSentences::setSeamKind);
        all.says("shift: 0 to h - 1 for the side seam, 0 to w - 1 for the end seam",
                MapSentences::setSeamShift);
        all.says("Returns 1 if this changes its kind or its shift, otherwise 0; BAD_VALUE.",
                MapSentences::setSeamReturns);
    }

    private static SeamMap sized(int columns, int rows) {
        SeamMap map = new SeamMap();
        map.reset(columns, rows);
        return map;
    }

    /** The answers of value for what 0, 1, 2, ... */
    private static void values(SeamMap map, int... due) {
        for (int what = 0; what < due.length; what++) {
            check.due("value(" + what + ")", map.value(what), due[what]);
        }
    }

    private static void setSeam(SeamMap map, boolean end, int kind, int shift, int due) {
        check.due("setSeam(" + end + ", " + kind + ", " + shift + ")",
                map.setSeam(end, kind, shift), due);
    }

    private static void newObject() {
        SeamMap map = new SeamMap();
        values(map, 6, 5, 0, 0, 0, 0, 1, 98, 0);
        check.due("kind(29)", map.kind(29), 0);
        check.due("kind(30)", map.kind(30), UNKNOWN);
        check.due("neighbour(5, 0)", map.neighbour(5, 0), NONE);
        check.due("neighbour(5, 1)", map.neighbour(5, 1), 11);
        check.due("neighbour(24, 1)", map.neighbour(24, 1), NONE);
        check.due("clearText()", map.clearText(), 0);
        check.due("undo()", map.undo(), NONE);
    }

    private static SeamMap used() {
        SeamMap map = new SeamMap();
        map.setSeam(false, 2, 4);
        map.setSeam(true, 1, 5);
        for (int tile = 0; tile < 30; tile++) {
            map.setTile(tile, 1 + tile % 5);
        }
        for (int kind = 0; kind <= 5; kind++) {
            map.setWeight(kind, kind < 3 ? 0 : 9);
        }
        return map;
    }

    private static void resetStartsAnew() {
        startsAnew(used(), 6, 5);
        startsAnew(used(), 3, 3);
        startsAnew(used(), 12, 12);
        startsAnew(used(), 5, 6);
        SeamMap map = sized(12, 12);
        map.fill(0, 5);
        map.reset(3, 3);
        startsAnew(map, 12, 12);
    }

    private static void startsAnew(SeamMap map, int w, int h) {
        map.reset(w, h);
        values(map, w, h, 0, 0, 0, 0, 1, 2 * ((w - 1) * h + w * (h - 1)), 0);
        for (int tile = 0; tile < w * h; tile++) {
            check.due("kind(" + tile + ")", map.kind(tile), 0);
        }
        check.due("label of the last tile", map.label(w * h - 1), 0);
        check.due("neighbour(0, 2)", map.neighbour(0, 2), NONE);
        check.due("neighbour(0, 3)", map.neighbour(0, 3), NONE);
        check.due("distance(0, 1)", map.distance(0, 1), 2);
        for (int kind = 0; kind <= 5; kind++) {
            check.due("setWeight(" + kind + ", 1)", map.setWeight(kind, 1), 1);
        }
        check.due("undo()", map.undo(), NONE);
        check.due("kind(0)", map.kind(0), 0);
    }

    private static void resetLeavesTheText() {
        SeamMap map = new SeamMap();
        Check.type(map, "012/345/012");
        map.reset(3, 3);
        check.due("readTiles()", map.readTiles(), 7);
        map.reset(4, 3);
        check.due("readTiles()", map.readTiles(), -103);
        check.due("clearText()", map.clearText(), 11);
        for (int length = 1; length <= 160; length++) {
            map.type('r');
        }
        map.reset(3, 3);
        check.due("type('r')", map.type('r'), FULL);
        check.due("clearText()", map.clearText(), 160);
    }

    private static void resetColumns() {
        SeamMap map = new SeamMap();
        check.due("reset(3, 7)", map.reset(3, 7), 21);
        check.due("value(0)", map.value(0), 3);
        check.due("reset(12, 7)", map.reset(12, 7), 84);
        check.due("value(0)", map.value(0), 12);
        int[] wrong = {LEAST, -1, 0, 1, 2, 13, 14, 144, MOST};
        for (int columns : wrong) {
            check.due("reset(" + columns + ", 7)", map.reset(columns, 7), BAD_VALUE);
        }
        check.due("value(0)", map.value(0), 12);
    }

    private static void resetRows() {
        SeamMap map = new SeamMap();
        check.due("reset(7, 3)", map.reset(7, 3), 21);
        check.due("value(1)", map.value(1), 3);
        check.due("reset(7, 12)", map.reset(7, 12), 84);
        check.due("value(1)", map.value(1), 12);
        int[] wrong = {LEAST, -1, 0, 1, 2, 13, 14, 144, MOST};
        for (int rows : wrong) {
            check.due("reset(7, " + rows + ")", map.reset(7, rows), BAD_VALUE);
        }
        check.due("value(1)", map.value(1), 12);
    }

    private static void resetReturns() {
        SeamMap map = new SeamMap();
        for (int columns = 3; columns <= 12; columns++) {
            for (int rows = 3; rows <= 12; rows++) {
                check.due("reset(" + columns + ", " + rows + ")", map.reset(columns, rows),
                        columns * rows);
            }
        }
        check.due("reset(12, 12), as it is already", map.reset(12, 12), 144);
        check.due("reset(2, 2)", map.reset(2, 2), BAD_VALUE);
        check.due("reset(13, 13)", map.reset(13, 13), BAD_VALUE);
        check.due("reset(2, 13)", map.reset(2, 13), BAD_VALUE);
        check.due("reset(13, 2)", map.reset(13, 2), BAD_VALUE);
    }

    private static void setSeam() {
        SeamMap map = Check.map("0110/1111/0112");
        check.labels(map, 0, 1, 1, 3, 1, 1, 1, 1, 8, 1, 1, 11);
        map.setSeam(false, 1, 0);
        values(map, 4, 3, 1, 0, 0, 0, 4, 40, 1);
        check.labels(map, 0, 1, 1, 0, 1, 1, 1, 1, 8, 1, 1, 11);
        map.setSeam(true, 1, 0);
        values(map, 4, 3, 1, 0, 1, 0, 3, 48, 1);
        check.labels(map, 0, 1, 1, 0, 1, 1, 1, 1, 0, 1, 1, 11);
        check.due("distance(0, 11)", map.distance(0, 11), 4);
        map.setSeam(false, 0, 2);
        values(map, 4, 3, 0, 2, 1, 0, 4, 42, 1);
        check.labels(map, 0, 1, 1, 3, 1, 1, 1, 1, 0, 1, 1, 11);
        map.setSeam(true, 0, 3);
        values(map, 4, 3, 0, 2, 0, 3, 5, 34, 1);
        check.labels(map, 0, 1, 1, 3, 1, 1, 1, 1, 8, 1, 1, 11);
    }

    private static void setSeamEnd() {
        SeamMap map = sized(4, 3);
        map.setSeam(false, 1, 2);
        values(map, 4, 3, 1, 2, 0, 0);
        check.due("neighbour(3, 0)", map.neighbour(3, 0), 8);
        check.due("neighbour(8, 1)", map.neighbour(8, 1), NONE);
        map.setSeam(true, 2, 1);
        values(map, 4, 3, 1, 2, 2, 1);
        check.due("neighbour(3, 0)", map.neighbour(3, 0), 8);
        check.due("neighbour(8, 1)", map.neighbour(8, 1), 1);
        map.setSeam(false, 0, 0);
        values(map, 4, 3, 0, 0, 2, 1);
        check.due("neighbour(3, 0)", map.neighbour(3, 0), NONE);
        check.due("neighbour(8, 1)", map.neighbour(8, 1), 1);
    }

    private static void setSeamKind() {
        boolean[] ends = {false, true};
        for (boolean end : ends) {
            SeamMap map = new SeamMap();
            for (int kind = 2; kind >= 0; kind--) {
                setSeam(map, end, kind, 3, 1);
                check.due("the kind", map.value(end ? 4 : 2), kind);
            }
            int[] wrong = {LEAST, -2, -1, 3, 4, MOST};
            for (int kind : wrong) {
                setSeam(map, end, kind, 3, BAD_VALUE);
                setSeam(map, end, kind, 0, BAD_VALUE);
            }
            check.due("the kind", map.value(end ? 4 : 2), 0);
        }
    }

    private static void setSeamShift() {
        int[] sizes = {3, 12, 12, 3, 6, 5};
        for (int i = 0; i < sizes.length; i += 2) {
            SeamMap map = sized(sizes[i], sizes[i + 1]);
            for (int kind = 0; kind <= 2; kind++) {
                setSeam(map, false, kind, 0, kind == 0 ? 0 : 1);
                setSeam(map, false, kind, sizes[i + 1] - 1, 1);
                setSeam(map, false, kind, sizes[i + 1], BAD_VALUE);
                setSeam(map, false, kind, -1, BAD_VALUE);
                setSeam(map, false, kind, LEAST, BAD_VALUE);
                setSeam(map, false, kind, MOST, BAD_VALUE);
                setSeam(map, true, kind, 0, kind == 0 ? 0 : 1);
                setSeam(map, true, kind, sizes[i] - 1, 1);
                setSeam(map, true, kind, sizes[i], BAD_VALUE);
                setSeam(map, true, kind, -1, BAD_VALUE);
                setSeam(map, true, kind, LEAST, BAD_VALUE);
                setSeam(map, true, kind, MOST, BAD_VALUE);
            }
            values(map, sizes[i], sizes[i + 1], 2, sizes[i + 1] - 1, 2, sizes[i] - 1);
        }
    }

    private static void setSeamReturns() {
        boolean[] ends = {false, true};
        for (boolean end : ends) {
            SeamMap map = new SeamMap();
            setSeam(map, end, 0, 0, 0);
            setSeam(map, end, 0, 1, 1);
            setSeam(map, end, 0, 1, 0);
            setSeam(map, end, 1, 1, 1);
            setSeam(map, end, 1, 1, 0);
            setSeam(map, end, 2, 1, 1);
            setSeam(map, end, 2, 1, 0);
            setSeam(map, end, 2, 4, 1);
            setSeam(map, end, 1, 0, 1);
            // the other seam is as it was
            setSeam(map, !end, 0, 0, 0);
            setSeam(map, end, 3, 0, BAD_VALUE);
            setSeam(map, end, 1, 6, BAD_VALUE);
            setSeam(map, end, -1, -1, BAD_VALUE);
            setSeam(map, end, 1, 0, 0);
        }
    }

    private static void valueWhat() {
        SeamMap map = sized(3, 12);
        values(map, 3, 12, 0, 0, 0, 0, 1, 2 * (2 * 12 + 3 * 11), 0);
        map.setSeam(false, 2, 11);
        map.setSeam(true, 1, 2);
        values(map, 3, 12, 2, 11, 1, 2, 1, 144, 0);
        map = sized(12, 12);
        values(map, 12, 12, 0, 0, 0, 0, 1, 2 * (11 * 12 + 12 * 11), 0);
        Check.type(map, "010101010101");
        for (int row = 1; row < 12; row++) {
            Check.type(map, row % 2 == 0 ? "/010101010101" : "/101010101010");
        }
        map.readTiles();
        values(map, 12, 12, 0, 0, 0, 0, 144, 528, 1);
        map.setSeam(false, 1, 0);
        values(map, 12, 12, 1, 0, 0, 0, 144, 552, 1);
        map.setSeam(true, 2, 1);
        values(map, 12, 12, 1, 0, 2, 1, 132, 576, 1);
        for (int edits = 2; edits <= 13; edits++) {
            map.setTile(0, 0);
            check.due("value(8)", map.value(8), Math.min(edits, 12));
        }
        for (int left = 11; left >= 0; left--) {
            map.undo();
            check.due("value(8)", map.value(8), left);
        }
    }

    private static void valueReturns() {
        SeamMap map = new SeamMap();
        check.due("value(0)", map.value(0), 6);
        check.due("value(8)", map.value(8), 0);
        int[] wrong = {LEAST, -5, -2, -1, 9, 10, 16, 256, MOST};
        for (int what : wrong) {
            check.due("value(" + what + ")", map.value(what), BAD_VALUE);
        }
    }

    private static void kindTile() {
        SeamMap map = Check.map("1230/4504/0005");
        check.due("kind(0)", map.kind(0), 1);
        check.due("kind(11)", map.kind(11), 5);
        check.due("kind(-1)", map.kind(-1), UNKNOWN);
        check.due("kind(12)", map.kind(12), UNKNOWN);
        map.reset(12, 12);
        check.due("kind(143)", map.kind(143), 0);
        check.due("kind(144)", map.kind(144), UNKNOWN);
        map.reset(3, 3);
        check.due("kind(8)", map.kind(8), 0);
        check.due("kind(9), which was a tile", map.kind(9), UNKNOWN);
    }

    private static void kindReturns() {
        SeamMap map = Check.map("012345/543210/000000");
        check.kinds(map, 0, 1, 2, 3, 4, 5, 5, 4, 3, 2, 1, 0, 0, 0, 0, 0, 0, 0);
        int[] wrong = {LEAST, -6, -1, 18, 30, 144, MOST};
        for (int tile : wrong) {
            check.due("kind(" + tile + ")", map.kind(tile), UNKNOWN);
        }
    }

    private static void neighbourTile() {
        SeamMap map = sized(12, 12);
        check.due("neighbour(0, 0)", map.neighbour(0, 0), 1);
        check.due("neighbour(143, 3)", map.neighbour(143, 3), 131);
        map.reset(3, 3);
        check.due("neighbour(8, 2)", map.neighbour(8, 2), 7);
        int[] wrong = {LEAST, -1, 9, 143, MOST};
        for (int tile : wrong) {
            for (int direction = 0; direction <= 3; direction++) {
                check.due("neighbour(" + tile + ", " + direction + ")",
                        map.neighbour(tile, direction), UNKNOWN);
            }
        }
    }

    private static void neighbourDirection() {
        SeamMap map = sized(3, 3);
        int[] due = {5, 7, 3, 1};
        for (int direction = 0; direction <= 3; direction++) {
            check.due("neighbour(4, " + direction + ")", map.neighbour(4, direction),
                    due[direction]);
        }
        int[] wrong = {LEAST, -4, -1, 4, 5, MOST};
        for (int direction : wrong) {
            check.due("neighbour(4, " + direction + ")", map.neighbour(4, direction), BAD_VALUE);
            check.due("neighbour(0, " + direction + ")", map.neighbour(0, direction), BAD_VALUE);
            check.due("neighbour(8, " + direction + ")", map.neighbour(8, direction), BAD_VALUE);
        }
    }

    private static void neighbourReturns() {
        SeamMap map = sized(4, 3);
        check.due("neighbour(3, 0)", map.neighbour(3, 0), NONE);
        check.due("neighbour(4, 2)", map.neighbour(4, 2), NONE);
        check.due("neighbour(8, 1)", map.neighbour(8, 1), NONE);
        check.due("neighbour(2, 3)", map.neighbour(2, 3), NONE);
        map.setSeam(false, 1, 2);
        map.setSeam(true, 2, 1);
        check.due("neighbour(3, 0)", map.neighbour(3, 0), 8);
        check.due("neighbour(4, 2)", map.neighbour(4, 2), 11);
        check.due("neighbour(8, 1)", map.neighbour(8, 1), 1);
        check.due("neighbour(2, 3)", map.neighbour(2, 3), 11);
        check.due("neighbour(12, 4)", map.neighbour(12, 4), UNKNOWN);
        check.due("neighbour(11, 4)", map.neighbour(11, 4), BAD_VALUE);
    }
}
