/** Promises 11 to 13: setTile, fill, undo. */
public final class EditsTest {
    private static final int UNKNOWN = SeamMap.UNKNOWN;
    private static final int BAD_VALUE = SeamMap.BAD_VALUE;
    private static final int NONE = SeamMap.NONE;
    private static final int LEAST = Integer.MIN_VALUE;
    private static final int MOST = Integer.MAX_VALUE;
    private static final int[] WRONG_TILES = {LEAST, -1, 12, 144, MOST};
    private static final int[] WRONG_KINDS = {LEAST, -1, 6, MOST};

    private static final Check check = new Check("EditsTest");

    public static void main(String[] arguments) {
        setTile();
        setTileRepairsLabels();
        setTileOverSeams();
        setTileWithWrongArguments();
        fill();
        fillWithTheSameKind();
        fillOverSeams();
        fillWithWrongArguments();
        undo();
        undoOfEachEdit();
        undoLeavesSeamsAndWeights();
        historyOfTwelveMaps();
        check.end();
    }

    private static void setTile() {
        check.promise(11, "setTile");
        SeamMap map = new SeamMap();
        map.reset(4, 3);
        check.due("setTile(0, 1)", map.setTile(0, 1), 11);
        check.due("kind(0)", map.kind(0), 1);
        check.labels(map, 0, 1, 1, 1, 1, 1, 1, 1, 1, 1, 1, 1);
        check.due("setTile(0, 1)", map.setTile(0, 1), 0);
        check.due("value(8)", map.value(8), 2);
        check.due("setTile(0, 5)", map.setTile(0, 5), 0);
        check.due("setTile(0, 0)", map.setTile(0, 0), 11);
        check.due("value(8)", map.value(8), 4);
        check.due("value(6)", map.value(6), 1);
    }

    private static void setTileRepairsLabels() {
        check.promise(11, "setTile");
        SeamMap map = new SeamMap();
        map.reset(4, 3);
        check.due("setTile(1, 2)", map.setTile(1, 2), 0);
        check.due("setTile(5, 2)", map.setTile(5, 2), 0);
        check.due("setTile(9, 2)", map.setTile(9, 2), 6);
        check.labels(map, 0, 1, 2, 2, 0, 1, 2, 2, 0, 1, 2, 2);
        check.due("setTile(2, 2)", map.setTile(2, 2), 5);
        check.labels(map, 0, 1, 1, 3, 0, 1, 3, 3, 0, 1, 3, 3);
        check.due("setTile(1, 0)", map.setTile(1, 0), 3);
        check.labels(map, 0, 0, 2, 3, 0, 5, 3, 3, 0, 5, 3, 3);
    }

    private static void setTileOverSeams() {
        check.promise(11, "setTile");
        SeamMap map = new SeamMap();
        map.reset(4, 3);
        map.setSeam(false, 1, 1);
        check.due("setTile(1, 2)", map.setTile(1, 2), 0);
        check.due("setTile(5, 2)", map.setTile(5, 2), 0);
        check.due("setTile(9, 2)", map.setTile(9, 2), 0);
        check.due("value(6)", map.value(6), 2);
        check.due("setTile(0, 2)", map.setTile(0, 2), 11);
        check.labels(map, 0, 0, 2, 2, 2, 0, 2, 2, 2, 0, 2, 2);
    }

    private static void setTileWithWrongArguments() {
        check.promise(11, "setTile");
        SeamMap map = Check.map("0101/2222/3434");
        String before = Check.everything(map);
        for (int tile : WRONG_TILES) {
            check.due("setTile(" + tile + ", 0)", map.setTile(tile, 0), UNKNOWN);
            check.due("setTile(" + tile + ", 6)", map.setTile(tile, 6), UNKNOWN);
        }
        for (int kind : WRONG_KINDS) {
            check.due("setTile(0, " + kind + ")", map.setTile(0, kind), BAD_VALUE);
            check.due("setTile(11, " + kind + ")", map.setTile(11, kind), BAD_VALUE);
        }
        check.isTrue("nothing changes", before.equals(Check.everything(map)));
    }

    private static void fill() {
        check.promise(12, "fill");
        SeamMap map = Check.map("0200/0200/0200");
        check.due("fill(4, 1)", map.fill(4, 1), 3);
        check.kinds(map, 1, 2, 0, 0, 1, 2, 0, 0, 1, 2, 0, 0);
        check.due("fill(11, 2)", map.fill(11, 2), 9);
        check.kinds(map, 1, 2, 2, 2, 1, 2, 2, 2, 1, 2, 2, 2);
        check.labels(map, 0, 1, 1, 1, 0, 1, 1, 1, 0, 1, 1, 1);
        check.due("fill(6, 1)", map.fill(6, 1), 12);
        check.due("value(6)", map.value(6), 1);
        check.due("value(8)", map.value(8), 4);
    }

    private static void fillWithTheSameKind() {
        check.promise(12, "fill");
        SeamMap map = Check.map("0200/0200/0200");
        check.due("fill(1, 2)", map.fill(1, 2), 3);
        check.due("fill(2, 0)", map.fill(2, 0), 6);
        check.due("value(8)", map.value(8), 3);
        check.kinds(map, 0, 2, 0, 0, 0, 2, 0, 0, 0, 2, 0, 0);
    }

    private static void fillOverSeams() {
        check.promise(12, "fill");
        SeamMap map = Check.map("0211/3222/1120");
        map.setSeam(false, 2, 2);
        check.due("fill(0, 4), beside 11 over the seam", map.fill(0, 4), 2);
        check.kinds(map, 4, 2, 1, 1, 3, 2, 2, 2, 1, 1, 2, 4);
        check.due("fill(8, 5)", map.fill(8, 5), 4);
        check.kinds(map, 4, 2, 5, 5, 3, 2, 2, 2, 5, 5, 2, 4);
    }

    private static void fillWithWrongArguments() {
        check.promise(12, "fill");
        SeamMap map = Check.map("0101/2222/3434");
        String before = Check.everything(map);
        for (int tile : WRONG_TILES) {
            check.due("fill(" + tile + ", 0)", map.fill(tile, 0), UNKNOWN);
            check.due("fill(" + tile + ", -1)", map.fill(tile, -1), UNKNOWN);
        }
        for (int kind : WRONG_KINDS) {
            check.due("fill(0, " + kind + ")", map.fill(0, kind), BAD_VALUE);
            check.due("fill(11, " + kind + ")", map.fill(11, kind), BAD_VALUE);
        }
        check.isTrue("nothing changes", before.equals(Check.everything(map)));
    }

    private static void undo() {
        check.promise(13, "undo");
        SeamMap map = new SeamMap();
        check.due("undo()", map.undo(), NONE);
        map.setTile(3, 1);
        check.due("undo()", map.undo(), 0);
        check.due("kind(3)", map.kind(3), 0);
        check.due("undo()", map.undo(), NONE);
        map.setTile(3, 1);
        map.setTile(3, 2);
        check.due("undo()", map.undo(), 1);
        check.due("kind(3)", map.kind(3), 1);
        map.setTile(4, 1);
        check.due("undo()", map.undo(), 1);
        check.due("kind(4)", map.kind(4), 0);
        check.due("undo()", map.undo(), 0);
        check.due("kind(3)", map.kind(3), 0);
        map.setTile(3, 1);
        map.reset(6, 5);
        check.due("undo() after a reset", map.undo(), NONE);
    }

    private static void undoOfEachEdit() {
        check.promise(13, "undo");
        SeamMap map = new SeamMap();
        map.reset(4, 3);
        Check.type(map, "0200/0200/0200");
        map.readTiles();
        map.fill(0, 1);
        map.setTile(0, 3);
        map.setTile(0, 6);
        map.fill(12, 0);
        map.type('0');
        map.readTiles();
        check.due("value(8), as errors are no edits", map.value(8), 3);
        check.kinds(map, 3, 2, 0, 0, 1, 2, 0, 0, 1, 2, 0, 0);
        check.due("undo()", map.undo(), 2);
        check.kinds(map, 1, 2, 0, 0, 1, 2, 0, 0, 1, 2, 0, 0);
        check.due("undo()", map.undo(), 1);
        check.kinds(map, 0, 2, 0, 0, 0, 2, 0, 0, 0, 2, 0, 0);
        check.labels(map, 0, 1, 2, 2, 0, 1, 2, 2, 0, 1, 2, 2);
        check.due("undo()", map.undo(), 0);
        check.kinds(map, 0, 0, 0, 0, 0, 0, 0, 0, 0, 0, 0, 0);
        check.due("value(6)", map.value(6), 1);
        check.due("clearText(), as the text stays", map.clearText(), 15);
    }

    private static void undoLeavesSeamsAndWeights() {
        check.promise(13, "undo");
        SeamMap map = Check.map("0200/0200/0200");
        map.setTile(0, 2);
        map.setSeam(false, 1, 0);
        map.setSeam(true, 2, 3);
        map.setWeight(2, 9);
        check.due("undo()", map.undo(), 1);
        check.due("value(2)", map.value(2), 1);
        check.due("value(4)", map.value(4), 2);
        check.due("value(5)", map.value(5), 3);
        check.labels(map, 0, 1, 0, 0, 0, 1, 0, 0, 0, 1, 0, 0);
        check.due("setWeight(2, 0)", map.setWeight(2, 0), 9);
    }

    private static void historyOfTwelveMaps() {
        check.promise(13, "undo");
        for (int edits = 11; edits <= 30; edits++) {
            SeamMap map = new SeamMap();
            for (int edit = 1; edit <= edits; edit++) {
                map.setTile(edit % 7, edit % 6);
            }
            int kept = Math.min(edits, 12);
            check.due("value(8) after " + edits, map.value(8), kept);
            for (int edit = edits; edit > edits - kept; edit--) {
                check.due("kind after " + edit, map.kind(edit % 7), edit % 6);
                check.due("undo() of " + edit, map.undo(), kept - 1 - edits + edit);
                int former = edit > 7 ? (edit - 7) % 6 : 0;
                check.due("kind before " + edit, map.kind(edit % 7), former);
            }
            check.due("undo()", map.undo(), NONE);
        }
        SeamMap map = new SeamMap();
        for (int edit = 0; edit < 60; edit++) {
            map.setTile(edit % 30, edit % 4 + 1);
            if (edit % 4 == 3) {
                map.undo();
            }
        }
        check.due("value(8)", map.value(8), 11);
        check.due("kind(28)", map.kind(28), 3);
        check.due("kind(29), whose latest edit is undone", map.kind(29), 2);
    }
}
