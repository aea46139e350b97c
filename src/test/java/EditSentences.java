/** What the document says of promises 11 to 13: setTile, fill, undo. */
final class EditSentences {
    private static final int UNKNOWN = SeamMap.UNKNOWN;
    private static final int BAD_VALUE = SeamMap.BAD_VALUE;
    private static final int NONE = SeamMap.NONE;
    private static final int LEAST = Integer.MIN_VALUE;
    private static final int MOST = Integer.MAX_VALUE;
    private static final int[] WRONG_TILES = {LEAST, -1, 12, 30, 144, MOST};
    private static final int[] WRONG_KINDS = {LEAST, -1, 6, 7, MOST};

    private static final Check check = SentencesTest.check;

    private EditSentences() {
    }

    static void tell(Sentences all) {
        all.section("Promise 11");
        all.says("Sets the kind of a tile.", EditSentences::setTileSets);
        all.says("This is an edit, also if the tile has this kind already.",
                EditSentences::setTileIsAnEdit);
        all.says("tile: a tile", EditSentences::setTileTile);
        all.says("kind: 0 to 5", EditSentences::setTileKind);
        all.says("Returns the number of other tiles whose labels change by this; UNKNOWN;"
                + " BAD_VALUE.", EditSentences::setTileReturns);
        all.section("Promise 12");
        all.says("Gives all tiles of a part another kind.", EditSentences::fillGives);
        all.says("This is an edit, also if they have this kind already.",
                EditSentences::fillIsAnEdit);
        all.says("tile: a tile of the part", EditSentences::fillTile);
        all.says("kind: 0 to 5", EditSentences::fillKind);
        all.says("Returns the number of tiles of the part to which the tile belongs then; UNKNOWN;"
                + " BAD_VALUE.", EditSentences::fillReturns);
        all.section("Promise 13");
        all.says("Undoes the latest edit: a call of readTiles(), setTile() or fill() that reported"
                + " no error.", EditSentences::undoUndoes);
        all.says("A history of at most 12 maps is kept; when one more is recorded, the oldest one"
                + " is dropped.", EditSentences::undoHistory);
        all.says("Seams and weights stay as they are.", EditSentences::undoLeaves);
        all.says("Returns how many more can be undone; NONE if there is none.",
                EditSentences::undoReturns);
    }

    private static SeamMap sized(int columns, int rows) {
        SeamMap map = new SeamMap();
        map.reset(columns, rows);
        return map;
    }

    private static void setTile(SeamMap map, int tile, int kind, int due) {
        check.due("setTile(" + tile + ", " + kind + ")", map.setTile(tile, kind), due);
    }

    private static void fill(SeamMap map, int tile, int kind, int due) {
        check.due("fill(" + tile + ", " + kind + ")", map.fill(tile, kind), due);
    }

    private static void undo(SeamMap map, int due) {
        check.due("undo()", map.undo(), due);
    }

    private static void value(SeamMap map, int what, int due) {
        check.due("value(" + what + ")", map.value(what), due);
    }

    private static void setTileSets() {
        SeamMap map = sized(4, 3);
        map.setTile(0, 5);
        check.kinds(map, 5, 0, 0, 0, 0, 0, 0, 0, 0, 0, 0, 0);
        map.setTile(11, 4);
        check.kinds(map, 5, 0, 0, 0, 0, 0, 0, 0, 0, 0, 0, 4);
        map.setTile(0, 0);
        check.kinds(map, 0, 0, 0, 0, 0, 0, 0, 0, 0, 0, 0, 4);
        map.setTile(5, 3);
        check.kinds(map, 0, 0, 0, 0, 0, 3, 0, 0, 0, 0, 0, 4);
    }

    private static void setTileIsAnEdit() {
        SeamMap map = sized(4, 3);
        map.setTile(3, 2);
        value(map, 8, 1);
        map.setTile(3, 2);
        value(map, 8, 2);
        undo(map, 1);
        check.due("kind(3)", map.kind(3), 2);
        undo(map, 0);
        check.due("kind(3)", map.kind(3), 0);
        undo(map, NONE);
        map.setTile(3, 0);
        value(map, 8, 1);
        undo(map, 0);
        map.setTile(12, 0);
        map.setTile(0, 6);
        undo(map, NONE);
    }

    private static void setTileTile() {
        SeamMap map = Check.map("0101/2222/3434");
        setTile(map, 0, 2, 4);
        setTile(map, 11, 5, 0);
        for (int tile : WRONG_TILES) {
            setTile(map, tile, 0, UNKNOWN);
            setTile(map, tile, 5, UNKNOWN);
        }
        check.kinds(map, 2, 1, 0, 1, 2, 2, 2, 2, 3, 4, 3, 5);
        map.reset(12, 12);
        setTile(map, 143, 5, 0);
        setTile(map, 144, 5, UNKNOWN);
        map.reset(3, 3);
        setTile(map, 9, 5, UNKNOWN);
    }

    private static void setTileKind() {
        SeamMap map = sized(4, 3);
        for (int kind = 5; kind >= 0; kind--) {
            map.setTile(7, kind);
            check.due("kind(7)", map.kind(7), kind);
        }
        for (int kind : WRONG_KINDS) {
            setTile(map, 7, kind, BAD_VALUE);
        }
        check.due("kind(7)", map.kind(7), 0);
    }

    private static void setTileReturns() {
        SeamMap map = sized(12, 12);
        setTile(map, 0, 1, 143);
        setTile(map, 0, 1, 0);
        setTile(map, 0, 2, 0);
        setTile(map, 0, 0, 143);
        setTile(map, 143, 1, 0);
        map = sized(4, 3);
        // the tile itself gets another label, and is not counted
        setTile(map, 11, 3, 0);
        check.due("label(11)", map.label(11), 11);
        setTile(map, 1, 1, 0);
        setTile(map, 4, 1, 8);
        check.labels(map, 0, 1, 2, 2, 4, 2, 2, 2, 2, 2, 2, 11);
        setTile(map, 5, 1, 1);
        check.labels(map, 0, 1, 2, 2, 1, 1, 2, 2, 2, 2, 2, 11);
        // the part of the first tile takes in what was cut off from it
        setTile(map, 4, 0, 7);
        check.labels(map, 0, 1, 0, 0, 0, 1, 0, 0, 0, 0, 0, 11);
        map = Check.map("0100/0100/0100");
        map.setSeam(false, 1, 0);
        setTile(map, 1, 0, 2);
        check.labels(map, 0, 0, 0, 0, 0, 5, 0, 0, 0, 5, 0, 0);
        setTile(map, 12, 6, UNKNOWN);
        setTile(map, 11, 6, BAD_VALUE);
    }

    private static void fillGives() {
        SeamMap map = Check.map("0100/0110/1001");
        fill(map, 0, 2, 2);
        check.kinds(map, 2, 1, 0, 0, 2, 1, 1, 0, 1, 0, 0, 1);
        fill(map, 7, 3, 3);
        check.kinds(map, 2, 1, 3, 3, 2, 1, 1, 3, 1, 0, 0, 1);
        fill(map, 11, 4, 1);
        check.kinds(map, 2, 1, 3, 3, 2, 1, 1, 3, 1, 0, 0, 4);
        map = Check.map("0100/0110/1001");
        map.setSeam(false, 1, 0);
        fill(map, 0, 2, 5);
        check.kinds(map, 2, 1, 2, 2, 2, 1, 1, 2, 1, 0, 0, 1);
        fill(map, 8, 5, 2);
        check.kinds(map, 2, 1, 2, 2, 2, 1, 1, 2, 5, 0, 0, 5);
        map = Check.map("010101010101/101010101010/000000000000");
        fill(map, 35, 3, 18);
        check.due("kind(0)", map.kind(0), 0);
        check.due("kind(23)", map.kind(23), 3);
        check.due("kind(22)", map.kind(22), 1);
    }

    private static void fillIsAnEdit() {
        SeamMap map = Check.map("0100/0100/0100");
        fill(map, 1, 1, 3);
        value(map, 8, 2);
        fill(map, 1, 4, 3);
        value(map, 8, 3);
        undo(map, 2);
        check.kinds(map, 0, 1, 0, 0, 0, 1, 0, 0, 0, 1, 0, 0);
        undo(map, 1);
        check.kinds(map, 0, 1, 0, 0, 0, 1, 0, 0, 0, 1, 0, 0);
        map.fill(12, 0);
        map.fill(0, 6);
        value(map, 8, 1);
    }

    private static void fillTile() {
        // any tile of the part, not its first one alone
        int[] tiles = {1, 2, 6, 10, 9};
        for (int tile : tiles) {
            SeamMap map = Check.map("0110/0010/0110");
            fill(map, tile, 3, 5);
            check.kinds(map, 0, 3, 3, 0, 0, 0, 3, 0, 0, 3, 3, 0);
        }
        SeamMap map = Check.map("1000/0000/0002");
        fill(map, 0, 3, 1);
        fill(map, 11, 3, 1);
        for (int tile : WRONG_TILES) {
            fill(map, tile, 0, UNKNOWN);
        }
        check.kinds(map, 3, 0, 0, 0, 0, 0, 0, 0, 0, 0, 0, 3);
    }

    private static void fillKind() {
        SeamMap map = Check.map("1000/1000/1000");
        for (int kind = 5; kind >= 2; kind--) {
            fill(map, 4, kind, 3);
            check.due("kind(8)", map.kind(8), kind);
        }
        fill(map, 4, 0, 12);
        for (int kind : WRONG_KINDS) {
            fill(map, 4, kind, BAD_VALUE);
        }
        check.due("kind(8)", map.kind(8), 0);
    }

    private static void fillReturns() {
        SeamMap map = sized(12, 12);
        fill(map, 143, 1, 144);
        fill(map, 0, 1, 144);
        map.setTile(70, 2);
        fill(map, 70, 3, 1);
        fill(map, 0, 3, 144);
        map = Check.map("0120/0120/0120");
        // the part grows by its new neighbours, but not by those of its kind elsewhere
        fill(map, 5, 2, 6);
        map.undo();
        fill(map, 5, 0, 6);
        map.undo();
        map.setSeam(false, 1, 0);
        fill(map, 5, 0, 9);
        map.undo();
        fill(map, 0, 5, 6);
        fill(map, 12, 6, UNKNOWN);
        fill(map, 11, 6, BAD_VALUE);
    }

    private static void undoUndoes() {
        SeamMap map = Check.map("0100/0100/0100");
        map.setTile(0, 2);
        map.fill(1, 3);
        Check.type(map, "4444/4444/4444");
        map.readTiles();
        // none of these is an edit, or they report an error
        map.setTile(12, 5);
        map.setTile(0, 6);
        map.fill(-1, 5);
        map.fill(0, -1);
        map.type('4');
        map.readTiles();
        map.setSeam(false, 1, 1);
        map.setWeight(2, 5);
        map.partsIf(0, 1);
        map.clearText();
        undo(map, 3);
        check.kinds(map, 2, 3, 0, 0, 0, 3, 0, 0, 0, 3, 0, 0);
        undo(map, 2);
        check.kinds(map, 2, 1, 0, 0, 0, 1, 0, 0, 0, 1, 0, 0);
        check.labels(map, 0, 1, 2, 2, 2, 1, 2, 2, 2, 1, 2, 2);
        undo(map, 1);
        check.kinds(map, 0, 1, 0, 0, 0, 1, 0, 0, 0, 1, 0, 0);
        check.labels(map, 0, 1, 0, 0, 0, 1, 0, 0, 0, 1, 0, 0);
        undo(map, 0);
        check.kinds(map, 0, 0, 0, 0, 0, 0, 0, 0, 0, 0, 0, 0);
        value(map, 6, 1);
        undo(map, NONE);
    }

    private static void undoHistory() {
        edits(1);
        edits(11);
        edits(12);
        edits(13);
        edits(25);
        // a full history, used up a little and filled again
        SeamMap map = sized(3, 3);
        for (int edit = 1; edit <= 12; edit++) {
            map.setTile(0, edit % 6);
        }
        for (int left = 11; left >= 7; left--) {
            undo(map, left);
        }
        for (int edit = 8; edit <= 20; edit++) {
            map.setTile(0, edit % 6);
            value(map, 8, Math.min(edit, 12));
        }
        for (int left = 11; left >= 0; left--) {
            undo(map, left);
            check.due("kind(0)", map.kind(0), (8 + left) % 6);
        }
        undo(map, NONE);
    }

    /** Makes so many edits and undoes all that can be undone. */
    private static void edits(int edits) {
        SeamMap map = sized(3, 3);
        for (int edit = 1; edit <= edits; edit++) {
            map.setTile(edit % 9, 1 + edit % 5);
        }
        int kept = Math.min(edits, 12);
        for (int left = kept - 1; left >= 0; left--) {
            int edit = edits - kept + 1 + left;
            undo(map, left);
            check.due("kind after undoing " + edit, map.kind(edit % 9),
                    edit <= 9 ? 0 : 1 + (edit - 9) % 5);
        }
        undo(map, NONE);
        check.due("kind(1), whose edit is not undone", map.kind(1), edits <= 12 ? 0
                : 1 + (edits == 13 ? 1 : 10) % 5);
    }

    private static void undoLeaves() {
        SeamMap map = Check.map("0100/0100/0100");
        map.setTile(1, 0);
        map.setSeam(false, 2, 1);
        map.setSeam(true, 1, 3);
        map.setWeight(1, 0);
        map.setWeight(0, 7);
        undo(map, 1);
        value(map, 2, 2);
        value(map, 3, 1);
        value(map, 4, 1);
        value(map, 5, 3);
        value(map, 6, 2);
        check.due("distance(0, 4)", map.distance(0, 4), 14);
        undo(map, 0);
        value(map, 2, 2);
        value(map, 3, 1);
        value(map, 4, 1);
        value(map, 5, 3);
        check.due("setWeight(1, 1)", map.setWeight(1, 1), 0);
        check.due("setWeight(0, 1)", map.setWeight(0, 1), 7);
    }

    private static void undoReturns() {
        SeamMap map = new SeamMap();
        undo(map, NONE);
        map.setTile(0, 0);
        undo(map, 0);
        undo(map, NONE);
        for (int edit = 1; edit <= 20; edit++) {
            map.fill(0, edit % 6);
        }
        for (int left = 11; left >= 0; left--) {
            undo(map, left);
        }
        undo(map, NONE);
        check.due("kind(29), eight edits later", map.kind(29), 2);
        map.setTile(0, 1);
        map.reset(6, 5);
        undo(map, NONE);
    }
}
