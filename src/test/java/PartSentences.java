/** What the document says of promises 14 to 18: label, part, ofPart, greatestPart, partsIf. */
final class PartSentences {
    private static final int UNKNOWN = SeamMap.UNKNOWN;
    private static final int BAD_VALUE = SeamMap.BAD_VALUE;
    private static final int NONE = SeamMap.NONE;
    private static final int LEAST = Integer.MIN_VALUE;
    private static final int MOST = Integer.MAX_VALUE;
    private static final int[] WRONG_TILES = {LEAST, -1, 12, 30, 144, MOST};
    private static final int[] WRONG_KINDS = {LEAST, -1, 6, 7, MOST};
    /** Parts at 0 (0 1 4), 2 (2 3 7 11), 5 (5 6), 8 (8 9) and 10. */
    private static final String ROWS = "0011/0221/3301";

    private static final Check check = SentencesTest.check;

    private PartSentences() {
    }

    static void tell(Sentences all) {
        all.section("Promise 14");
        all.says("tile: a tile", PartSentences::labelTile);
        all.says("Returns the label of its part; UNKNOWN.", PartSentences::labelReturns);
        all.section("Promise 15");
        all.says("k: a number, from 0", PartSentences::partNumber);
        all.says("Returns the k-th label in ascending order; BAD_VALUE if k is negative; NONE if"
                + " there are not so many parts.", PartSentences::partReturns);
        all.section("Promise 16");
        all.says("Returns a property of a part.", PartSentences::ofPart);
        all.says("label: the label of a part", PartSentences::ofPartLabel);
        all.says("what: 0 for its kind, 1 for the number of its tiles, 2 for the number of pairs of"
                + " one of its tiles and a direction in which there is a neighbour of another kind,"
                + " 3 for the number of such pairs in which there is no neighbour, 4 for its loops,"
                + " 5 for whether it is one-sided (1, otherwise 0), 6 for the number of other parts"
                + " that a step leads to, 7 for the greatest number of steps that are needed from"
                + " its first tile to another one of its tiles within the part",
                PartSentences::ofPartWhat);
        all.says("Returns the property; UNKNOWN; BAD_VALUE.", PartSentences::ofPartReturns);
        tellOthers(all);
    }

    private static void tellOthers(Sentences all) {
        all.section("Promise 17");
        all.says("Returns the part with the most tiles, of one kind.",
                PartSentences::greatestPart);
        all.says("kind: 0 to 5", PartSentences::greatestPartKind);
        all.says("Returns its label, the least one of several; BAD_VALUE; NONE if no tile has this"
                + " kind.", PartSentences::greatestPartReturns);
        all.section("Promise 18");
        all.says("Returns how many parts there would be if a tile had another kind.",
                PartSentences::partsIf);
        all.says("Nothing changes.", PartSentences::partsIfChangesNothing);
        all.says("tile: a tile", PartSentences::partsIfTile);
        all.says("kind: 0 to 5", PartSentences::partsIfKind);
        all.says("Returns the number; UNKNOWN; BAD_VALUE.", PartSentences::partsIfReturns);
    }

    private static void label(SeamMap map, int tile, int due) {
        check.due("label(" + tile + ")", map.label(tile), due);
    }

    private static void part(SeamMap map, int k, int due) {
        check.due("part(" + k + ")", map.part(k), due);
    }

    private static void ofPart(SeamMap map, int label, int what, int due) {
        check.due("ofPart(" + label + ", " + what + ")", map.ofPart(label, what), due);
    }

    /** The answers of ofPart for what 0 to 7. */
    private static void properties(SeamMap map, int label, int... due) {
        for (int what = 0; what < due.length; what++) {
            ofPart(map, label, what, due[what]);
        }
    }

    private static void greatestPart(SeamMap map, int kind, int due) {
        check.due("greatestPart(" + kind + ")", map.greatestPart(kind), due);
    }

    private static void partsIf(SeamMap map, int tile, int kind, int due) {
        check.due("partsIf(" + tile + ", " + kind + ")", map.partsIf(tile, kind), due);
    }

    /** Twelve rows of twelve tiles, each of another kind than its neighbours. */
    private static SeamMap manyParts() {
        SeamMap map = new SeamMap();
        map.reset(12, 12);
        for (int row = 0; row < 12; row++) {
            Check.type(map, row == 0 ? "" : "/");
            Check.type(map, row % 2 == 0 ? "010101010101" : "101010101010");
        }
        map.readTiles();
        return map;
    }

    private static void labelTile() {
        SeamMap map = Check.map(ROWS);
        label(map, 0, 0);
        label(map, 11, 2);
        for (int tile : WRONG_TILES) {
            label(map, tile, UNKNOWN);
        }
        map = manyParts();
        label(map, 143, 143);
        label(map, 144, UNKNOWN);
        map.reset(3, 3);
        label(map, 8, 0);
        label(map, 9, UNKNOWN);
    }

    private static void labelReturns() {
        SeamMap map = Check.map(ROWS);
        check.labels(map, 0, 0, 2, 2, 0, 5, 5, 2, 8, 8, 10, 2);
        map.setSeam(true, 1, 2);
        check.labels(map, 0, 0, 2, 2, 0, 5, 5, 2, 8, 8, 0, 2);
        map.setTile(3, 5);
        check.labels(map, 0, 0, 2, 3, 0, 5, 5, 7, 8, 8, 0, 7);
        map.undo();
        check.labels(map, 0, 0, 2, 2, 0, 5, 5, 2, 8, 8, 0, 2);
        map.fill(5, 3);
        check.labels(map, 0, 0, 2, 2, 0, 5, 5, 2, 5, 5, 0, 2);
        map.reset(3, 4);
        check.labels(map, 0, 0, 0, 0, 0, 0, 0, 0, 0, 0, 0, 0);
    }

    private static void partNumber() {
        SeamMap map = new SeamMap();
        part(map, 0, 0);
        part(map, 1, NONE);
        part(map, -1, BAD_VALUE);
        map = manyParts();
        part(map, 0, 0);
        part(map, 143, 143);
        part(map, 144, NONE);
    }

    private static void partReturns() {
        SeamMap map = Check.map(ROWS);
        int[] due = {0, 2, 5, 8, 10};
        for (int k = 0; k < due.length; k++) {
            part(map, k, due[k]);
        }
        int[] tooMany = {5, 6, 12, 144, MOST};
        for (int k : tooMany) {
            part(map, k, NONE);
        }
        int[] negative = {-1, -2, -5, LEAST};
        for (int k : negative) {
            part(map, k, BAD_VALUE);
        }
        map.setSeam(true, 1, 2);
        part(map, 3, 8);
        part(map, 4, NONE);
    }

    private static void ofPart() {
        SeamMap map = Check.map(ROWS);
        properties(map, 0, 0, 3, 4, 4, 1, 0, 3, 1);
        properties(map, 10, 0, 1, 3, 1, 1, 0, 3, 0);
        map.setSeam(true, 2, 2);
        properties(map, 0, 0, 4, 8, 2, 1, 0, 3, 1);
        map.setTile(0, 1);
        properties(map, 0, 1, 1, 3, 1, 1, 0, 3, 0);
    }

    private static void ofPartLabel() {
        SeamMap map = Check.map(ROWS);
        int[] labels = {0, 2, 5, 8, 10};
        int[] tiles = {3, 4, 2, 2, 1};
        for (int i = 0; i < labels.length; i++) {
            ofPart(map, labels[i], 1, tiles[i]);
        }
        int[] others = {1, 3, 4, 6, 7, 9, 11};
        for (int tile : others) {
            ofPart(map, tile, 1, UNKNOWN);
        }
        for (int tile : WRONG_TILES) {
            ofPart(map, tile, 1, UNKNOWN);
        }
        map.setSeam(true, 1, 2);
        ofPart(map, 10, 1, UNKNOWN);
        map = manyParts();
        ofPart(map, 143, 1, 1);
        ofPart(map, 144, 1, UNKNOWN);
    }

    private static void ofPartWhat() {
        // the whole map: no other kind, the greatest number of tiles, of borders, and of steps
        SeamMap map = new SeamMap();
        map.reset(12, 12);
        properties(map, 0, 0, 144, 0, 48, 1, 0, 0, 22);
        map.setSeam(false, 1, 0);
        properties(map, 0, 0, 144, 0, 24, 3, 0, 0, 17);
        map.setSeam(true, 2, 0);
        properties(map, 0, 0, 144, 0, 0, 15, 1, 0, 12);
        map.fill(0, 5);
        ofPart(map, 0, 0, 5);
        // parts of one tile, in the middle and in a corner
        map = Check.map("000/010/002");
        properties(map, 4, 1, 1, 4, 0, 1, 0, 1, 0);
        properties(map, 8, 2, 1, 2, 2, 1, 0, 1, 0);
        properties(map, 0, 0, 7, 6, 10, 1, 0, 2, 3);
        map = Check.map("012/345/012");
        properties(map, 4, 4, 1, 4, 0, 1, 0, 4, 0);
        ofPartSteps();
        ofPartBeside();
    }

    /** Steps lead over tiles of the part alone, and over seams. */
    private static void ofPartSteps() {
        SeamMap map = Check.map("000000/111110/000000/011111/000000");
        ofPart(map, 0, 7, 19);
        ofPart(map, 6, 7, 4);
        map.setSeam(true, 1, 0);
        ofPart(map, 0, 7, 7);
        map = Check.map("010/010/000");
        ofPart(map, 0, 7, 6);
        map.setSeam(false, 1, 0);
        ofPart(map, 0, 7, 3);
        // weights are not counted
        map.setWeight(0, 9);
        ofPart(map, 0, 7, 3);
        map.setWeight(0, 0);
        ofPart(map, 0, 7, 3);
    }

    /** Pairs count each direction, parts count once each, a kind may be that of several parts. */
    private static void ofPartBeside() {
        SeamMap map = Check.map("101/000/101");
        properties(map, 1, 0, 5, 8, 4, 1, 0, 4, 2);
        ofPart(map, 0, 6, 1);
        ofPart(map, 1, 6, 4);
        map.setSeam(false, 1, 0);
        properties(map, 1, 0, 5, 8, 2, 3, 0, 2, 2);
        map.setSeam(true, 1, 0);
        properties(map, 1, 0, 5, 8, 0, 15, 0, 1, 2);
        // the two borders of one tile lead to the same tile
        map = Check.map("012/345/134");
        map.setSeam(false, 1, 1);
        map.setSeam(true, 1, 1);
        properties(map, 0, 0, 1, 4, 0, 1, 0, 3, 0);
        properties(map, 8, 4, 1, 4, 0, 1, 0, 3, 0);
    }

    private static void ofPartReturns() {
        SeamMap map = Check.map(ROWS);
        ofPart(map, 8, 0, 3);
        ofPart(map, 8, 7, 1);
        int[] wrong = {LEAST, -1, 8, 9, MOST};
        for (int what : wrong) {
            ofPart(map, 0, what, BAD_VALUE);
            ofPart(map, 8, what, BAD_VALUE);
            ofPart(map, 9, what, UNKNOWN);
            ofPart(map, -1, what, UNKNOWN);
            ofPart(map, 12, what, UNKNOWN);
        }
    }

    private static void greatestPart() {
        SeamMap map = Check.map("0111/0010/1000");
        greatestPart(map, 0, 0);
        greatestPart(map, 1, 1);
        // greater parts of other kinds are of no matter, nor is it the first part
        map = Check.map("1000/0011/2211");
        greatestPart(map, 0, 1);
        greatestPart(map, 1, 6);
        greatestPart(map, 2, 8);
        map.setSeam(false, 2, 0);
        greatestPart(map, 2, 8);
        map.setTile(6, 0);
        greatestPart(map, 0, 1);
        greatestPart(map, 1, 7);
        greatestPart(new SeamMap(), 0, 0);
    }

    private static void greatestPartKind() {
        SeamMap map = Check.map("0123/4500/4500");
        int[] due = {6, 1, 2, 3, 4, 5};
        for (int kind = 0; kind <= 5; kind++) {
            greatestPart(map, kind, due[kind]);
        }
        for (int kind : WRONG_KINDS) {
            greatestPart(map, kind, BAD_VALUE);
        }
    }

    private static void greatestPartReturns() {
        SeamMap map = Check.map("0101/1010/0101");
        greatestPart(map, 0, 0);
        greatestPart(map, 1, 1);
        map = Check.map("1001/0110/1010");
        greatestPart(map, 0, 1);
        greatestPart(map, 1, 5);
        greatestPart(map, 2, NONE);
        greatestPart(map, 5, NONE);
        greatestPart(map, 6, BAD_VALUE);
        map.fill(5, 5);
        greatestPart(map, 5, 5);
        map = manyParts();
        greatestPart(map, 1, 1);
        map.setTile(141, 1);
        greatestPart(map, 1, 129);
        map.fill(129, 0);
        greatestPart(map, 1, 1);
        greatestPart(map, 5, NONE);
    }

    private static void partsIf() {
        SeamMap map = Check.map("0100/0100/0100");
        partsIf(map, 5, 0, 3);
        partsIf(map, 5, 2, 5);
        partsIf(map, 0, 1, 3);
        partsIf(map, 4, 1, 4);
        partsIf(map, 5, 1, 3);
        map.setSeam(false, 1, 0);
        partsIf(map, 5, 1, 2);
        partsIf(map, 5, 0, 3);
        partsIf(map, 5, 2, 4);
        map.setSeam(true, 1, 0);
        partsIf(map, 5, 2, 3);
        map = manyParts();
        partsIf(map, 0, 1, 142);
        partsIf(map, 13, 1, 140);
        partsIf(map, 13, 2, 144);
        partsIf(map, 13, 0, 144);
        map.reset(12, 12);
        partsIf(map, 0, 1, 2);
        partsIf(map, 143, 0, 1);
    }

    private static void partsIfChangesNothing() {
        Twins.unchanged(check, PartSentences::pastOfParts, "partsIf(5, 0)",
                map -> map.partsIf(5, 0), 4);
        Twins.unchanged(check, PartSentences::pastOfParts, "partsIf(0, 0)",
                map -> map.partsIf(0, 0), 5);
        SeamMap map = new SeamMap();
        pastOfParts(map);
        for (int times = 0; times < 3; times++) {
            partsIf(map, 5, 0, 4);
            check.due("value(6)", map.value(6), 5);
            check.due("value(8)", map.value(8), 12);
            ofPart(map, 0, 1, 2);
        }
        // the labels that a later edit changes are counted from those that there are
        check.due("setTile(5, 0)", map.setTile(5, 0), 3);
    }

    /** Ends with the rows 0122, 0122 and 3000, after more edits than can be undone. */
    private static void pastOfParts(SeamMap map) {
        map.reset(4, 3);
        for (int edit = 0; edit < 12; edit++) {
            map.setTile(11, edit % 6);
        }
        Check.type(map, "0122/0122/3000");
        map.readTiles();
    }

    private static void partsIfTile() {
        SeamMap map = Check.map(ROWS);
        partsIf(map, 0, 5, 7);
        partsIf(map, 11, 5, 6);
        for (int tile : WRONG_TILES) {
            partsIf(map, tile, 0, UNKNOWN);
        }
        map.reset(12, 12);
        partsIf(map, 143, 5, 2);
        partsIf(map, 144, 5, UNKNOWN);
    }

    private static void partsIfKind() {
        SeamMap map = new SeamMap();
        partsIf(map, 0, 0, 1);
        for (int kind = 1; kind <= 5; kind++) {
            partsIf(map, 0, kind, 2);
        }
        for (int kind : WRONG_KINDS) {
            partsIf(map, 0, kind, BAD_VALUE);
        }
    }

    private static void partsIfReturns() {
        SeamMap map = Check.map(ROWS);
        partsIf(map, 10, 0, 5);
        partsIf(map, 10, 3, 4);
        partsIf(map, 6, 1, 5);
        partsIf(map, 1, 4, 6);
        partsIf(map, 12, 6, UNKNOWN);
        partsIf(map, -1, -1, UNKNOWN);
        partsIf(map, 11, 6, BAD_VALUE);
        partsIf(map, 11, -1, BAD_VALUE);
    }
}
