/** Promises 14 to 18: label, part, ofPart, greatestPart, partsIf. */
public final class PartsTest {
    private static final int UNKNOWN = SeamMap.UNKNOWN;
    private static final int BAD_VALUE = SeamMap.BAD_VALUE;
    private static final int NONE = SeamMap.NONE;
    private static final int LEAST = Integer.MIN_VALUE;
    private static final int MOST = Integer.MAX_VALUE;
    private static final int[] WRONG_TILES = {LEAST, -1, 12, 144, MOST};
    private static final int[] WRONG_KINDS = {LEAST, -1, 6, MOST};
    private static final String ROWS = "0011/0221/3301";

    private static final Check check = new Check("PartsTest");

    public static void main(String[] arguments) {
        label();
        labelsOverSeams();
        part();
        ofPart();
        ofPartOverSeams();
        ofPartWithWrongArguments();
        loopsOfTheWholeMap();
        loopsOfSmallerParts();
        loopsOfWindingParts();
        oneSidedParts();
        loopsOverTheDoubleCorner();
        stepsWithinAPart();
        greatestPart();
        partsIf();
        partsIfOverSeams();
        check.end();
    }

    private static void parts(SeamMap map, int... due) {
        for (int k = 0; k < due.length; k++) {
            check.due("part(" + k + ")", map.part(k), due[k]);
        }
        check.due("part(" + due.length + ")", map.part(due.length), NONE);
        check.due("value(6)", map.value(6), due.length);
    }

    /** The answers of ofPart for what 0, 1, 2, ... */
    private static void ofPart(SeamMap map, int label, int... due) {
        for (int what = 0; what < due.length; what++) {
            check.due("ofPart(" + label + ", " + what + ")", map.ofPart(label, what), due[what]);
        }
    }

    private static void label() {
        check.promise(14, "label");
        SeamMap map = Check.map(ROWS);
        check.labels(map, 0, 0, 2, 2, 0, 5, 5, 2, 8, 8, 10, 2);
        for (int tile : WRONG_TILES) {
            check.due("label(" + tile + ")", map.label(tile), UNKNOWN);
        }
        check.labels(Check.map("001/101/000"), 0, 0, 2, 3, 0, 2, 0, 0, 0);
        check.labels(Check.map("110/010/000"), 0, 0, 2, 2, 0, 2, 2, 2, 2);
    }

    private static void labelsOverSeams() {
        check.promise(14, "label");
        SeamMap map = Check.map(ROWS);
        map.setSeam(false, 1, 1);
        check.labels(map, 0, 0, 2, 2, 0, 5, 5, 2, 8, 8, 10, 2);
        map.setSeam(true, 1, 0);
        check.labels(map, 0, 0, 2, 2, 0, 5, 5, 2, 8, 8, 10, 2);
        map.setSeam(true, 1, 1);
        check.labels(map, 0, 0, 2, 2, 0, 5, 5, 2, 8, 8, 10, 2);
        map.setSeam(true, 1, 2);
        check.labels(map, 0, 0, 2, 2, 0, 5, 5, 2, 8, 8, 0, 2);
        map.setSeam(true, 2, 2);
        check.labels(map, 0, 0, 2, 2, 0, 5, 5, 2, 8, 8, 0, 2);
        map.setSeam(true, 0, 2);
        check.labels(map, 0, 0, 2, 2, 0, 5, 5, 2, 8, 8, 10, 2);
    }

    private static void part() {
        check.promise(15, "part");
        SeamMap map = Check.map(ROWS);
        parts(map, 0, 2, 5, 8, 10);
        check.due("part(" + MOST + ")", map.part(MOST), NONE);
        check.due("part(-1)", map.part(-1), BAD_VALUE);
        check.due("part(" + LEAST + ")", map.part(LEAST), BAD_VALUE);
        map.setSeam(true, 1, 2);
        parts(map, 0, 2, 5, 8);
        map.fill(0, 1);
        parts(map, 0, 5, 8);
        map.reset(3, 3);
        parts(map, 0);
    }

    private static void ofPart() {
        check.promise(16, "ofPart");
        SeamMap map = Check.map(ROWS);
        ofPart(map, 0, 0, 3, 4, 4, 1, 0, 3, 1);
        ofPart(map, 2, 1, 4, 4, 6, 1, 0, 3, 3);
        ofPart(map, 5, 2, 2, 6, 0, 1, 0, 4, 1);
        ofPart(map, 8, 3, 2, 3, 3, 1, 0, 3, 1);
        ofPart(map, 10, 0, 1, 3, 1, 1, 0, 3, 0);
    }

    private static void ofPartOverSeams() {
        check.promise(16, "ofPart");
        SeamMap map = Check.map(ROWS);
        map.setSeam(false, 1, 0);
        ofPart(map, 0, 0, 3, 6, 2, 1, 0, 3, 1);
        ofPart(map, 2, 1, 4, 7, 3, 1, 0, 4, 3);
        ofPart(map, 10, 0, 1, 3, 1, 1, 0, 3, 0);
        map.setSeam(true, 2, 2);
        ofPart(map, 0, 0, 4, 10, 0, 1, 0, 3, 1);
    }

    private static void ofPartWithWrongArguments() {
        check.promise(16, "ofPart");
        SeamMap map = Check.map(ROWS);
        int[] wrongLabels = {LEAST, -1, 1, 3, 4, 6, 7, 9, 11, 12, 144, MOST};
        for (int label : wrongLabels) {
            check.due("ofPart(" + label + ", 0)", map.ofPart(label, 0), UNKNOWN);
            check.due("ofPart(" + label + ", 8)", map.ofPart(label, 8), UNKNOWN);
        }
        int[] wrongWhats = {LEAST, -1, 8, MOST};
        for (int what : wrongWhats) {
            check.due("ofPart(0, " + what + ")", map.ofPart(0, what), BAD_VALUE);
            check.due("ofPart(10, " + what + ")", map.ofPart(10, what), BAD_VALUE);
        }
    }

    private static void loops(SeamMap map, int label, int loops, int oneSided) {
        check.due("ofPart(" + label + ", 4)", map.ofPart(label, 4), loops);
        check.due("ofPart(" + label + ", 5)", map.ofPart(label, 5), oneSided);
    }

    private static void loopsOfTheWholeMap() {
        check.promise(16, "ofPart, loops");
        int[] due = {1, 3, 3, 5, 15, 15, 5, 15, 15};
        for (int side = 0; side <= 2; side++) {
            for (int end = 0; end <= 2; end++) {
                for (int shift = 0; shift <= 2; shift++) {
                    SeamMap map = new SeamMap();
                    map.reset(4, 3);
                    map.setSeam(false, side, shift);
                    map.setSeam(true, end, 3 - shift);
                    loops(map, 0, due[side + 3 * end], side == 2 || end == 2 ? 1 : 0);
                }
            }
        }
    }

    private static void loopsOfSmallerParts() {
        check.promise(16, "ofPart, loops");
        SeamMap map = Check.map("001/100/010");
        map.setSeam(false, 1, 0);
        map.setSeam(true, 1, 0);
        ofPart(map, 0, 0, 6, 12, 0, 9, 0, 3, 3);
        parts(map, 0, 2, 3, 7);
        loops(map, 2, 1, 0);
        map = Check.map("000/111/000");
        map.setSeam(false, 1, 0);
        loops(map, 0, 3, 0);
        loops(map, 3, 3, 0);
        loops(map, 6, 3, 0);
        map.setSeam(true, 1, 0);
        loops(map, 0, 3, 0);
        map.setSeam(false, 1, 1);
        loops(map, 0, 9, 0);
        loops(map, 3, 1, 0);
        map.setSeam(false, 0, 0);
        loops(map, 0, 1, 0);
    }

    /** Loops that cross a seam several times, and two loops that make a third class together. */
    private static void loopsOfWindingParts() {
        check.promise(16, "ofPart, loops");
        SeamMap map = Check.map("000/111/000/111/000/111/000/111/000/111/000/111");
        map.setSeam(false, 1, 2);
        ofPart(map, 0, 0, 18, 33, 3, 1, 0, 1, 9);
        map.setSeam(false, 2, 2);
        ofPart(map, 0, 0, 6, 9, 3, 1, 0, 2, 3);
        map = Check.map("000/111/000/111/000/111/000/111/000/111");
        map.setSeam(false, 1, 2);
        loops(map, 0, 3, 0);
        map = Check.map("00000/11101/11101/11101");
        map.setSeam(false, 1, 0);
        map.setSeam(true, 1, 3);
        loops(map, 0, 15, 0);
        loops(map, 5, 1, 0);
        map.setSeam(true, 2, 4);
        loops(map, 0, 15, 1);
        loops(map, 5, 1, 0);
    }

    private static void oneSidedParts() {
        check.promise(16, "ofPart, one-sided parts");
        SeamMap map = Check.map("000/111/000");
        map.setSeam(false, 2, 2);
        parts(map, 0, 3);
        loops(map, 0, 1, 0);
        loops(map, 3, 3, 1);
        map.setSeam(true, 2, 2);
        loops(map, 0, 9, 0);
        map.setSeam(true, 2, 1);
        loops(map, 3, 3, 1);
        map = Check.map("000/111/111");
        map.setSeam(false, 1, 0);
        map.setSeam(true, 2, 0);
        loops(map, 0, 3, 0);
        loops(map, 3, 3, 0);
        map = Check.map("011/011/011");
        map.setSeam(true, 2, 0);
        loops(map, 0, 5, 1);
        loops(map, 1, 5, 1);
        map = Check.map("100/100/100");
        map.setSeam(true, 2, 2);
        loops(map, 0, 1, 0);
        loops(map, 1, 5, 1);
        map = Check.map("0101/0101/0101");
        map.setSeam(true, 2, 2);
        parts(map, 0, 1, 3);
        loops(map, 0, 1, 0);
        loops(map, 1, 5, 1);
        loops(map, 3, 5, 1);
    }

    /** Two steps between the same two tiles, over one seam each, make a loop. */
    private static void loopsOverTheDoubleCorner() {
        check.promise(16, "ofPart, loops");
        SeamMap map = Check.map("012/345/120");
        map.setSeam(false, 1, 1);
        map.setSeam(true, 1, 1);
        ofPart(map, 0, 0, 2, 4, 0, 9, 0, 4, 1);
        map.setSeam(true, 2, 2);
        ofPart(map, 0, 0, 2, 4, 0, 9, 1, 4, 1);
        map.setSeam(false, 2, 2);
        ofPart(map, 0, 0, 2, 4, 0, 9, 0, 4, 1);
    }

    private static void stepsWithinAPart() {
        check.promise(16, "ofPart, steps within a part");
        SeamMap map = Check.map("010/010/000");
        ofPart(map, 0, 0, 7, 5, 11, 1, 0, 1, 6);
        ofPart(map, 1, 1, 2, 5, 1, 1, 0, 1, 1);
        map.setSeam(false, 1, 0);
        check.due("ofPart(0, 7)", map.ofPart(0, 7), 3);
        map = new SeamMap();
        check.due("ofPart(0, 7)", map.ofPart(0, 7), 9);
        map.setSeam(false, 1, 0);
        check.due("ofPart(0, 7)", map.ofPart(0, 7), 7);
        map.setSeam(true, 1, 0);
        check.due("ofPart(0, 7)", map.ofPart(0, 7), 5);
        map.setWeight(0, 0);
        check.due("ofPart(0, 7), as weights are of no matter", map.ofPart(0, 7), 5);
    }

    private static void greatestPart() {
        check.promise(17, "greatestPart");
        SeamMap map = Check.map(ROWS);
        int[] due = {0, 2, 5, 8, NONE, NONE};
        for (int kind = 0; kind < due.length; kind++) {
            check.due("greatestPart(" + kind + ")", map.greatestPart(kind), due[kind]);
        }
        for (int kind : WRONG_KINDS) {
            check.due("greatestPart(" + kind + ")", map.greatestPart(kind), BAD_VALUE);
        }
        map = Check.map("0100/1100/0011");
        check.due("greatestPart(0)", map.greatestPart(0), 2);
        check.due("greatestPart(1)", map.greatestPart(1), 1);
        map = Check.map("2010/1102/2012");
        check.due("greatestPart(0), of four of one tile", map.greatestPart(0), 1);
        check.due("greatestPart(2)", map.greatestPart(2), 7);
        map.setTile(11, 0);
        check.due("greatestPart(2), of three of one tile", map.greatestPart(2), 0);
    }

    private static void partsIf() {
        check.promise(18, "partsIf");
        SeamMap map = Check.map(ROWS);
        String before = Check.everything(map);
        check.due("partsIf(10, 0), which it has", map.partsIf(10, 0), 5);
        check.due("partsIf(10, 3)", map.partsIf(10, 3), 4);
        check.due("partsIf(10, 5)", map.partsIf(10, 5), 5);
        check.due("partsIf(6, 0)", map.partsIf(6, 0), 5);
        check.due("partsIf(7, 4)", map.partsIf(7, 4), 7);
        check.due("partsIf(7, 2)", map.partsIf(7, 2), 6);
        check.due("partsIf(0, 1)", map.partsIf(0, 1), 7);
        check.isTrue("nothing changes", before.equals(Check.everything(map)));
        for (int tile : WRONG_TILES) {
            check.due("partsIf(" + tile + ", 0)", map.partsIf(tile, 0), UNKNOWN);
            check.due("partsIf(" + tile + ", 6)", map.partsIf(tile, 6), UNKNOWN);
        }
        for (int kind : WRONG_KINDS) {
            check.due("partsIf(0, " + kind + ")", map.partsIf(0, kind), BAD_VALUE);
        }
        check.due("setTile(7, 4) after partsIf", map.setTile(7, 4), 1);
    }

    private static void partsIfOverSeams() {
        check.promise(18, "partsIf");
        SeamMap map = Check.map("0200/0200/0200");
        check.due("partsIf(5, 0)", map.partsIf(5, 0), 3);
        map.setSeam(false, 1, 0);
        check.due("partsIf(5, 0)", map.partsIf(5, 0), 3);
        check.due("partsIf(5, 1)", map.partsIf(5, 1), 4);
        map.setSeam(true, 1, 0);
        check.due("partsIf(5, 0)", map.partsIf(5, 0), 2);
        check.due("partsIf(5, 1)", map.partsIf(5, 1), 3);
        check.due("undo()", map.undo(), 0);
        check.due("undo(), as nothing is recorded", map.undo(), NONE);
    }
}
