/** What the document says of promises 7 to 10: type, clearText, readTiles, walk. */
final class TextSentences {
    private static final int UNKNOWN = SeamMap.UNKNOWN;
    private static final int BAD_VALUE = SeamMap.BAD_VALUE;
    private static final int FULL = SeamMap.FULL;
    private static final int NONE = SeamMap.NONE;
    private static final int LEAST = Integer.MIN_VALUE;
    private static final int MOST = Integer.MAX_VALUE;

    private static final Check check = SentencesTest.check;

    private TextSentences() {
    }

    static void tell(Sentences all) {
        all.section("Promise 7");
        all.says("Appends a character to the text.", TextSentences::typeAppends);
        all.says("character: any character", TextSentences::typeCharacter);
        all.says("Returns the length of the text then; FULL if it has 160 characters.",
                TextSentences::typeReturns);
        all.section("Promise 8");
        all.says("Empties the text.", TextSentences::clearTextEmpties);
        all.says("Returns the length that it had.", TextSentences::clearTextReturns);
        all.section("Promise 9");
        all.says("Gives the tiles the kinds that the text describes.",
                TextSentences::readTilesGives);
        all.says("The text stays.", TextSentences::readTilesLeavesTheText);
        all.says("This is an edit.", TextSentences::readTilesIsAnEdit);
        all.says("Returns the number of tiles whose kinds change; -100 minus the fault if there is"
                + " one.", TextSentences::readTilesReturns);
        tellWalk(all);
    }

    private static void tellWalk(Sentences all) {
        all.section("Promise 10");
        all.says("Carries out the walk that the text describes.", TextSentences::walkCarriesOut);
        all.says("Nothing changes.", TextSentences::walkChangesNothing);
        all.says("tile: the tile where it begins", TextSentences::walkTile);
        all.says("heading: 0 to 3", TextSentences::walkHeading);
        all.says("what: 0 for the tile where it ends, 1 for the heading and 2 for the side then (0"
                + " at the beginning), 3 for the number of steps, 4 for the number of different"
                + " tiles that it enters or begins at", TextSentences::walkWhat);
        all.says("Returns the number; UNKNOWN; BAD_VALUE; -100 minus the index of the first"
                + " character that is not 'f', 'r' or 'l' (also behind the end of the walk).",
                TextSentences::walkReturns);
    }

    private static SeamMap sized(int columns, int rows) {
        SeamMap map = new SeamMap();
        map.reset(columns, rows);
        return map;
    }

    private static void typeTimes(SeamMap map, char character, int times) {
        for (int i = 0; i < times; i++) {
            map.type(character);
        }
    }

    private static void readTiles(SeamMap map, String text, int due) {
        Check.retype(map, text);
        check.due("readTiles() of " + text, map.readTiles(), due);
    }

    /** The answers of walk for what 0, 1, 2, ... */
    private static void walk(SeamMap map, int tile, int heading, int... due) {
        for (int what = 0; what < due.length; what++) {
            check.due("walk(" + tile + ", " + heading + ", " + what + ")",
                    map.walk(tile, heading, what), due[what]);
        }
    }

    private static void typeAppends() {
        SeamMap map = sized(3, 3);
        Check.type(map, "012/3");
        check.due("readTiles()", map.readTiles(), -105);
        Check.type(map, "45/012");
        check.due("readTiles()", map.readTiles(), 7);
        check.kinds(map, 0, 1, 2, 3, 4, 5, 0, 1, 2);
        map.clearText();
        map.type('f');
        walk(map, 0, 0, 1, 0);
        map.type('r');
        walk(map, 0, 0, 1, 1);
        map.type('f');
        walk(map, 0, 0, 4, 1);
    }

    private static void typeCharacter() {
        SeamMap map = new SeamMap();
        int[] characters = {0, 1, 10, 32, 47, 48, 102, 127, 128, 255, 256, 0xd800, 0xdfff, 0xffff};
        for (int i = 0; i < characters.length; i++) {
            check.due("type((char) " + characters[i] + ")", map.type((char) characters[i]), i + 1);
        }
        map.reset(3, 3);
        // no character is taken for another one that has the same last bits
        int[] multiples = {256, 512, 32768, 65280};
        for (int above : multiples) {
            map.clearText();
            map.type((char) ('f' + above));
            check.due("walk(0, 0, 3)", map.walk(0, 0, 3), -100);
            map.clearText();
            map.type((char) ('0' + above));
            check.due("readTiles()", map.readTiles(), -100);
            Check.retype(map, "000");
            map.type((char) ('/' + above));
            check.due("readTiles()", map.readTiles(), -103);
        }
    }

    private static void typeReturns() {
        SeamMap map = new SeamMap();
        for (int length = 1; length <= 160; length++) {
            check.due("type('r')", map.type('r'), length);
        }
        check.due("type('r')", map.type('r'), FULL);
        check.due("type('r')", map.type('r'), FULL);
        check.due("type('x')", map.type('x'), FULL);
        check.due("walk(0, 0, 1), without the x", map.walk(0, 0, 1), 0);
        check.due("clearText()", map.clearText(), 160);
        check.due("type('r')", map.type('r'), 1);
    }

    private static void clearTextEmpties() {
        SeamMap map = sized(3, 3);
        Check.type(map, "ffx");
        map.clearText();
        walk(map, 0, 0, 0, 0, 0, 0, 1);
        check.due("readTiles()", map.readTiles(), -100);
        check.due("type('r')", map.type('r'), 1);
        walk(map, 0, 0, 0, 1, 0, 0, 1);
        typeTimes(map, 'r', 200);
        map.clearText();
        walk(map, 0, 0, 0, 0, 0, 0, 1);
        check.due("type('f')", map.type('f'), 1);
    }

    private static void clearTextReturns() {
        SeamMap map = new SeamMap();
        check.due("clearText()", map.clearText(), 0);
        map.type('0');
        check.due("clearText()", map.clearText(), 1);
        check.due("clearText()", map.clearText(), 0);
        typeTimes(map, '0', 159);
        check.due("clearText()", map.clearText(), 159);
        typeTimes(map, '0', 161);
        check.due("clearText() of a full text", map.clearText(), 160);
        check.due("clearText()", map.clearText(), 0);
    }

    private static void readTilesGives() {
        SeamMap map = sized(3, 4);
        readTiles(map, "012/345/543/210", 10);
        check.kinds(map, 0, 1, 2, 3, 4, 5, 5, 4, 3, 2, 1, 0);
        readTiles(map, "000/000/000/000", 10);
        check.kinds(map, 0, 0, 0, 0, 0, 0, 0, 0, 0, 0, 0, 0);
        check.labels(map, 0, 0, 0, 0, 0, 0, 0, 0, 0, 0, 0, 0);
        readTiles(map, "005/500/005/500", 4);
        check.labels(map, 0, 0, 2, 3, 0, 0, 0, 0, 8, 9, 0, 0);
        map = sized(12, 12);
        typeTimes(map, '5', 12);
        for (int row = 1; row < 12; row++) {
            Check.type(map, row < 11 ? "/500000000005" : "/555555555555");
        }
        check.due("readTiles() of 155 characters", map.readTiles(), 44);
        check.due("kind(143)", map.kind(143), 5);
        check.due("kind(130)", map.kind(130), 0);
        check.due("value(6)", map.value(6), 2);
    }

    private static void readTilesLeavesTheText() {
        SeamMap map = sized(3, 3);
        readTiles(map, "012/345/012", 7);
        check.due("readTiles()", map.readTiles(), 0);
        check.due("type('/')", map.type('/'), 12);
        check.due("readTiles() with a fault", map.readTiles(), -111);
        check.due("clearText()", map.clearText(), 12);
    }

    private static void readTilesIsAnEdit() {
        SeamMap map = sized(3, 3);
        readTiles(map, "012/345/012", 7);
        check.due("value(8)", map.value(8), 1);
        check.due("readTiles(), which changes no kind", map.readTiles(), 0);
        check.due("value(8)", map.value(8), 2);
        check.due("undo()", map.undo(), 1);
        check.kinds(map, 0, 1, 2, 3, 4, 5, 0, 1, 2);
        check.due("undo()", map.undo(), 0);
        check.kinds(map, 0, 0, 0, 0, 0, 0, 0, 0, 0);
        check.due("undo()", map.undo(), NONE);
        readTiles(map, "012/345/01", -110);
        check.due("undo(), as a fault is no edit", map.undo(), NONE);
        Check.type(map, "2");
        for (int edits = 1; edits <= 13; edits++) {
            map.readTiles();
            check.due("value(8)", map.value(8), Math.min(edits, 12));
        }
    }

    private static void readTilesReturns() {
        SeamMap map = sized(3, 3);
        readTiles(map, "000/000/000", 0);
        readTiles(map, "000/000/001", 1);
        readTiles(map, "100/000/001", 1);
        readTiles(map, "255/555/555", 9);
        readTiles(map, "", -100);
        readTiles(map, "6", -100);
        readTiles(map, "0", -101);
        readTiles(map, "000/000/00", -110);
        readTiles(map, "000/000/006", -110);
        readTiles(map, "000/000/0000", -111);
        readTiles(map, "000/000/000/", -111);
        check.due("value(8)", map.value(8), 4);
        map = sized(12, 12);
        for (int row = 0; row < 12; row++) {
            Check.type(map, row == 0 ? "111111111111" : "/111111111111");
        }
        check.due("readTiles() of all", map.readTiles(), 144);
        typeTimes(map, '1', 5);
        check.due("readTiles() of a full text", map.readTiles(), -255);
        map.reset(12, 11);
        check.due("readTiles() of a row too many", map.readTiles(), -242);
        map.reset(11, 12);
        check.due("readTiles() of rows too long", map.readTiles(), -111);
    }

    private static void walkCarriesOut() {
        SeamMap map = sized(4, 3);
        map.setSeam(false, 2, 2);
        map.setSeam(true, 1, 1);
        walk(map, 5, 2, 5, 2, 0, 0, 1);
        Check.retype(map, "ffrflfrrffl");
        // 5, 6, 7, down to 11, over the side seam to 0 and to the other side, back to 11, 10
        walk(map, 5, 0, 10, 1, 0, 6, 6);
        map = sized(12, 12);
        map.setSeam(false, 1, 1);
        typeTimes(map, 'f', 160);
        walk(map, 0, 0, 16, 0, 0, 160, 144);
        walk(map, 143, 2, 127, 2, 0, 160, 144);
    }

    private static void walkChangesNothing() {
        Twins.unchanged(check, TextSentences::pastOfAWalk, "walk(0, 0, 0)",
                map -> map.walk(0, 0, 0), 0);
        Twins.unchanged(check, TextSentences::pastOfAWalk, "walk(0, 0, 4)",
                map -> map.walk(0, 0, 4), 5);
        SeamMap map = new SeamMap();
        pastOfAWalk(map);
        for (int times = 0; times < 3; times++) {
            walk(map, 0, 0, 0, 0, 1, 5, 5);
        }
        // a walk by another tile leaves no trace in this one
        walk(map, 10, 1, 10, 1, 0, 0, 1);
        walk(map, 0, 0, 0, 0, 1, 5, 5);
    }

    private static void pastOfAWalk(SeamMap map) {
        map.reset(4, 3);
        map.setSeam(false, 2, 1);
        map.setTile(3, 4);
        map.setTile(3, 5);
        Check.type(map, "ffffrfl");
    }

    private static void walkTile() {
        SeamMap map = sized(3, 3);
        walk(map, 0, 0, 0, 0, 0, 0, 1);
        walk(map, 8, 0, 8, 0, 0, 0, 1);
        Check.type(map, "f");
        walk(map, 0, 0, 1, 0, 0, 1, 2);
        walk(map, 8, 3, 5, 3, 0, 1, 2);
        int[] wrong = {LEAST, -1, 9, 143, MOST};
        for (int tile : wrong) {
            for (int what = 0; what <= 4; what++) {
                check.due("walk(" + tile + ", 0, " + what + ")", map.walk(tile, 0, what), UNKNOWN);
            }
        }
    }

    private static void walkHeading() {
        SeamMap map = sized(3, 3);
        Check.type(map, "f");
        walk(map, 4, 0, 5, 0);
        walk(map, 4, 1, 7, 1);
        walk(map, 4, 2, 3, 2);
        walk(map, 4, 3, 1, 3);
        int[] wrong = {LEAST, -4, -1, 4, 5, MOST};
        for (int heading : wrong) {
            for (int what = 0; what <= 4; what++) {
                check.due("walk(4, " + heading + ", " + what + ")", map.walk(4, heading, what),
                        BAD_VALUE);
            }
        }
    }

    private static void walkWhat() {
        SeamMap map = sized(4, 3);
        walk(map, 6, 3, 6, 3, 0, 0, 1);
        Check.retype(map, "frrf");
        walk(map, 5, 0, 5, 2, 0, 2, 2);
        Check.retype(map, "frfrfrf");
        walk(map, 5, 0, 5, 3, 0, 4, 4);
        map.setSeam(false, 2, 1);
        Check.retype(map, "f");
        walk(map, 3, 0, 4, 0, 1, 1, 2);
        // along row 1, then row 0, then row 1 again: a tile that is entered twice counts once
        Check.retype(map, "ffffffffffff");
        walk(map, 3, 0, 7, 0, 1, 12, 8);
        int[] wrong = {LEAST, -1, 5, 6, MOST};
        for (int what : wrong) {
            check.due("walk(0, 0, " + what + ")", map.walk(0, 0, what), BAD_VALUE);
        }
    }

    private static void walkReturns() {
        SeamMap map = sized(4, 3);
        String[] others = {"F", "R", "L", "e", "g", "k", "m", "q", "s", "0", "/", " ", "\u0000"};
        for (String other : others) {
            Check.retype(map, other);
            check.due("walk(0, 0, 0) of " + other, map.walk(0, 0, 0), -100);
            Check.retype(map, "rl" + other + "f!");
            check.due("walk(0, 0, 4) of rl" + other + "f!", map.walk(0, 0, 4), -102);
        }
        Check.retype(map, "fff0f");
        check.due("walk(0, 2, 0), which ends at once", map.walk(0, 2, 0), -103);
        check.due("walk(12, 2, 0)", map.walk(12, 2, 0), UNKNOWN);
        check.due("walk(12, 4, 5)", map.walk(12, 4, 5), UNKNOWN);
        check.due("walk(0, 4, 0)", map.walk(0, 4, 0), BAD_VALUE);
        check.due("walk(0, 0, 5)", map.walk(0, 0, 5), BAD_VALUE);
        map.clearText();
        typeTimes(map, 'f', 159);
        check.due("walk(0, 0, 3)", map.walk(0, 0, 3), 3);
        map.type('x');
        check.due("walk(0, 0, 3), at fault in its last character", map.walk(0, 0, 3), -259);
    }
}
