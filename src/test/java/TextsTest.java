/** Promises 7 to 10: type, clearText, readTiles, walk. */
public final class TextsTest {
    private static final int UNKNOWN = SeamMap.UNKNOWN;
    private static final int BAD_VALUE = SeamMap.BAD_VALUE;
    private static final int FULL = SeamMap.FULL;
    private static final int LEAST = Integer.MIN_VALUE;
    private static final int MOST = Integer.MAX_VALUE;

    private static final Check check = new Check("TextsTest");

    public static void main(String[] arguments) {
        type();
        clearText();
        readTiles();
        readTilesIsAnEdit();
        readTilesWithFaults();
        readTheGreatestMap();
        walkOnTheClosedMap();
        walkEndsAtABorder();
        walkOverWrappedSeams();
        walkOverFlippedSeams();
        walkWithFaults();
        walkWithWrongArguments();
        walkChangesNothing();
        check.end();
    }

    private static void type() {
        check.promise(7, "type");
        SeamMap map = new SeamMap();
        char[] any = {'f', ' ', 0, 127, 200, 255, 256, '\uffff', '/', '0'};
        for (int i = 0; i < any.length; i++) {
            check.due("type of " + (int) any[i], map.type(any[i]), i + 1);
        }
        for (int length = any.length + 1; length <= 160; length++) {
            check.due("type('f')", map.type('f'), length);
        }
        check.due("type('f')", map.type('f'), FULL);
        check.due("type('x')", map.type('x'), FULL);
        check.due("clearText()", map.clearText(), 160);
        check.due("type('x')", map.type('x'), 1);
        map.clearText();
        for (int i = 0; i < 160; i++) {
            map.type('f');
        }
        map.type('x');
        check.due("walk(0, 0, 3), as a full text takes no fault", map.walk(0, 0, 3), 5);
    }

    private static void clearText() {
        check.promise(8, "clearText");
        SeamMap map = new SeamMap();
        check.due("clearText()", map.clearText(), 0);
        Check.type(map, "ff9");
        check.due("clearText()", map.clearText(), 3);
        check.due("clearText()", map.clearText(), 0);
        check.due("walk(0, 0, 3)", map.walk(0, 0, 3), 0);
        check.due("readTiles()", map.readTiles(), -100);
    }

    private static void readTiles() {
        check.promise(9, "readTiles");
        SeamMap map = new SeamMap();
        map.reset(4, 3);
        Check.type(map, "0123/4501/2345");
        check.due("readTiles()", map.readTiles(), 10);
        int[] due = {0, 1, 2, 3, 4, 5, 0, 1, 2, 3, 4, 5};
        for (int tile = 0; tile < due.length; tile++) {
            check.due("kind(" + tile + ")", map.kind(tile), due[tile]);
        }
        check.due("value(6)", map.value(6), 12);
        check.due("clearText(), as the text stays", map.clearText(), 14);
        Check.type(map, "0123/4500/2344");
        check.due("readTiles()", map.readTiles(), 2);
        check.due("label(7)", map.label(7), 6);
        check.due("label(11)", map.label(11), 10);
    }

    private static void readTilesIsAnEdit() {
        check.promise(9, "readTiles");
        SeamMap map = new SeamMap();
        map.reset(3, 3);
        Check.type(map, "000/000/000");
        check.due("readTiles()", map.readTiles(), 0);
        check.due("value(8)", map.value(8), 1);
        Check.retype(map, "012/345/012");
        check.due("readTiles()", map.readTiles(), 7);
        check.due("value(8)", map.value(8), 2);
        check.due("undo()", map.undo(), 1);
        check.due("kind(5)", map.kind(5), 0);
        check.due("readTiles() again", map.readTiles(), 7);
    }

    private static void fault(String rows, String text, int due) {
        SeamMap map = Check.map(rows);
        map.setTile(2, 1);
        Check.type(map, text);
        String before = Check.everything(map);
        check.due("readTiles() of " + text, map.readTiles(), due);
        check.isTrue("nothing changes by " + text, before.equals(Check.everything(map)));
    }

    private static void readTilesWithFaults() {
        check.promise(9, "readTiles");
        String rows = "5555/5555/5555";
        fault(rows, "", -100);
        fault(rows, "0", -101);
        fault(rows, "0123", -104);
        fault(rows, "0123/", -105);
        fault(rows, "0123/4501/", -110);
        fault(rows, "0123/4501/234", -113);
        fault(rows, "0123/4501/23456", -114);
        fault(rows, "0123/4501/2345/", -114);
        fault(rows, "0123/4501/2345f", -114);
        fault(rows, "6123/4501/2345", -100);
        fault(rows, "/123/4501/2345", -100);
        fault(rows, "012/4501/2345", -103);
        fault(rows, "01234/4501/2345", -104);
        fault(rows, "0123.4501/2345", -104);
        fault(rows, "0123/45:1/2345", -107);
        fault(rows, "0123/4501/234/", -113);
        fault(rows, "0123/4501/23/5", -112);
        fault(rows, "01\uff103/4501/2345", -102);
        fault(rows, "x123/y501/2345", -100);
        rows = "555/555/555/555";
        fault(rows, "0123/4501/2345", -103);
        fault(rows, "012/345/012/3456", -115);
    }

    private static void readTheGreatestMap() {
        check.promise(9, "readTiles");
        SeamMap map = new SeamMap();
        map.reset(12, 12);
        for (int row = 0; row < 12; row++) {
            Check.type(map, row == 0 ? "" : "/");
            Check.type(map, row % 2 == 0 ? "010101010101" : "101010101010");
        }
        check.due("readTiles()", map.readTiles(), 72);
        check.due("value(6)", map.value(6), 144);
        check.due("part(143)", map.part(143), 143);
        check.due("kind(143)", map.kind(143), 0);
        check.due("type('5')", map.type('5'), 156);
        check.due("readTiles()", map.readTiles(), -255);
        for (int length = 156; length < 160; length++) {
            map.type('f');
        }
        check.due("type('f')", map.type('f'), FULL);
        check.due("readTiles()", map.readTiles(), -255);
    }

    /** The answers of walk for what 0, 1, 2, ... */
    private static void walk(SeamMap map, int tile, int heading, int... due) {
        for (int what = 0; what < due.length; what++) {
            check.due("walk(" + tile + ", " + heading + ", " + what + ")",
                    map.walk(tile, heading, what), due[what]);
        }
    }

    private static void walkOnTheClosedMap() {
        check.promise(10, "walk");
        SeamMap map = new SeamMap();
        map.reset(4, 3);
        walk(map, 7, 2, 7, 2, 0, 0, 1);
        Check.retype(map, "frfrfrf");
        walk(map, 0, 0, 0, 3, 0, 4, 4);
        Check.retype(map, "flflflf");
        walk(map, 4, 0, 4, 1, 0, 4, 4);
        Check.retype(map, "rrrr");
        walk(map, 5, 3, 5, 3, 0, 0, 1);
        Check.retype(map, "r");
        walk(map, 5, 0, 5, 1);
        walk(map, 5, 1, 5, 2);
        walk(map, 5, 2, 5, 3);
        walk(map, 5, 3, 5, 0);
        Check.retype(map, "l");
        walk(map, 5, 0, 5, 3);
        walk(map, 5, 3, 5, 2);
        walk(map, 5, 2, 5, 1);
        walk(map, 5, 1, 5, 0);
        Check.retype(map, "frrfllf");
        walk(map, 1, 0, 2, 0, 0, 3, 2);
    }

    private static void walkEndsAtABorder() {
        check.promise(10, "walk");
        SeamMap map = new SeamMap();
        map.reset(4, 3);
        Check.type(map, "frf");
        walk(map, 0, 2, 0, 2, 0, 0, 1);
        walk(map, 2, 0, 7, 1, 0, 2, 3);
        walk(map, 3, 0, 3, 0, 0, 0, 1);
        walk(map, 10, 0, 11, 1, 0, 1, 2);
        walk(map, 3, 3, 3, 3, 0, 0, 1);
        walk(map, 11, 1, 11, 1, 0, 0, 1);
    }

    private static void walkOverWrappedSeams() {
        check.promise(10, "walk");
        SeamMap map = new SeamMap();
        map.reset(4, 3);
        map.setSeam(false, 1, 1);
        Check.type(map, "ffffr");
        walk(map, 0, 0, 4, 1, 0, 4, 5);
        walk(map, 0, 2, 8, 3, 0, 4, 5);
        map.setSeam(true, 1, 3);
        Check.retype(map, "fffl");
        walk(map, 0, 1, 3, 0, 0, 3, 4);
        walk(map, 0, 3, 1, 2, 0, 3, 4);
        Check.retype(map, "ffffffffffff");
        walk(map, 0, 0, 0, 0, 0, 12, 12);
    }

    private static void walkOverFlippedSeams() {
        check.promise(10, "walk");
        SeamMap map = new SeamMap();
        map.reset(4, 3);
        map.setSeam(false, 2, 2);
        Check.type(map, "frfl");
        walk(map, 3, 0, 4, 0, 1, 2, 3);
        Check.retype(map, "fl");
        walk(map, 0, 2, 11, 3, 1, 1, 2);
        Check.retype(map, "ffffffffr");
        walk(map, 3, 0, 3, 1, 0, 8, 8);
        walk(map, 7, 0, 7, 1, 0, 8, 4);
        map.setSeam(true, 2, 3);
        Check.retype(map, "fr");
        walk(map, 8, 1, 3, 0, 1, 1, 2);
        Check.retype(map, "flr");
        walk(map, 0, 3, 11, 3, 1, 1, 2);
        map.setSeam(true, 1, 3);
        Check.retype(map, "fr");
        walk(map, 8, 1, 3, 2, 0, 1, 2);
        map.setSeam(true, 2, 3);
        Check.retype(map, "fr" + "ff");
        walk(map, 3, 0, 0, 3, 1, 3, 4);
        Check.retype(map, "fr" + "fff");
        walk(map, 3, 0, 11, 3, 0, 4, 5);
    }

    private static void walkWithFaults() {
        check.promise(10, "walk");
        SeamMap map = new SeamMap();
        String[] wrong = {"F", "R", "L", "0", "/", " ", "\u0166", "\u0000"};
        for (String character : wrong) {
            Check.retype(map, character);
            check.due("walk(0, 0, 0) of " + character, map.walk(0, 0, 0), -100);
            Check.retype(map, "frl" + character + "!");
            check.due("walk(0, 0, 3) of frl" + character, map.walk(0, 0, 3), -103);
        }
        Check.retype(map, "ffx");
        check.due("walk(0, 2, 0), whose fault is behind its end", map.walk(0, 2, 0), -102);
        Check.retype(map, "");
        for (int i = 0; i < 159; i++) {
            map.type('f');
        }
        map.type('g');
        check.due("walk(0, 0, 4)", map.walk(0, 0, 4), -259);
    }

    private static void walkWithWrongArguments() {
        check.promise(10, "walk");
        SeamMap map = new SeamMap();
        String[] texts = {"", "fr", "x"};
        for (String text : texts) {
            Check.retype(map, text);
            int[] wrongTiles = {LEAST, -1, 30, MOST};
            for (int tile : wrongTiles) {
                check.due("walk(" + tile + ", 0, 0)", map.walk(tile, 0, 0), UNKNOWN);
                check.due("walk(" + tile + ", 4, 5)", map.walk(tile, 4, 5), UNKNOWN);
            }
            int[] wrongHeadings = {LEAST, -1, 4, MOST};
            for (int heading : wrongHeadings) {
                check.due("walk(0, " + heading + ", 0)", map.walk(0, heading, 0), BAD_VALUE);
            }
            int[] wrongWhats = {LEAST, -1, 5, MOST};
            for (int what : wrongWhats) {
                check.due("walk(0, 0, " + what + ")", map.walk(0, 0, what), BAD_VALUE);
            }
        }
    }

    private static void walkChangesNothing() {
        check.promise(10, "walk");
        SeamMap map = Check.map("012/345/012");
        map.setSeam(false, 2, 0);
        Check.type(map, "fffrff");
        String before = Check.everything(map);
        walk(map, 0, 0, 0, 3, 1, 3, 3);
        check.isTrue("nothing changes", before.equals(Check.everything(map)));
        check.due("clearText()", map.clearText(), 6);
    }
}
