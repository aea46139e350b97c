import java.util.function.Consumer;
import java.util.function.ToIntFunction;

/** What the document's description says of errors, and its constants. */
final class ErrorSentences {
    private static final int UNKNOWN = SeamMap.UNKNOWN;
    private static final int BAD_VALUE = SeamMap.BAD_VALUE;
    private static final int FULL = SeamMap.FULL;
    private static final int NO_WAY = SeamMap.NO_WAY;
    private static final int NONE = SeamMap.NONE;
    /** Numbers that are no tiles of a map of twelve. */
    private static final int[] NO_TILES = {Integer.MIN_VALUE, -1, 12, Integer.MAX_VALUE};

    private static final Check check = SentencesTest.check;

    private ErrorSentences() {
    }

    static void tell(Sentences all) {
        all.section("Description");
        all.heads("Errors.");
        all.says("Errors are reported by the constants below.", ErrorSentences::constants);
        all.says("Where several errors can apply, the order of the @return line is the order of the"
                + " checks.", ErrorSentences::order);
        all.says("NONE is returned only if no error applies.", ErrorSentences::noneIsLast);
        all.says("A call that reports an error or NONE changes nothing.",
                ErrorSentences::changesNothing);
        all.heads("The constants:");
        all.says("UNKNOWN = -1: There is no such tile, or no part with this label.",
                ErrorSentences::unknown);
        all.says("BAD_VALUE = -2: Another argument is out of range.", ErrorSentences::badValue);
        all.says("FULL = -3: There is no more room.", ErrorSentences::full);
        all.says("NO_WAY = -4: There is no way.", ErrorSentences::noWay);
        all.says("NONE = -5: There is no such thing; not an error.", ErrorSentences::none);
        all.heads("The constructor and the methods follow, a promise each: the signature, then what"
                + " it does.");
    }

    /**
     * Twelve tiles, of which 2 and 6 (kind 1) cannot be entered; the side seam is wrapped, and
     * twelve edits can be undone. The text is the walk "frf".
     */
    private static void past(SeamMap map) {
        map.reset(4, 3);
        map.setSeam(false, 1, 1);
        map.setSeam(true, 0, 3);
        map.setTile(2, 5);
        for (int edit = 0; edit < 10; edit++) {
            map.setTile(8 + edit % 4, edit % 3 + 2);
        }
        map.setTile(2, 1);
        map.setTile(6, 1);
        map.setWeight(0, 3);
        map.setWeight(1, 0);
        Check.type(map, "frf");
    }

    private static void pastWithTiles(SeamMap map) {
        past(map);
        Check.retype(map, "0123/4501/2345");
    }

    private static void pastWithFault(SeamMap map) {
        past(map);
        Check.retype(map, "f123/4501/2345");
    }

    private static void pastWithoutEdits(SeamMap map) {
        map.reset(4, 3);
        map.setSeam(true, 2, 3);
        map.setWeight(0, 4);
        Check.type(map, "rf");
    }

    private static void pastWithFullText(SeamMap map) {
        past(map);
        for (int length = 4; length <= 160; length++) {
            map.type('f');
        }
    }

    private static SeamMap after(Consumer<SeamMap> past) {
        SeamMap map = new SeamMap();
        past.accept(map);
        return map;
    }

    private static void unchanged(String call, int due, ToIntFunction<SeamMap> made) {
        Twins.unchanged(check, ErrorSentences::past, call, made, due);
        Twins.unchanged(check, ErrorSentences::pastWithTiles, call, made, due);
    }

    private static void constants() {
        SeamMap map = after(ErrorSentences::past);
        check.due("kind(12)", map.kind(12), -1);
        check.due("value(9)", map.value(9), -2);
        check.due("type(..) of a full text", after(ErrorSentences::pastWithFullText).type('f'), -3);
        check.due("distance(0, 2)", map.distance(0, 2), -4);
        check.due("neighbour(0, 3)", map.neighbour(0, 3), -5);
    }

    private static void order() {
        SeamMap map = after(ErrorSentences::pastWithFault);
        for (int tile : NO_TILES) {
            check.due("neighbour(.., 4)", map.neighbour(tile, 4), UNKNOWN);
            check.due("walk(.., 4, 5)", map.walk(tile, 4, 5), UNKNOWN);
            check.due("walk(.., 0, 0)", map.walk(tile, 0, 0), UNKNOWN);
            check.due("setTile(.., 6)", map.setTile(tile, 6), UNKNOWN);
            check.due("fill(.., 6)", map.fill(tile, 6), UNKNOWN);
            check.due("ofPart(.., 8)", map.ofPart(tile, 8), UNKNOWN);
            check.due("partsIf(.., 6)", map.partsIf(tile, 6), UNKNOWN);
            check.due("distance(2, ..)", map.distance(2, tile), UNKNOWN);
            check.due("distance(.., 2)", map.distance(tile, 2), UNKNOWN);
            check.due("route(2, .., -2)", map.route(2, tile, -2), UNKNOWN);
            check.due("route(.., 2, -2)", map.route(tile, 2, -2), UNKNOWN);
            check.due("within(.., -1)", map.within(tile, -1), UNKNOWN);
            check.due("nearest(.., 6)", map.nearest(tile, 6), UNKNOWN);
        }
        check.due("ofPart(1, 8), no label", map.ofPart(1, 8), UNKNOWN);
        check.due("walk(0, 4, 0)", map.walk(0, 4, 0), BAD_VALUE);
        check.due("walk(0, 0, 5)", map.walk(0, 0, 5), BAD_VALUE);
        check.due("walk(0, 0, 0)", map.walk(0, 0, 0), -101);
        check.due("route(0, 2, -2)", map.route(0, 2, -2), BAD_VALUE);
        check.due("route(0, 2, 500)", map.route(0, 2, 500), NO_WAY);
    }

    private static void noneIsLast() {
        SeamMap map = after(ErrorSentences::past);
        // no tile has these neighbours, these numbers, the kind 5, or so long a route
        check.due("neighbour(12, 3)", map.neighbour(12, 3), UNKNOWN);
        check.due("neighbour(0, -1)", map.neighbour(0, -1), BAD_VALUE);
        check.due("neighbour(0, 4)", map.neighbour(0, 4), BAD_VALUE);
        check.due("neighbour(0, 3)", map.neighbour(0, 3), NONE);
        check.due("part(-1)", map.part(-1), BAD_VALUE);
        check.due("part(12)", map.part(12), NONE);
        check.due("greatestPart(6)", map.greatestPart(6), BAD_VALUE);
        check.due("greatestPart(5)", map.greatestPart(5), NONE);
        check.due("route(12, 0, 500)", map.route(12, 0, 500), UNKNOWN);
        check.due("route(0, 0, -2)", map.route(0, 0, -2), BAD_VALUE);
        check.due("route(0, 2, 500)", map.route(0, 2, 500), NO_WAY);
        check.due("route(0, 1, 500)", map.route(0, 1, 500), NONE);
        check.due("nearest(12, 5)", map.nearest(12, 5), UNKNOWN);
        check.due("nearest(0, 6)", map.nearest(0, 6), BAD_VALUE);
        check.due("nearest(0, 5)", map.nearest(0, 5), NONE);
    }

    private static void changesNothing() {
        errorsOfTheMap();
        errorsOfTexts();
        errorsOfEdits();
        errorsOfParts();
        errorsOfDistances();
    }

    private static void errorsOfTheMap() {
        unchanged("reset(2, 5)", BAD_VALUE, map -> map.reset(2, 5));
        unchanged("reset(5, 2)", BAD_VALUE, map -> map.reset(5, 2));
        unchanged("reset(13, 5)", BAD_VALUE, map -> map.reset(13, 5));
        unchanged("reset(5, 13)", BAD_VALUE, map -> map.reset(5, 13));
        unchanged("setSeam(false, 3, 0)", BAD_VALUE, map -> map.setSeam(false, 3, 0));
        unchanged("setSeam(false, -1, 0)", BAD_VALUE, map -> map.setSeam(false, -1, 0));
        unchanged("setSeam(false, 2, 3)", BAD_VALUE, map -> map.setSeam(false, 2, 3));
        unchanged("setSeam(false, 2, -1)", BAD_VALUE, map -> map.setSeam(false, 2, -1));
        unchanged("setSeam(true, 3, 0)", BAD_VALUE, map -> map.setSeam(true, 3, 0));
        unchanged("setSeam(true, 2, 4)", BAD_VALUE, map -> map.setSeam(true, 2, 4));
        unchanged("setSeam(true, 2, -1)", BAD_VALUE, map -> map.setSeam(true, 2, -1));
        unchanged("value(9)", BAD_VALUE, map -> map.value(9));
        unchanged("kind(12)", UNKNOWN, map -> map.kind(12));
        unchanged("neighbour(12, 0)", UNKNOWN, map -> map.neighbour(12, 0));
        unchanged("neighbour(0, 4)", BAD_VALUE, map -> map.neighbour(0, 4));
        unchanged("neighbour(0, 3)", NONE, map -> map.neighbour(0, 3));
    }

    private static void errorsOfTexts() {
        Twins.unchanged(check, ErrorSentences::pastWithFullText, "type('r')",
                map -> map.type('r'), FULL);
        Twins.unchanged(check, ErrorSentences::past, "readTiles()", SeamMap::readTiles, -100);
        Twins.unchanged(check, map -> {
            pastWithTiles(map);
            map.type('5');
        }, "readTiles()", SeamMap::readTiles, -114);
        Twins.unchanged(check, map -> {
            past(map);
            Check.retype(map, "5432/1054/321");
        }, "readTiles()", SeamMap::readTiles, -113);
        Twins.unchanged(check, ErrorSentences::pastWithFault, "walk(0, 0, 0)",
                map -> map.walk(0, 0, 0), -101);
        unchanged("walk(12, 0, 0)", UNKNOWN, map -> map.walk(12, 0, 0));
        unchanged("walk(0, 4, 0)", BAD_VALUE, map -> map.walk(0, 4, 0));
        unchanged("walk(0, 0, 5)", BAD_VALUE, map -> map.walk(0, 0, 5));
    }

    private static void errorsOfEdits() {
        unchanged("setTile(12, 0)", UNKNOWN, map -> map.setTile(12, 0));
        unchanged("setTile(-1, 0)", UNKNOWN, map -> map.setTile(-1, 0));
        unchanged("setTile(0, 6)", BAD_VALUE, map -> map.setTile(0, 6));
        unchanged("setTile(0, -1)", BAD_VALUE, map -> map.setTile(0, -1));
        unchanged("fill(12, 0)", UNKNOWN, map -> map.fill(12, 0));
        unchanged("fill(-1, 0)", UNKNOWN, map -> map.fill(-1, 0));
        unchanged("fill(0, 6)", BAD_VALUE, map -> map.fill(0, 6));
        unchanged("fill(0, -1)", BAD_VALUE, map -> map.fill(0, -1));
        Twins.unchanged(check, ErrorSentences::pastWithoutEdits, "undo()", SeamMap::undo, NONE);
    }

    private static void errorsOfParts() {
        unchanged("label(12)", UNKNOWN, map -> map.label(12));
        unchanged("part(-1)", BAD_VALUE, map -> map.part(-1));
        unchanged("part(12)", NONE, map -> map.part(12));
        unchanged("ofPart(1, 0)", UNKNOWN, map -> map.ofPart(1, 0));
        unchanged("ofPart(0, 8)", BAD_VALUE, map -> map.ofPart(0, 8));
        unchanged("greatestPart(6)", BAD_VALUE, map -> map.greatestPart(6));
        unchanged("greatestPart(5)", NONE, map -> map.greatestPart(5));
        unchanged("partsIf(12, 0)", UNKNOWN, map -> map.partsIf(12, 0));
        unchanged("partsIf(0, 6)", BAD_VALUE, map -> map.partsIf(0, 6));
    }

    private static void errorsOfDistances() {
        unchanged("setWeight(6, 2)", BAD_VALUE, map -> map.setWeight(6, 2));
        unchanged("setWeight(-1, 2)", BAD_VALUE, map -> map.setWeight(-1, 2));
        unchanged("setWeight(0, 10)", BAD_VALUE, map -> map.setWeight(0, 10));
        unchanged("setWeight(0, -1)", BAD_VALUE, map -> map.setWeight(0, -1));
        unchanged("distance(12, 0)", UNKNOWN, map -> map.distance(12, 0));
        unchanged("distance(0, 12)", UNKNOWN, map -> map.distance(0, 12));
        unchanged("distance(0, 2)", NO_WAY, map -> map.distance(0, 2));
        unchanged("route(0, 12, 0)", UNKNOWN, map -> map.route(0, 12, 0));
        unchanged("route(0, 1, -2)", BAD_VALUE, map -> map.route(0, 1, -2));
        unchanged("route(0, 2, 0)", NO_WAY, map -> map.route(0, 2, 0));
        unchanged("route(0, 1, 9)", NONE, map -> map.route(0, 1, 9));
        unchanged("farthest(12)", UNKNOWN, map -> map.farthest(12));
        unchanged("within(12, 0)", UNKNOWN, map -> map.within(12, 0));
        unchanged("within(0, -1)", BAD_VALUE, map -> map.within(0, -1));
        unchanged("nearest(12, 0)", UNKNOWN, map -> map.nearest(12, 0));
        unchanged("nearest(0, 6)", BAD_VALUE, map -> map.nearest(0, 6));
        unchanged("nearest(0, 5)", NONE, map -> map.nearest(0, 5));
    }

    private static void unknown() {
        check.due("UNKNOWN", UNKNOWN, -1);
        SeamMap map = after(ErrorSentences::past);
        for (int tile : NO_TILES) {
            check.due("kind(..)", map.kind(tile), UNKNOWN);
            check.due("ofPart(.., 0)", map.ofPart(tile, 0), UNKNOWN);
        }
        check.due("ofPart(1, 0), a tile and no label", map.ofPart(1, 0), UNKNOWN);
        check.due("ofPart(6, 0), a tile and no label", map.ofPart(6, 0), UNKNOWN);
    }

    private static void badValue() {
        check.due("BAD_VALUE", BAD_VALUE, -2);
        SeamMap map = after(ErrorSentences::past);
        check.due("reset(2, 3)", map.reset(2, 3), BAD_VALUE);
        check.due("neighbour(0, 4)", map.neighbour(0, 4), BAD_VALUE);
        check.due("setWeight(6, 0)", map.setWeight(6, 0), BAD_VALUE);
        check.due("part(-1)", map.part(-1), BAD_VALUE);
    }

    private static void full() {
        check.due("FULL", FULL, -3);
        SeamMap map = after(ErrorSentences::pastWithFullText);
        check.due("type('f')", map.type('f'), FULL);
        map.clearText();
        check.due("type('f') into an empty text", map.type('f'), 1);
    }

    private static void noWay() {
        check.due("NO_WAY", NO_WAY, -4);
        SeamMap map = after(ErrorSentences::past);
        check.due("distance(0, 2)", map.distance(0, 2), NO_WAY);
        check.due("route(2, 6, -1)", map.route(2, 6, -1), NO_WAY);
        map.setWeight(1, 1);
        check.due("distance(2, 6)", map.distance(2, 6), 2);
    }

    private static void none() {
        check.due("NONE", NONE, -5);
        SeamMap map = after(ErrorSentences::past);
        check.due("neighbour(3, 3)", map.neighbour(3, 3), NONE);
        check.due("part(12)", map.part(12), NONE);
        check.due("nearest(0, 5)", map.nearest(0, 5), NONE);
        map.reset(3, 3);
        check.due("undo()", map.undo(), NONE);
    }
}
