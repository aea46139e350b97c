/** What the document's description says of the map, its seams and walks. */
final class WalkAndSeamSentences {
    private static final int UNKNOWN = SeamMap.UNKNOWN;
    private static final int BAD_VALUE = SeamMap.BAD_VALUE;
    private static final int NONE = SeamMap.NONE;
    /** Columns and rows by turns: the least, the greatest, the first, and one of neither. */
    private static final int[] SIZES = {3, 3, 12, 3, 3, 12, 12, 12, 6, 5, 4, 7};

    private static final Check check = SentencesTest.check;

    private WalkAndSeamSentences() {
    }

    static void tell(Sentences all) {
        all.section("What it is");
        all.heads("A map of tiles whose borders can be closed or glued to each other, shifted or"
                + " flipped: neighbours and walks over seams, connected parts with labels that are"
                + " repaired after edits, loops that cannot shrink, one-sided parts, symmetric"
                + " distances with costs, routes, fills, texts, and undo.");
        all.says("An object is used for at most 512 calls after it has been made; what later calls"
                + " answer is free.", WalkAndSeamSentences::lastCall);
        tellMap(all);
        tellSeams(all);
        tellWalks(all);
    }

    private static void tellMap(Sentences all) {
        all.section("Description");
        all.heads("Map.");
        all.says("The map has w columns (3 to 12, numbered from 0, x) and h rows (3 to 12, numbered"
                + " from 0, y); at first 6 and 5.", WalkAndSeamSentences::columnsAndRows);
        all.says("Each tile has a kind from 0 to 5, at first 0.", WalkAndSeamSentences::kinds);
        all.says("The index of the tile (x, y) is y * w + x.", WalkAndSeamSentences::index);
        all.says("Directions are 0 right, 1 down, 2 left, 3 up.", WalkAndSeamSentences::directions);
        all.says("The neighbour of a tile in a direction is the next tile of the map, if there is"
                + " one.", WalkAndSeamSentences::nextTile);
        all.says("Otherwise the step leads over the side seam (right and left border) or the end"
                + " seam (lower and upper border).", WalkAndSeamSentences::borderOfEachSeam);
    }

    private static void tellSeams(Sentences all) {
        all.says("A seam has a kind and a shift; at first both are closed with the shift 0.",
                WalkAndSeamSentences::firstSeams);
        all.says("0 closed: there is no neighbour.", WalkAndSeamSentences::closed);
        all.says("1 wrapped: a step to the right from (w - 1, y) leads to (0, (y + shift) modulo"
                + " h); a step down from (x, h - 1) leads to ((x + shift) modulo w, 0).",
                WalkAndSeamSentences::wrapped);
        all.says("2 flipped: a step to the right from (w - 1, y) leads to (0, (shift - y) modulo"
                + " h); a step down from (x, h - 1) leads to ((shift - x) modulo w, 0).",
                WalkAndSeamSentences::flipped);
        all.says("(Results of modulo are from 0 on.)", WalkAndSeamSentences::modulo);
        all.says("Steps to the left from the left border and up from the upper border lead back the"
                + " same ways.", WalkAndSeamSentences::stepsBack);
        all.says("The shift of the side seam is from 0 to h - 1, that of the end seam from 0 to"
                + " w - 1.", WalkAndSeamSentences::shifts);
    }

    private static void tellWalks(Sentences all) {
        all.heads("Walks.");
        all.says("A walker has a tile, a heading (a direction) and a side (0 or 1).",
                WalkAndSeamSentences::walker);
        all.says("A step leads to the neighbour in the direction of the heading, if there is one,"
                + " and keeps the heading; a step over a flipped seam changes the side to the other"
                + " one.", WalkAndSeamSentences::step);
        all.says("With the side 0, a turn to the right changes the heading from 0 to 1, 1 to 2, 2"
                + " to 3 and 3 to 0, with the side 1 the other way round; a turn to the left does"
                + " the opposite.", WalkAndSeamSentences::turn);
        all.says("The text of a walk consists of the characters 'f' (a step; the walk ends before"
                + " one that is not possible), 'r' and 'l' (turns).",
                WalkAndSeamSentences::textOfAWalk);
    }

    private static SeamMap sized(int columns, int rows) {
        SeamMap map = new SeamMap();
        map.reset(columns, rows);
        return map;
    }

    private static void neighbour(SeamMap map, int tile, int direction, int due) {
        check.due("neighbour(" + tile + ", " + direction + ")", map.neighbour(tile, direction),
                due);
    }

    /** The neighbours of these tiles, each followed by the one that is due. */
    private static void neighbours(SeamMap map, int direction, int... due) {
        for (int i = 0; i < due.length; i += 2) {
            neighbour(map, due[i], direction, due[i + 1]);
        }
    }

    private static void walk(SeamMap map, int tile, int heading, int... due) {
        for (int what = 0; what < due.length; what++) {
            check.due("walk(" + tile + ", " + heading + ", " + what + ")",
                    map.walk(tile, heading, what), due[what]);
        }
    }

    private static void lastCall() {
        SeamMap map = new SeamMap();
        for (int call = 1; call <= 511; call++) {
            map.setTile(call % 30, 1 + call % 4);
        }
        check.due("kind(1), the 512th call", map.kind(1), 4);
        map = new SeamMap();
        for (int call = 1; call <= 511; call++) {
            map.setTile(0, 0);
        }
        check.due("value(8), the 512th call", map.value(8), 12);
        map = new SeamMap();
        for (int call = 1; call <= 510; call += 2) {
            map.setTile(0, 1);
            map.undo();
        }
        map.setTile(0, 2);
        check.due("undo(), the 512th call", map.undo(), 0);
        map = new SeamMap();
        for (int call = 1; call <= 510; call += 2) {
            map.type('r');
            map.clearText();
        }
        map.type('r');
        check.due("clearText(), the 512th call", map.clearText(), 1);
        map = new SeamMap();
        for (int call = 1; call <= 511; call++) {
            map.type('f');
        }
        check.due("walk(0, 0, 3), the 512th call", map.walk(0, 0, 3), 5);
        map = new SeamMap();
        for (int call = 1; call <= 511; call++) {
            map.setSeam(call % 2 == 0, 1, call % 5);
        }
        check.due("neighbour(5, 0), the 512th call", map.neighbour(5, 0), 6);
        map = new SeamMap();
        for (int call = 1; call <= 511; call++) {
            map.fill(0, call % 6);
        }
        check.due("kind(29), the 512th call", map.kind(29), 1);
        map = new SeamMap();
        for (int call = 1; call <= 511; call++) {
            map.route(0, 29, call % 10);
        }
        check.due("distance(0, 29), the 512th call", map.distance(0, 29), 18);
    }

    private static void columnsAndRows() {
        SeamMap first = new SeamMap();
        check.due("value(0)", first.value(0), 6);
        check.due("value(1)", first.value(1), 5);
        for (int i = 0; i < SIZES.length; i += 2) {
            SeamMap map = sized(SIZES[i], SIZES[i + 1]);
            check.due("value(0)", map.value(0), SIZES[i]);
            check.due("value(1)", map.value(1), SIZES[i + 1]);
            check.due("tiles from 0 to the right border", tilesAhead(map, 0), SIZES[i]);
            check.due("tiles from 0 to the lower border", tilesAhead(map, 1), SIZES[i + 1]);
        }
        check.due("reset(2, 3)", first.reset(2, 3), BAD_VALUE);
        check.due("reset(3, 2)", first.reset(3, 2), BAD_VALUE);
        check.due("reset(13, 12)", first.reset(13, 12), BAD_VALUE);
        check.due("reset(12, 13)", first.reset(12, 13), BAD_VALUE);
    }

    private static int tilesAhead(SeamMap map, int direction) {
        int tiles = 1;
        int at = map.neighbour(0, direction);
        while (at >= 0 && tiles <= 12) {
            tiles++;
            at = map.neighbour(at, direction);
        }
        return tiles;
    }

    private static void kinds() {
        SeamMap map = sized(12, 12);
        for (int tile = 0; tile < 144; tile++) {
            check.due("kind(" + tile + ")", map.kind(tile), 0);
        }
        for (int kind = 0; kind <= 5; kind++) {
            map.setTile(0, kind);
            check.due("kind(0)", map.kind(0), kind);
            map.setTile(143, kind);
            check.due("kind(143)", map.kind(143), kind);
        }
        check.due("setTile(0, -1)", map.setTile(0, -1), BAD_VALUE);
        check.due("setTile(0, 6)", map.setTile(0, 6), BAD_VALUE);
    }

    private static void index() {
        for (int i = 0; i < SIZES.length; i += 2) {
            int w = SIZES[i];
            int h = SIZES[i + 1];
            SeamMap map = sized(w, h);
            for (int x = 0; x < w - 1; x++) {
                neighbour(map, (h - 1) * w + x, 0, (h - 1) * w + x + 1);
            }
            for (int y = 0; y < h - 1; y++) {
                neighbour(map, y * w + w - 1, 1, (y + 1) * w + w - 1);
            }
            check.due("kind of the last tile", map.kind((h - 1) * w + w - 1), 0);
            check.due("kind behind it", map.kind(h * w), UNKNOWN);
        }
    }

    private static void directions() {
        SeamMap map = sized(4, 3);
        neighbour(map, 5, 0, 6);
        neighbour(map, 5, 1, 9);
        neighbour(map, 5, 2, 4);
        neighbour(map, 5, 3, 1);
    }

    private static void nextTile() {
        for (int seam = 0; seam <= 2; seam++) {
            SeamMap map = sized(4, 3);
            map.setSeam(false, seam, 1);
            map.setSeam(true, seam, 2);
            neighbours(map, 0, 0, 1, 1, 2, 2, 3, 4, 5, 5, 6, 6, 7, 8, 9, 9, 10, 10, 11);
            neighbours(map, 2, 1, 0, 2, 1, 3, 2, 5, 4, 6, 5, 7, 6, 9, 8, 10, 9, 11, 10);
            neighbours(map, 1, 0, 4, 1, 5, 2, 6, 3, 7, 4, 8, 5, 9, 6, 10, 7, 11);
            neighbours(map, 3, 4, 0, 5, 1, 6, 2, 7, 3, 8, 4, 9, 5, 10, 6, 11, 7);
        }
    }

    private static void borderOfEachSeam() {
        for (int seam = 1; seam <= 2; seam++) {
            SeamMap side = sized(4, 3);
            side.setSeam(false, seam, 0);
            neighbours(side, 0, 3, 0);
            neighbours(side, 2, 0, 3);
            neighbours(side, 1, 8, NONE, 9, NONE, 10, NONE, 11, NONE);
            neighbours(side, 3, 0, NONE, 1, NONE, 2, NONE, 3, NONE);
            SeamMap end = sized(4, 3);
            end.setSeam(true, seam, 0);
            neighbours(end, 1, 8, 0);
            neighbours(end, 3, 0, 8);
            neighbours(end, 0, 3, NONE, 7, NONE, 11, NONE);
            neighbours(end, 2, 0, NONE, 4, NONE, 8, NONE);
        }
    }

    private static void firstSeams() {
        SeamMap map = new SeamMap();
        for (int what = 2; what <= 5; what++) {
            check.due("value(" + what + ")", map.value(what), 0);
        }
        check.due("setSeam(false, 0, 0)", map.setSeam(false, 0, 0), 0);
        check.due("setSeam(true, 0, 0)", map.setSeam(true, 0, 0), 0);
        neighbour(map, 5, 0, NONE);
        neighbour(map, 0, 2, NONE);
        neighbour(map, 29, 1, NONE);
        neighbour(map, 0, 3, NONE);
    }

    private static void closed() {
        SeamMap map = sized(4, 3);
        for (int shift = 0; shift <= 2; shift++) {
            for (int before = 0; before <= 2; before++) {
                map.setSeam(false, before, 0);
                map.setSeam(true, before, 0);
                map.setSeam(false, 0, shift);
                map.setSeam(true, 0, shift + 1);
                neighbours(map, 0, 3, NONE, 7, NONE, 11, NONE);
                neighbours(map, 2, 0, NONE, 4, NONE, 8, NONE);
                neighbours(map, 1, 8, NONE, 9, NONE, 10, NONE, 11, NONE);
                neighbours(map, 3, 0, NONE, 1, NONE, 2, NONE, 3, NONE);
            }
        }
    }

    private static void wrapped() {
        SeamMap map = sized(4, 3);
        map.setSeam(false, 1, 0);
        neighbours(map, 0, 3, 0, 7, 4, 11, 8);
        map.setSeam(false, 1, 1);
        neighbours(map, 0, 3, 4, 7, 8, 11, 0);
        map.setSeam(false, 1, 2);
        neighbours(map, 0, 3, 8, 7, 0, 11, 4);
        map.setSeam(true, 1, 0);
        neighbours(map, 1, 8, 0, 9, 1, 10, 2, 11, 3);
        map.setSeam(true, 1, 1);
        neighbours(map, 1, 8, 1, 9, 2, 10, 3, 11, 0);
        map.setSeam(true, 1, 3);
        neighbours(map, 1, 8, 3, 9, 0, 10, 1, 11, 2);
        for (int i = 0; i < SIZES.length; i += 2) {
            gluedAs(1, SIZES[i], SIZES[i + 1]);
        }
    }

    private static void flipped() {
        SeamMap map = sized(4, 3);
        map.setSeam(false, 2, 0);
        neighbours(map, 0, 3, 0, 7, 8, 11, 4);
        map.setSeam(false, 2, 1);
        neighbours(map, 0, 3, 4, 7, 0, 11, 8);
        map.setSeam(false, 2, 2);
        neighbours(map, 0, 3, 8, 7, 4, 11, 0);
        map.setSeam(true, 2, 0);
        neighbours(map, 1, 8, 0, 9, 3, 10, 2, 11, 1);
        map.setSeam(true, 2, 1);
        neighbours(map, 1, 8, 1, 9, 0, 10, 3, 11, 2);
        map.setSeam(true, 2, 3);
        neighbours(map, 1, 8, 3, 9, 2, 10, 1, 11, 0);
        for (int i = 0; i < SIZES.length; i += 2) {
            gluedAs(2, SIZES[i], SIZES[i + 1]);
        }
    }

    /** The first and the last tile of each border that steps lead over, by each shift. */
    private static void gluedAs(int seam, int w, int h) {
        SeamMap map = sized(w, h);
        int sign = seam == 1 ? 1 : -1;
        for (int shift = 0; shift < h; shift++) {
            map.setSeam(false, seam, shift);
            neighbour(map, w - 1, 0, shift * w);
            neighbour(map, h * w - 1, 0, Math.floorMod(shift + sign * (h - 1), h) * w);
            neighbour(map, 2 * w - 1, 0, Math.floorMod(shift + sign, h) * w);
        }
        for (int shift = 0; shift < w; shift++) {
            map.setSeam(true, seam, shift);
            neighbour(map, (h - 1) * w, 1, shift);
            neighbour(map, h * w - 1, 1, Math.floorMod(shift + sign * (w - 1), w));
            neighbour(map, (h - 1) * w + 1, 1, Math.floorMod(shift + sign, w));
        }
    }

    /** A sum of w or h is 0 again, one more is 1; a difference below 0 counts from the end. */
    private static void modulo() {
        SeamMap map = sized(5, 4);
        map.setSeam(false, 1, 3);
        neighbours(map, 0, 4, 15, 9, 0, 14, 5, 19, 10);
        map.setSeam(false, 2, 0);
        neighbours(map, 0, 4, 0, 9, 15, 14, 10, 19, 5);
        map.setSeam(true, 1, 4);
        neighbours(map, 1, 15, 4, 16, 0, 17, 1, 18, 2, 19, 3);
        map.setSeam(true, 2, 0);
        neighbours(map, 1, 15, 0, 16, 4, 17, 3, 18, 2, 19, 1);
    }

    private static void stepsBack() {
        SeamMap map = sized(4, 3);
        map.setSeam(false, 1, 1);
        neighbours(map, 2, 0, 11, 4, 3, 8, 7);
        map.setSeam(false, 2, 1);
        neighbours(map, 2, 0, 7, 4, 3, 8, 11);
        map.setSeam(true, 1, 1);
        neighbours(map, 3, 0, 11, 1, 8, 2, 9, 3, 10);
        map.setSeam(true, 2, 1);
        neighbours(map, 3, 0, 9, 1, 8, 2, 11, 3, 10);
        map.setSeam(true, 0, 1);
        neighbours(map, 3, 0, NONE, 3, NONE);
        neighbours(map, 2, 0, 7);
        for (int seam = 1; seam <= 2; seam++) {
            for (int shift = 0; shift < 12; shift++) {
                backAsAhead(seam, shift);
            }
        }
    }

    private static void backAsAhead(int seam, int shift) {
        SeamMap map = sized(12, 12);
        map.setSeam(false, seam, shift);
        map.setSeam(true, seam, shift);
        for (int place = 0; place < 12; place++) {
            neighbour(map, map.neighbour(place * 12 + 11, 0), 2, place * 12 + 11);
            neighbour(map, map.neighbour(132 + place, 1), 3, 132 + place);
        }
    }

    private static void shifts() {
        for (int i = 0; i < SIZES.length; i += 2) {
            SeamMap map = sized(SIZES[i], SIZES[i + 1]);
            for (int seam = 0; seam <= 2; seam++) {
                shiftsBelow(map, false, seam, SIZES[i + 1]);
                shiftsBelow(map, true, seam, SIZES[i]);
            }
        }
    }

    private static void shiftsBelow(SeamMap map, boolean end, int seam, int limit) {
        String call = "setSeam(" + end + ", " + seam + ", ";
        map.setSeam(end, seam, 1);
        check.due(call + "0)", map.setSeam(end, seam, 0), 1);
        check.due(call + "limit - 1)", map.setSeam(end, seam, limit - 1), 1);
        check.due(call + "limit)", map.setSeam(end, seam, limit), BAD_VALUE);
        check.due(call + "-1)", map.setSeam(end, seam, -1), BAD_VALUE);
        check.due("the shift", map.value(end ? 5 : 3), limit - 1);
    }

    private static void walker() {
        SeamMap map = sized(4, 3);
        for (int heading = 0; heading <= 3; heading++) {
            walk(map, 0, heading, 0, heading, 0);
            walk(map, 11, heading, 11, heading, 0);
        }
        check.due("walk(0, 4, 0)", map.walk(0, 4, 0), BAD_VALUE);
        check.due("walk(0, -1, 0)", map.walk(0, -1, 0), BAD_VALUE);
        map.setSeam(false, 2, 0);
        Check.retype(map, "f");
        walk(map, 3, 0, 0, 0, 1);
        Check.retype(map, "fffff");
        walk(map, 3, 0, 0, 0, 0);
    }

    private static void step() {
        SeamMap map = sized(4, 3);
        Check.type(map, "f");
        int[] borders = {7, 0, 10, 1, 4, 2, 2, 3};
        for (int seam = 1; seam <= 2; seam++) {
            map.setSeam(false, seam, 2);
            map.setSeam(true, seam, 3);
            for (int i = 0; i < borders.length; i += 2) {
                int next = map.neighbour(borders[i], borders[i + 1]);
                walk(map, borders[i], borders[i + 1], next, borders[i + 1], seam - 1, 1, 2);
            }
            walk(map, 5, 0, 6, 0, 0, 1, 2);
            walk(map, 5, 1, 9, 1, 0, 1, 2);
            walk(map, 5, 2, 4, 2, 0, 1, 2);
            walk(map, 5, 3, 1, 3, 0, 1, 2);
        }
        // there over the flipped seam and back over it: to the other side, and to the first one
        Check.retype(map, "frrf");
        walk(map, 7, 0, 7, 2, 0, 2, 2);
        walk(map, 2, 3, 2, 1, 0, 2, 2);
        map.setSeam(false, 0, 2);
        map.setSeam(true, 0, 3);
        Check.retype(map, "f");
        for (int i = 0; i < borders.length; i += 2) {
            walk(map, borders[i], borders[i + 1], borders[i], borders[i + 1], 0, 0, 1);
        }
    }

    private static void turn() {
        SeamMap map = sized(4, 3);
        Check.type(map, "r");
        headings(map, 1, 2, 3, 0);
        Check.retype(map, "l");
        headings(map, 3, 0, 1, 2);
        map.setSeam(false, 2, 2);
        map.setSeam(true, 2, 3);
        Check.retype(map, "fr");
        headings(map, 3, 0, 1, 2);
        Check.retype(map, "fl");
        headings(map, 1, 2, 3, 0);
        map.setSeam(false, 1, 2);
        map.setSeam(true, 1, 3);
        Check.retype(map, "fr");
        headings(map, 1, 2, 3, 0);
    }

    /** The headings after a walk that begins with 0, 1, 2 and 3, each at the border ahead. */
    private static void headings(SeamMap map, int... due) {
        int[] borders = {7, 10, 4, 2};
        for (int heading = 0; heading <= 3; heading++) {
            check.due("walk(" + borders[heading] + ", " + heading + ", 1)",
                    map.walk(borders[heading], heading, 1), due[heading]);
        }
    }

    private static void textOfAWalk() {
        SeamMap map = sized(4, 3);
        Check.type(map, "frlf");
        walk(map, 2, 0, 3, 0, 0, 1, 2);
        walk(map, 3, 0, 3, 0, 0, 0, 1);
        Check.retype(map, "rf");
        walk(map, 11, 0, 11, 1, 0, 0, 1);
        Check.retype(map, "ffrf");
        walk(map, 2, 0, 3, 0, 0, 1, 2);
        Check.retype(map, "ffl");
        walk(map, 4, 3, 0, 3, 0, 1, 2);
        Check.retype(map, "lr");
        walk(map, 0, 3, 0, 3, 0, 0, 1);
        Check.retype(map, "fg");
        check.due("walk(0, 0, 0) of fg", map.walk(0, 0, 0), -101);
        Check.retype(map, "F");
        check.due("walk(0, 0, 0) of F", map.walk(0, 0, 0), -100);
    }
}
