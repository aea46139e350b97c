/** What the document's description says of parts, distances and the text. */
final class PartAndWaySentences {
    private static final int BAD_VALUE = SeamMap.BAD_VALUE;
    private static final int NO_WAY = SeamMap.NO_WAY;

    private static final Check check = SentencesTest.check;

    private PartAndWaySentences() {
    }

    static void tell(Sentences all) {
        all.section("Description");
        tellParts(all);
        tellDistances(all);
        all.heads("Text.");
        all.says("A text of at most 160 characters describes the tiles: h rows of w digits from 0"
                + " to 5 each, with \"/\" between the rows.", PartAndWaySentences::text);
        all.says("Its fault is the index, from 0, of the first character that is not allowed at its"
                + " place, or its length if it ends too early.", PartAndWaySentences::fault);
    }

    private static void tellParts(Sentences all) {
        all.heads("Parts.");
        all.says("A part is a greatest set of tiles of one kind that are connected by steps to"
                + " neighbours within the set.", PartAndWaySentences::parts);
        all.says("Its label is the least index of its tiles.", PartAndWaySentences::label);
        all.says("A loop is a sequence of steps within a part that ends at the tile where it"
                + " begins.", PartAndWaySentences::loop);
        all.says("Its class is 1 if it leads over the side seam an odd number of times (in either"
                + " direction), plus 2 if it leads over the end seam an odd number of times.",
                PartAndWaySentences::loopClass);
        all.says("The loops of a part are its classes as a bit set (bit c for class c; bit 0"
                + " always).", PartAndWaySentences::loopsOfAPart);
        all.says("A part is one-sided if it has a loop that leads over flipped seams an odd number"
                + " of times altogether.", PartAndWaySentences::oneSided);
    }

    private static void tellDistances(Sentences all) {
        all.heads("Distances.");
        all.says("Each kind has a weight from 0 to 9, at first 1.", PartAndWaySentences::weights);
        all.says("A tile whose kind has the weight 0 cannot be entered or left.",
                PartAndWaySentences::weightNone);
        all.says("The length of a step is the sum of the weights of both tiles.",
                PartAndWaySentences::lengthOfAStep);
        all.says("The distance of two tiles is the least sum of the lengths of steps that lead from"
                + " one to the other (0 for the same tile, also if it cannot be left).",
                PartAndWaySentences::distance);
        all.says("The route from a tile to another one goes, at each tile, in the lowest direction"
                + " in which a shortest way begins.", PartAndWaySentences::route);
    }

    private static void loops(SeamMap map, int label, int due) {
        check.due("ofPart(" + label + ", 4)", map.ofPart(label, 4), due);
    }

    private static void sides(SeamMap map, int label, int due) {
        check.due("ofPart(" + label + ", 5)", map.ofPart(label, 5), due);
    }

    private static void distance(SeamMap map, int tile, int other, int due) {
        check.due("distance(" + tile + ", " + other + ")", map.distance(tile, other), due);
        check.due("distance(" + other + ", " + tile + ")", map.distance(other, tile), due);
    }

    /** All tiles of a route. */
    private static void route(SeamMap map, int... due) {
        int tile = due[0];
        int other = due[due.length - 1];
        String call = "route(" + tile + ", " + other + ", ";
        check.due(call + "-1)", map.route(tile, other, -1), due.length - 1);
        for (int k = 0; k < due.length; k++) {
            check.due(call + k + ")", map.route(tile, other, k), due[k]);
        }
    }

    private static void seams(SeamMap map, int side, int sideShift, int end, int endShift) {
        map.setSeam(false, side, sideShift);
        map.setSeam(true, end, endShift);
    }

    private static void parts() {
        SeamMap map = Check.map("0010/0101/1000");
        check.labels(map, 0, 0, 2, 3, 0, 5, 6, 7, 8, 6, 6, 6);
        map.setSeam(false, 1, 0);
        check.labels(map, 0, 0, 2, 0, 0, 5, 6, 7, 8, 6, 6, 6);
        map.setSeam(true, 1, 0);
        check.labels(map, 0, 0, 2, 0, 0, 5, 0, 7, 8, 0, 0, 0);
        // corners that touch are no neighbours, nor are the two borders of a closed seam
        check.labels(Check.map("010/101/010"), 0, 1, 2, 3, 4, 5, 6, 7, 8);
        check.labels(Check.map("010/010/101"), 0, 1, 2, 0, 1, 2, 6, 7, 8);
    }

    private static void label() {
        SeamMap map = Check.map("1101/0001/0111");
        check.labels(map, 0, 0, 2, 3, 2, 2, 2, 3, 2, 3, 3, 3);
        map.setTile(2, 1);
        check.labels(map, 0, 0, 0, 0, 4, 4, 4, 0, 4, 0, 0, 0);
        check.labels(Check.map("111/110/100"), 0, 0, 0, 0, 0, 5, 0, 5, 5);
        map = Check.map("110/111/011");
        map.setSeam(true, 2, 2);
        check.labels(map, 0, 0, 2, 0, 0, 0, 2, 0, 0);
    }

    private static void loop() {
        SeamMap map = Check.map("0100/1111/2222");
        map.setSeam(false, 1, 0);
        // tile 1 has another kind: no loop within the part of the others of the row
        loops(map, 0, 1);
        loops(map, 1, 3);
        map.setTile(1, 0);
        loops(map, 0, 3);
        // each row leads to the next one, which has another kind
        map.setSeam(false, 1, 1);
        loops(map, 0, 1);
        loops(map, 4, 1);
        loops(map, 8, 1);
        map.fill(4, 0);
        loops(map, 0, 3);
    }

    private static void loopClass() {
        SeamMap map = Check.map("0000/1111/1111");
        seams(map, 1, 0, 0, 0);
        loops(map, 0, 1 + 2);
        map = Check.map("0111/0111/0111");
        seams(map, 0, 0, 1, 0);
        loops(map, 0, 1 + 4);
        // down the left border, along the lower one, and over the side seam to the beginning
        map = Check.map("0111/0111/0000");
        seams(map, 1, 1, 0, 0);
        loops(map, 0, 1 + 2);
        // stairs that lead over both seams
        map = Check.map("0011/1001/1100/0110");
        seams(map, 1, 0, 1, 0);
        check.due("value(6)", map.value(6), 2);
        loops(map, 0, 1 + 8);
        loops(map, 2, 1 + 8);
        loopsOverASeamOften();
    }

    private static void loopsOverASeamOften() {
        // over the side seam once to the right and once to the left
        SeamMap map = Check.map("0110/0110/1111");
        seams(map, 1, 0, 0, 0);
        loops(map, 0, 1);
        seams(map, 2, 1, 0, 0);
        loops(map, 0, 1);
        // over the side seam twice in the same direction, then three times
        map = Check.map("0000/1111/0000/1111");
        seams(map, 1, 2, 0, 0);
        check.due("value(6)", map.value(6), 2);
        loops(map, 0, 1);
        map = Check.map("0000/1111/0000/1111/0000/1111");
        seams(map, 1, 2, 0, 0);
        loops(map, 0, 1 + 2);
        // the same over the end seam
        map = Check.map("0101/0101/0101");
        seams(map, 0, 0, 1, 2);
        loops(map, 0, 1);
        map = Check.map("010101/010101/010101");
        seams(map, 0, 0, 1, 2);
        loops(map, 0, 1 + 4);
        // six rows with a loop that leads over the side seam six times
        map = Check.map("000/111/000/111/000/111/000/111/000/111/000/111");
        seams(map, 1, 2, 0, 0);
        loops(map, 0, 1);
        // from 0 over the side seam to 8, and from 5 over it to 6, but no way back
        map = Check.map("011/100/010");
        seams(map, 1, 1, 1, 2);
        loops(map, 0, 1);
        // from 2 over the side seam to 6, and from there over the end seam to 2
        map = Check.map("010/101/000");
        seams(map, 1, 2, 1, 2);
        loops(map, 0, 1 + 8);
        // twice over the side seam and once over the end seam: not an odd number and an odd one
        map = Check.map("0000/1111/0000/1111/0001/1011");
        seams(map, 1, 2, 1, 0);
        loops(map, 0, 1 + 4);
    }

    private static void loopsOfAPart() {
        SeamMap map = Check.map("0110/0110/1111");
        loops(map, 0, 1);
        loops(map, 1, 1);
        map = Check.map("012/345/012");
        seams(map, 1, 0, 1, 1);
        loops(map, 4, 1);
        int[] due = {1, 3, 3, 5, 15, 15, 5, 15, 15};
        for (int side = 0; side <= 2; side++) {
            for (int end = 0; end <= 2; end++) {
                map = new SeamMap();
                seams(map, side, 4, end, 5);
                loops(map, 0, due[side + 3 * end]);
            }
        }
        // two loops of one class each make the third class together
        map = Check.map("00000/01111/01111");
        seams(map, 1, 0, 1, 0);
        loops(map, 0, 15);
        loops(map, 6, 1);
        // round by 2, 5 and 8 over the end seam, and by 8, 3, 4 and 5 over the side seam
        map = Check.map("110/000/110");
        seams(map, 2, 0, 1, 0);
        loops(map, 2, 15);
    }

    private static void oneSided() {
        SeamMap map = Check.map("000/111/222");
        seams(map, 1, 0, 0, 0);
        sides(map, 0, 0);
        seams(map, 2, 0, 0, 0);
        sides(map, 0, 1);
        sides(map, 3, 0);
        sides(map, 6, 0);
        map.fill(3, 2);
        sides(map, 3, 1);
        map = Check.map("012/012/012");
        seams(map, 0, 0, 2, 2);
        sides(map, 0, 0);
        sides(map, 1, 1);
        sides(map, 2, 0);
        // rows 0 and 2 change places at the flipped seam: their loop leads over it twice
        map = Check.map("000/111/000");
        seams(map, 2, 2, 0, 0);
        sides(map, 0, 0);
        sides(map, 3, 1);
        // over both seams once each: two flipped seams are an even number, one is an odd one
        map = Check.map("011/111/110");
        seams(map, 1, 1, 1, 1);
        sides(map, 0, 0);
        seams(map, 2, 2, 1, 1);
        sides(map, 0, 1);
        seams(map, 1, 1, 2, 2);
        sides(map, 0, 1);
        seams(map, 2, 2, 2, 2);
        sides(map, 0, 0);
        // from 0 over the end seam to 6, from there over the side seam to 5, but no way back
        map = Check.map("011/110/010");
        seams(map, 2, 0, 2, 0);
        sides(map, 0, 0);
    }

    private static void weights() {
        SeamMap map = new SeamMap();
        for (int kind = 0; kind <= 5; kind++) {
            check.due("setWeight(" + kind + ", 0)", map.setWeight(kind, 0), 1);
            check.due("setWeight(" + kind + ", 9)", map.setWeight(kind, 9), 0);
            check.due("setWeight(" + kind + ", 10)", map.setWeight(kind, 10), BAD_VALUE);
            check.due("setWeight(" + kind + ", -1)", map.setWeight(kind, -1), BAD_VALUE);
            check.due("setWeight(" + kind + ", 1)", map.setWeight(kind, 1), 9);
        }
    }

    private static void weightNone() {
        SeamMap map = Check.map("010/010/010");
        distance(map, 0, 2, 4);
        map.setWeight(1, 0);
        distance(map, 0, 1, NO_WAY);
        distance(map, 1, 4, NO_WAY);
        distance(map, 0, 2, NO_WAY);
        distance(map, 0, 6, 4);
        check.due("farthest(1)", map.farthest(1), 1);
        map.setSeam(false, 1, 0);
        distance(map, 0, 2, 2);
        distance(map, 0, 1, NO_WAY);
        map.setWeight(0, 0);
        distance(map, 0, 2, NO_WAY);
        distance(map, 0, 6, NO_WAY);
    }

    private static void lengthOfAStep() {
        SeamMap map = Check.map("0123/5554/5555");
        for (int kind = 0; kind <= 5; kind++) {
            map.setWeight(kind, kind + 4);
        }
        distance(map, 0, 1, 9);
        distance(map, 1, 2, 11);
        distance(map, 2, 3, 13);
        distance(map, 3, 7, 15);
        distance(map, 4, 5, 18);
        distance(map, 0, 4, 13);
        map.setSeam(false, 2, 0);
        distance(map, 3, 0, 11);
        map.setSeam(true, 1, 0);
        distance(map, 8, 0, 13);
        map.setWeight(0, 9);
        distance(map, 8, 0, 18);
    }

    private static void distance() {
        SeamMap map = Check.map("0100/0100/0000");
        distance(map, 0, 0, 0);
        distance(map, 11, 11, 0);
        distance(map, 0, 2, 4);
        map.setWeight(1, 5);
        distance(map, 0, 2, 12);
        map.setWeight(1, 6);
        distance(map, 0, 2, 12);
        map.setWeight(1, 4);
        distance(map, 0, 2, 10);
        distance(map, 1, 1, 0);
        map.setWeight(1, 0);
        distance(map, 1, 1, 0);
        distance(map, 5, 5, 0);
        distance(map, 1, 5, NO_WAY);
        map.setSeam(false, 1, 0);
        distance(map, 0, 2, 4);
        map.setWeight(0, 0);
        distance(map, 0, 0, 0);
        distance(map, 0, 4, NO_WAY);
    }

    private static void route() {
        SeamMap map = Check.map("0000/0000/0000");
        route(map, 0, 1, 2, 6, 10);
        route(map, 10, 9, 8, 4, 0);
        route(map, 2, 6, 10, 9, 8);
        route(map, 8, 9, 10, 6, 2);
        route(map, 6, 5, 4, 0);
        map.setSeam(false, 1, 0);
        route(map, 0, 1, 2);
        route(map, 2, 3, 0);
        route(map, 3, 0, 1);
        map.setTile(1, 1);
        map.setWeight(1, 2);
        route(map, 0, 3, 2);
        map.setSeam(false, 0, 0);
        route(map, 0, 1, 2);
        map.setWeight(1, 4);
        route(map, 0, 4, 5, 6, 2);
        map.setSeam(true, 1, 0);
        route(map, 0, 4, 5, 6, 2);
        route(map, 2, 6, 5, 4, 0);
        map.setWeight(1, 0);
        route(map, 4, 5, 6);
        route(map, 0, 8);
    }

    private static void text() {
        SeamMap map = new SeamMap();
        map.reset(3, 3);
        Check.type(map, "012/345/501");
        check.due("readTiles()", map.readTiles(), 7);
        check.kinds(map, 0, 1, 2, 3, 4, 5, 5, 0, 1);
        // as many characters in rows of another length do not describe this map
        map.reset(4, 3);
        Check.retype(map, "012/345/012/34");
        check.due("readTiles() of four rows", map.readTiles(), -103);
        String[] others = {"0", "5", ".", "0/", "-", "\n", "\\"};
        for (String between : others) {
            Check.retype(map, "0123" + between + "4501/2345");
            check.due("readTiles() with " + between, map.readTiles(), -104);
        }
        Check.retype(map, "0123/4501/2345");
        check.due("readTiles()", map.readTiles(), 10);
        check.kinds(map, 0, 1, 2, 3, 4, 5, 0, 1, 2, 3, 4, 5);
        map.clearText();
        for (int length = 1; length <= 160; length++) {
            check.due("type('0')", map.type('0'), length);
        }
        check.due("type('0')", map.type('0'), SeamMap.FULL);
    }

    private static void fault(SeamMap map, String text, int due) {
        Check.retype(map, text);
        check.due("readTiles() of " + text, map.readTiles(), -100 - due);
    }

    private static void fault() {
        SeamMap map = new SeamMap();
        map.reset(3, 3);
        String whole = "012/345/012";
        for (int at = 0; at < whole.length(); at++) {
            String before = whole.substring(0, at);
            fault(map, before, at);
            boolean betweenRows = whole.charAt(at) == '/';
            fault(map, before + (betweenRows ? '0' : '/') + whole.substring(at + 1), at);
            fault(map, before + '6' + "x", at);
            if (at % 4 == 0) {
                fault(map, before + ':' + whole.substring(at + 1), at);
            }
        }
        map = new SeamMap();
        map.reset(3, 3);
        fault(map, whole + "0", 11);
        fault(map, whole + "/", 11);
        fault(map, whole + "/345", 11);
        fault(map, "012/345/01", 10);
        fault(map, "012/345/", 8);
        Check.retype(map, whole);
        check.due("readTiles() of the whole", map.readTiles(), 7);
    }
}
