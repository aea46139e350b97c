/** What the document says of promises 19 to 24: setWeight, distance, route and so on. */
final class DistanceSentences {
    private static final int UNKNOWN = SeamMap.UNKNOWN;
    private static final int BAD_VALUE = SeamMap.BAD_VALUE;
    private static final int NO_WAY = SeamMap.NO_WAY;
    private static final int NONE = SeamMap.NONE;
    private static final int LEAST = Integer.MIN_VALUE;
    private static final int MOST = Integer.MAX_VALUE;
    private static final int[] WRONG_TILES = {LEAST, -1, 12, 30, 144, MOST};
    private static final int[] WRONG_KINDS = {LEAST, -1, 6, 7, MOST};
    /** A wall of two tiles between the left border and the right half. */
    private static final String WALL = "0100/0100/0000";

    private static final Check check = SentencesTest.check;

    private DistanceSentences() {
    }

    static void tell(Sentences all) {
        all.section("Promise 19");
        all.says("Sets the weight of a kind.", DistanceSentences::setWeightSets);
        all.says("kind: 0 to 5", DistanceSentences::setWeightKind);
        all.says("weight: 0 to 9", DistanceSentences::setWeightWeight);
        all.says("Returns the previous weight; BAD_VALUE.", DistanceSentences::setWeightReturns);
        all.section("Promise 20");
        all.says("tile: a tile", DistanceSentences::distanceTile);
        all.says("other: a tile", DistanceSentences::distanceOther);
        all.says("Returns the distance; UNKNOWN; NO_WAY.", DistanceSentences::distanceReturns);
        all.section("Promise 21");
        all.says("tile: the tile where the route begins", DistanceSentences::routeTile);
        all.says("other: the tile where it ends", DistanceSentences::routeOther);
        all.says("k: number of a tile of the route, from 0; or -1 for the number of its steps",
                DistanceSentences::routeNumber);
        all.says("Returns the tile, or the number; UNKNOWN; BAD_VALUE if k is less than -1; NO_WAY;"
                + " NONE if the route has not so many tiles.", DistanceSentences::routeReturns);
        tellOthers(all);
    }

    private static void tellOthers(Sentences all) {
        all.section("Promise 22");
        all.says("tile: a tile", DistanceSentences::farthestTile);
        all.says("Returns the tile with the greatest distance from it of those to which there is a"
                + " way, the one with the least index of several; UNKNOWN.",
                DistanceSentences::farthestReturns);
        all.section("Promise 23");
        all.says("tile: a tile", DistanceSentences::withinTile);
        all.says("distance: 0 or more", DistanceSentences::withinDistance);
        all.says("Returns the number of tiles at most so far from it; UNKNOWN; BAD_VALUE.",
                DistanceSentences::withinReturns);
        all.section("Promise 24");
        all.says("tile: a tile", DistanceSentences::nearestTile);
        all.says("kind: 0 to 5", DistanceSentences::nearestKind);
        all.says("Returns the nearest tile of this kind to which there is a way (perhaps the tile"
                + " itself), the one with the least index of several; UNKNOWN; BAD_VALUE; NONE if"
                + " there is none.", DistanceSentences::nearestReturns);
    }

    private static void setWeight(SeamMap map, int kind, int weight, int due) {
        check.due("setWeight(" + kind + ", " + weight + ")", map.setWeight(kind, weight), due);
    }

    private static void distance(SeamMap map, int tile, int other, int due) {
        check.due("distance(" + tile + ", " + other + ")", map.distance(tile, other), due);
    }

    private static void route(SeamMap map, int tile, int other, int k, int due) {
        check.due("route(" + tile + ", " + other + ", " + k + ")", map.route(tile, other, k), due);
    }

    private static void farthest(SeamMap map, int tile, int due) {
        check.due("farthest(" + tile + ")", map.farthest(tile), due);
    }

    private static void within(SeamMap map, int tile, int distance, int due) {
        check.due("within(" + tile + ", " + distance + ")", map.within(tile, distance), due);
    }

    private static void nearest(SeamMap map, int tile, int kind, int due) {
        check.due("nearest(" + tile + ", " + kind + ")", map.nearest(tile, kind), due);
    }

    /** 79 tiles between walls of the weight 0: 77 steps from 0 to 132, and 143 beside the way. */
    private static SeamMap snake() {
        SeamMap map = new SeamMap();
        map.reset(12, 12);
        for (int row = 0; row < 12; row++) {
            Check.type(map, row == 0 ? "" : "/");
            Check.type(map, row % 2 == 0 ? "000000000000"
                    : row % 4 == 1 ? "111111111110" : "011111111111");
        }
        map.readTiles();
        map.setWeight(1, 0);
        map.setTile(143, 0);
        return map;
    }

    private static void setWeightSets() {
        SeamMap map = Check.map("0123/4555/5555");
        map.setWeight(0, 5);
        distance(map, 0, 1, 6);
        distance(map, 1, 2, 2);
        map.setWeight(1, 3);
        distance(map, 0, 1, 8);
        distance(map, 1, 2, 4);
        map.setWeight(5, 9);
        distance(map, 10, 11, 18);
        map.setWeight(5, 0);
        distance(map, 10, 11, NO_WAY);
        distance(map, 0, 1, 8);
        check.due("value(8)", map.value(8), 1);
        check.due("undo()", map.undo(), 0);
        setWeight(map, 5, 1, 0);
    }

    private static void setWeightKind() {
        SeamMap map = new SeamMap();
        for (int kind = 0; kind <= 5; kind++) {
            setWeight(map, kind, kind + 2, 1);
        }
        for (int kind : WRONG_KINDS) {
            setWeight(map, kind, 3, BAD_VALUE);
        }
        for (int kind = 0; kind <= 5; kind++) {
            setWeight(map, kind, 1, kind + 2);
        }
    }

    private static void setWeightWeight() {
        SeamMap map = new SeamMap();
        int[] wrong = {LEAST, -2, -1, 10, 11, MOST};
        for (int kind = 0; kind <= 5; kind++) {
            setWeight(map, kind, 0, 1);
            setWeight(map, kind, 9, 0);
            for (int weight : wrong) {
                setWeight(map, kind, weight, BAD_VALUE);
            }
            setWeight(map, kind, 9, 9);
        }
    }

    private static void setWeightReturns() {
        SeamMap map = new SeamMap();
        int previous = 1;
        for (int weight = 0; weight <= 9; weight++) {
            setWeight(map, 2, weight, previous);
            setWeight(map, 2, weight, weight);
            previous = weight;
        }
        setWeight(map, 6, 10, BAD_VALUE);
        setWeight(map, 2, 10, BAD_VALUE);
        setWeight(map, 6, 1, BAD_VALUE);
        setWeight(map, 2, 0, 9);
        setWeight(map, 3, 0, 1);
    }

    private static void distanceTile() {
        SeamMap map = Check.map(WALL);
        distance(map, 0, 11, 10);
        distance(map, 11, 11, 0);
        for (int tile : WRONG_TILES) {
            distance(map, tile, 0, UNKNOWN);
            distance(map, tile, 11, UNKNOWN);
        }
        map.reset(12, 12);
        distance(map, 143, 142, 2);
        distance(map, 144, 142, UNKNOWN);
    }

    private static void distanceOther() {
        SeamMap map = Check.map(WALL);
        distance(map, 11, 0, 10);
        distance(map, 0, 0, 0);
        for (int tile : WRONG_TILES) {
            distance(map, 0, tile, UNKNOWN);
            distance(map, 11, tile, UNKNOWN);
            distance(map, tile, tile, UNKNOWN);
        }
        map.reset(12, 12);
        distance(map, 142, 143, 2);
        distance(map, 142, 144, UNKNOWN);
    }

    private static void distanceReturns() {
        SeamMap map = snake();
        distance(map, 0, 132, 154);
        distance(map, 0, 143, 132);
        map.setWeight(0, 9);
        distance(map, 0, 132, 1386);
        distance(map, 132, 0, 1386);
        distance(map, 0, 12, NO_WAY);
        distance(map, 12, 0, NO_WAY);
        distance(map, 12, 13, NO_WAY);
        distance(map, 12, 12, 0);
        distance(map, 12, 144, UNKNOWN);
        map.setWeight(1, 1);
        distance(map, 0, 12, 10);
        distance(map, 12, 13, 2);
        distance(map, 0, 24, 20);
        map.setSeam(true, 1, 0);
        distance(map, 0, 132, 18);
    }

    private static void routeTile() {
        SeamMap map = Check.map(WALL);
        route(map, 5, 5, 0, 5);
        route(map, 0, 11, 0, 0);
        route(map, 11, 0, 0, 11);
        route(map, 8, 1, 0, 8);
        for (int tile : WRONG_TILES) {
            route(map, tile, 0, 0, UNKNOWN);
            route(map, tile, 0, -1, UNKNOWN);
        }
        map.reset(12, 12);
        route(map, 143, 0, 0, 143);
        route(map, 144, 0, 0, UNKNOWN);
    }

    private static void routeOther() {
        SeamMap map = Check.map(WALL);
        route(map, 0, 11, 5, 11);
        route(map, 11, 0, 5, 0);
        route(map, 0, 4, 1, 4);
        for (int tile : WRONG_TILES) {
            route(map, 0, tile, 0, UNKNOWN);
            route(map, 0, tile, -1, UNKNOWN);
        }
        map.reset(12, 12);
        route(map, 0, 143, 22, 143);
        route(map, 0, 144, 0, UNKNOWN);
    }

    private static void routeNumber() {
        SeamMap map = new SeamMap();
        map.reset(4, 3);
        int[] due = {0, 1, 2, 3, 7, 11};
        for (int k = 0; k < due.length; k++) {
            route(map, 0, 11, k, due[k]);
        }
        route(map, 0, 11, -1, 5);
        route(map, 0, 11, 6, NONE);
        route(map, 7, 7, -1, 0);
        route(map, 7, 7, 0, 7);
        route(map, 7, 7, 1, NONE);
        map.setWeight(0, 9);
        route(map, 0, 11, -1, 5);
        map = snake();
        route(map, 0, 132, -1, 77);
        route(map, 0, 132, 0, 0);
        route(map, 0, 132, 12, 23);
        route(map, 0, 132, 76, 120);
        route(map, 0, 132, 77, 132);
        route(map, 0, 132, 78, NONE);
    }

    private static void routeReturns() {
        SeamMap map = Check.map(WALL);
        map.setWeight(1, 0);
        int[] tooGreat = {7, 8, 12, 144, MOST};
        for (int k : tooGreat) {
            route(map, 0, 2, k, NONE);
            route(map, 0, 1, k, NO_WAY);
            route(map, 0, 12, k, UNKNOWN);
        }
        route(map, 0, 2, 6, 2);
        route(map, 0, 2, -1, 6);
        int[] tooLittle = {LEAST, -3, -2};
        for (int k : tooLittle) {
            route(map, 0, 2, k, BAD_VALUE);
            route(map, 0, 1, k, BAD_VALUE);
            route(map, 0, 0, k, BAD_VALUE);
            route(map, 12, 0, k, UNKNOWN);
            route(map, 0, -1, k, UNKNOWN);
        }
        route(map, 0, 1, -1, NO_WAY);
        route(map, 0, 1, 0, NO_WAY);
        route(map, 1, 0, 0, NO_WAY);
        route(map, 1, 1, 0, 1);
        route(map, 1, 1, -1, 0);
        route(map, 1, 1, 1, NONE);
    }

    private static void farthestTile() {
        SeamMap map = new SeamMap();
        map.reset(4, 3);
        farthest(map, 0, 11);
        farthest(map, 11, 0);
        farthest(map, 3, 8);
        for (int tile : WRONG_TILES) {
            farthest(map, tile, UNKNOWN);
        }
        map.reset(12, 12);
        farthest(map, 143, 0);
        farthest(map, 144, UNKNOWN);
    }

    private static void farthestReturns() {
        SeamMap map = new SeamMap();
        map.reset(4, 3);
        farthest(map, 5, 3);
        farthest(map, 6, 0);
        map.setSeam(false, 1, 0);
        farthest(map, 0, 10);
        map.setSeam(true, 1, 0);
        farthest(map, 0, 6);
        map = Check.map(WALL);
        map.setWeight(1, 0);
        farthest(map, 0, 3);
        map.setTile(9, 1);
        farthest(map, 0, 8);
        farthest(map, 4, 0);
        // no way to any other tile: the tile itself, at the distance 0
        farthest(map, 1, 1);
        farthest(map, 9, 9);
        map.setTile(0, 1);
        map.setTile(4, 1);
        farthest(map, 8, 8);
        map.setWeight(0, 0);
        farthest(map, 11, 11);
        map = snake();
        farthest(map, 0, 132);
        map.setWeight(0, 9);
        farthest(map, 0, 132);
        farthest(map, 132, 0);
        farthest(map, 12, 12);
    }

    private static void withinTile() {
        SeamMap map = new SeamMap();
        map.reset(4, 3);
        within(map, 0, 2, 3);
        within(map, 11, 2, 3);
        for (int tile : WRONG_TILES) {
            within(map, tile, 0, UNKNOWN);
            within(map, tile, 2, UNKNOWN);
            within(map, tile, -1, UNKNOWN);
        }
        map.reset(12, 12);
        within(map, 143, 2, 3);
        within(map, 144, 2, UNKNOWN);
    }

    private static void withinDistance() {
        SeamMap map = new SeamMap();
        within(map, 0, 0, 1);
        within(map, 0, 1, 1);
        within(map, 0, MOST, 30);
        within(map, 0, -1, BAD_VALUE);
        within(map, 0, -2, BAD_VALUE);
        within(map, 0, LEAST, BAD_VALUE);
        map.setWeight(0, 0);
        within(map, 0, 0, 1);
        within(map, 0, -1, BAD_VALUE);
    }

    private static void withinReturns() {
        SeamMap map = new SeamMap();
        map.reset(4, 3);
        int[] due = {1, 1, 3, 3, 6, 6, 9, 9, 11, 11, 12, 12};
        for (int distance = 0; distance < due.length; distance++) {
            within(map, 0, distance, due[distance]);
        }
        map = Check.map(WALL);
        map.setWeight(1, 2);
        within(map, 0, 2, 2);
        within(map, 0, 3, 3);
        map.setWeight(1, 0);
        within(map, 0, MOST, 10);
        within(map, 1, MOST, 1);
        within(map, 1, 0, 1);
        map = snake();
        map.setWeight(0, 9);
        within(map, 0, 1385, 78);
        within(map, 0, 1386, 79);
        within(map, 0, MOST, 79);
        map.setWeight(1, 1);
        within(map, 0, MOST, 144);
        within(map, 12, -1, BAD_VALUE);
        within(map, 144, -1, UNKNOWN);
    }

    private static void nearestTile() {
        SeamMap map = Check.map(WALL);
        nearest(map, 0, 1, 1);
        nearest(map, 11, 1, 5);
        for (int tile : WRONG_TILES) {
            nearest(map, tile, 0, UNKNOWN);
            nearest(map, tile, 3, UNKNOWN);
            nearest(map, tile, 6, UNKNOWN);
        }
        map.reset(12, 12);
        nearest(map, 143, 0, 143);
        nearest(map, 144, 0, UNKNOWN);
    }

    private static void nearestKind() {
        SeamMap map = Check.map("0123/4500/0000");
        int[] due = {11, 1, 2, 3, 4, 5};
        for (int kind = 0; kind <= 5; kind++) {
            nearest(map, 11, kind, due[kind]);
        }
        for (int kind : WRONG_KINDS) {
            nearest(map, 11, kind, BAD_VALUE);
        }
    }

    private static void nearestReturns() {
        SeamMap map = Check.map("0100/1010/0101");
        nearest(map, 5, 1, 1);
        nearest(map, 0, 1, 1);
        nearest(map, 3, 1, 1);
        nearest(map, 7, 1, 6);
        // the tile itself, though others of its kind have lesser indices
        nearest(map, 11, 1, 11);
        nearest(map, 5, 0, 5);
        nearest(map, 5, 2, NONE);
        map.setWeight(1, 0);
        nearest(map, 5, 1, NONE);
        nearest(map, 0, 0, 0);
        nearest(map, 11, 1, 11);
        nearest(map, 11, 0, NONE);
        nearest(map, 12, 2, UNKNOWN);
        nearest(map, 11, 6, BAD_VALUE);
        // nearer by steps is not nearer by weights, and an index is of matter in a tie alone
        map = Check.map("1020/0000/0001");
        map.setWeight(2, 9);
        nearest(map, 3, 1, 11);
        map.setWeight(2, 1);
        nearest(map, 3, 1, 11);
        nearest(map, 2, 1, 0);
        map.setSeam(false, 1, 0);
        nearest(map, 3, 1, 0);
        map.setSeam(true, 1, 0);
        nearest(map, 3, 1, 0);
        map.setTile(0, 0);
        nearest(map, 0, 1, 11);
        map.setTile(11, 0);
        nearest(map, 0, 1, NONE);
    }
}
