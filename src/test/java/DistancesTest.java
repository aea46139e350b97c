/** Promises 19 to 24: setWeight, distance, route, farthest, within, nearest. */
public final class DistancesTest {
    private static final int UNKNOWN = SeamMap.UNKNOWN;
    private static final int BAD_VALUE = SeamMap.BAD_VALUE;
    private static final int NO_WAY = SeamMap.NO_WAY;
    private static final int NONE = SeamMap.NONE;
    private static final int LEAST = Integer.MIN_VALUE;
    private static final int MOST = Integer.MAX_VALUE;
    private static final int[] WRONG_TILES = {LEAST, -1, 12, 144, MOST};
    private static final int[] WRONG_KINDS = {LEAST, -1, 6, MOST};
    private static final String WALL = "0100/0100/0000";

    private static final Check check = new Check("DistancesTest");

    public static void main(String[] arguments) {
        setWeight();
        distance();
        distanceWithWeights();
        distanceWithTheWeightNone();
        distanceOverSeams();
        route();
        routeTakesTheLowestDirection();
        routeWithWeights();
        routeOverSeams();
        routeErrors();
        farthest();
        within();
        nearest();
        check.end();
    }

    private static void setWeight() {
        check.promise(19, "setWeight");
        SeamMap map = new SeamMap();
        for (int kind = 0; kind < 6; kind++) {
            check.due("setWeight(" + kind + ", ..)", map.setWeight(kind, kind + 4), 1);
        }
        for (int kind = 0; kind < 6; kind++) {
            check.due("setWeight(" + kind + ", 0)", map.setWeight(kind, 0), kind + 4);
            check.due("setWeight(" + kind + ", 9)", map.setWeight(kind, 9), 0);
        }
        for (int kind : WRONG_KINDS) {
            check.due("setWeight(" + kind + ", 3)", map.setWeight(kind, 3), BAD_VALUE);
        }
        int[] wrongWeights = {LEAST, -1, 10, MOST};
        for (int weight : wrongWeights) {
            check.due("setWeight(0, " + weight + ")", map.setWeight(0, weight), BAD_VALUE);
            check.due("setWeight(5, " + weight + ")", map.setWeight(5, weight), BAD_VALUE);
        }
        for (int kind = 0; kind < 6; kind++) {
            check.due("setWeight(" + kind + ", 9)", map.setWeight(kind, 9), 9);
        }
        check.due("value(8), as weights are no edits", map.value(8), 0);
    }

    private static void distance() {
        check.promise(20, "distance");
        SeamMap map = new SeamMap();
        map.reset(4, 3);
        int[] due = {0, 2, 4, 6, 2, 4, 6, 8, 4, 6, 8, 10};
        for (int tile = 0; tile < due.length; tile++) {
            check.due("distance(0, " + tile + ")", map.distance(0, tile), due[tile]);
            check.due("distance(" + tile + ", 0)", map.distance(tile, 0), due[tile]);
        }
        for (int tile : WRONG_TILES) {
            check.due("distance(" + tile + ", 0)", map.distance(tile, 0), UNKNOWN);
            check.due("distance(0, " + tile + ")", map.distance(0, tile), UNKNOWN);
            check.due("distance of both " + tile, map.distance(tile, tile), UNKNOWN);
        }
    }

    private static void distanceWithWeights() {
        check.promise(20, "distance");
        SeamMap map = Check.map(WALL);
        check.due("distance(0, 2)", map.distance(0, 2), 4);
        map.setWeight(1, 2);
        check.due("distance(0, 2)", map.distance(0, 2), 6);
        check.due("distance(0, 1)", map.distance(0, 1), 3);
        check.due("distance(1, 5)", map.distance(1, 5), 4);
        map.setWeight(1, 9);
        check.due("distance(0, 2), by the detour", map.distance(0, 2), 12);
        check.due("distance(2, 0), by the detour", map.distance(2, 0), 12);
        check.due("distance(0, 1)", map.distance(0, 1), 10);
        map.setWeight(0, 9);
        check.due("distance(0, 2)", map.distance(0, 2), 36);
        SeamMap snake = new SeamMap();
        snake.reset(12, 12);
        snake.setWeight(0, 9);
        snake.setWeight(1, 0);
        for (int row = 1; row < 12; row += 2) {
            for (int column = 0; column < 12; column++) {
                snake.setTile(row * 12 + column, 1);
            }
            snake.setTile(row * 12 + (row % 4 == 1 ? 11 : 0), 0);
        }
        check.due("distance(0, 132) of a long way", snake.distance(0, 132), 77 * 18);
    }

    private static void distanceWithTheWeightNone() {
        check.promise(20, "distance");
        SeamMap map = Check.map(WALL);
        map.setWeight(1, 0);
        check.due("distance(0, 2)", map.distance(0, 2), 12);
        check.due("distance(0, 1)", map.distance(0, 1), NO_WAY);
        check.due("distance(1, 0)", map.distance(1, 0), NO_WAY);
        check.due("distance(1, 5)", map.distance(1, 5), NO_WAY);
        check.due("distance(1, 1)", map.distance(1, 1), 0);
        map.setTile(9, 1);
        check.due("distance(0, 2)", map.distance(0, 2), NO_WAY);
        check.due("distance(0, 8)", map.distance(0, 8), 4);
        check.due("distance(12, 1)", map.distance(12, 1), UNKNOWN);
        map.undo();
        check.due("distance(0, 2)", map.distance(0, 2), 12);
    }

    private static void distanceOverSeams() {
        check.promise(20, "distance");
        SeamMap map = new SeamMap();
        map.reset(4, 3);
        map.setSeam(false, 1, 0);
        check.due("distance(0, 3)", map.distance(0, 3), 2);
        check.due("distance(0, 11)", map.distance(0, 11), 6);
        map.setSeam(false, 1, 2);
        check.due("distance(3, 8)", map.distance(3, 8), 2);
        check.due("distance(0, 3)", map.distance(0, 3), 4);
        map.setSeam(true, 2, 3);
        check.due("distance(0, 11)", map.distance(0, 11), 2);
        check.due("distance(8, 3)", map.distance(8, 3), 2);
        map.setSeam(true, 0, 3);
        map.setSeam(false, 0, 2);
        check.due("distance(0, 11)", map.distance(0, 11), 10);
    }

    /** The number of steps is due.length - 1. */
    private static void route(SeamMap map, int... due) {
        int tile = due[0];
        int other = due[due.length - 1];
        String call = "route(" + tile + ", " + other + ", ";
        check.due(call + "-1)", map.route(tile, other, -1), due.length - 1);
        for (int k = 0; k < due.length; k++) {
            check.due(call + k + ")", map.route(tile, other, k), due[k]);
        }
        check.due(call + due.length + ")", map.route(tile, other, due.length), NONE);
        check.due(call + MOST + ")", map.route(tile, other, MOST), NONE);
    }

    private static void route() {
        check.promise(21, "route");
        SeamMap map = new SeamMap();
        map.reset(4, 3);
        route(map, 0, 1);
        route(map, 0, 1, 2, 3);
        route(map, 3, 2, 1, 0);
        route(map, 8, 4, 0);
        route(map, 5);
    }

    private static void routeTakesTheLowestDirection() {
        check.promise(21, "route");
        SeamMap map = new SeamMap();
        map.reset(4, 3);
        route(map, 0, 1, 2, 3, 7, 11);
        route(map, 11, 10, 9, 8, 4, 0);
        route(map, 3, 7, 11, 10, 9, 8);
        route(map, 8, 9, 10, 11, 7, 3);
        route(map, 5, 4, 0);
        route(map, 1, 5, 4);
        route(map, 4, 5, 1);
    }

    private static void routeWithWeights() {
        check.promise(21, "route");
        SeamMap map = Check.map(WALL);
        map.setWeight(1, 5);
        route(map, 0, 1, 2);
        route(map, 2, 6, 10, 9, 8, 4, 0);
        map.setWeight(1, 9);
        route(map, 0, 4, 8, 9, 10, 6, 2);
        map.setWeight(1, 0);
        route(map, 0, 4, 8, 9, 10, 6, 2);
        map.setWeight(1, 2);
        route(map, 2, 1, 0);
        route(map, 1);
    }

    private static void routeOverSeams() {
        check.promise(21, "route");
        SeamMap map = new SeamMap();
        map.reset(4, 3);
        map.setSeam(false, 1, 0);
        route(map, 0, 3);
        route(map, 0, 1, 2);
        route(map, 2, 3, 0);
        map.setSeam(false, 2, 1);
        route(map, 3, 4, 5);
        route(map, 5, 4, 3);
        route(map, 9, 10, 11);
        map.setSeam(true, 1, 1);
        route(map, 8, 1);
        route(map, 0, 11);
        map.setSeam(false, 0, 0);
        route(map, 4, 5, 1);
        route(map, 8, 9, 2);
    }

    private static void routeErrors() {
        check.promise(21, "route");
        SeamMap map = Check.map(WALL);
        for (int tile : WRONG_TILES) {
            check.due("route(" + tile + ", 0, 0)", map.route(tile, 0, 0), UNKNOWN);
            check.due("route(0, " + tile + ", 0)", map.route(0, tile, 0), UNKNOWN);
            check.due("route(0, " + tile + ", -2)", map.route(0, tile, -2), UNKNOWN);
        }
        map.setWeight(1, 0);
        int[] wrongNumbers = {LEAST, -3, -2};
        for (int k : wrongNumbers) {
            check.due("route(0, 11, " + k + ")", map.route(0, 11, k), BAD_VALUE);
            check.due("route(0, 1, " + k + ")", map.route(0, 1, k), BAD_VALUE);
            check.due("route(0, 0, " + k + ")", map.route(0, 0, k), BAD_VALUE);
        }
        int[] numbers = {-1, 0, 1, MOST};
        for (int k : numbers) {
            check.due("route(0, 1, " + k + ")", map.route(0, 1, k), NO_WAY);
            check.due("route(1, 0, " + k + ")", map.route(1, 0, k), NO_WAY);
            check.due("route(1, 5, " + k + ")", map.route(1, 5, k), NO_WAY);
        }
        route(map, 1);
    }

    private static void farthest() {
        check.promise(22, "farthest");
        SeamMap map = new SeamMap();
        map.reset(4, 3);
        check.due("farthest(0)", map.farthest(0), 11);
        check.due("farthest(11)", map.farthest(11), 0);
        check.due("farthest(5), of two", map.farthest(5), 3);
        check.due("farthest(6), of two", map.farthest(6), 0);
        map = Check.map(WALL);
        map.setWeight(1, 0);
        check.due("farthest(0)", map.farthest(0), 3);
        check.due("farthest(1), which cannot be left", map.farthest(1), 1);
        map.setTile(9, 1);
        check.due("farthest(0), in a corner", map.farthest(0), 8);
        check.due("farthest(4), of two", map.farthest(4), 0);
        map.setWeight(1, 9);
        check.due("farthest(0), of what is behind heavy tiles", map.farthest(0), 11);
        map.setTile(0, 2);
        map.setWeight(0, 0);
        check.due("farthest(0), along heavy tiles", map.farthest(0), 9);
        for (int tile : WRONG_TILES) {
            check.due("farthest(" + tile + ")", map.farthest(tile), UNKNOWN);
        }
    }

    private static void within() {
        check.promise(23, "within");
        SeamMap map = Check.map(WALL);
        map.setWeight(1, 0);
        int[] due = {1, 1, 2, 2, 3, 3, 4, 4, 5, 5, 7, 7, 9, 9, 10, 10};
        for (int distance = 0; distance < due.length; distance++) {
            check.due("within(0, " + distance + ")", map.within(0, distance), due[distance]);
        }
        check.due("within(0, " + MOST + ")", map.within(0, MOST), 10);
        check.due("within(1, " + MOST + ")", map.within(1, MOST), 1);
        check.due("within(1, 0)", map.within(1, 0), 1);
        check.due("within(0, -1)", map.within(0, -1), BAD_VALUE);
        check.due("within(0, " + LEAST + ")", map.within(0, LEAST), BAD_VALUE);
        for (int tile : WRONG_TILES) {
            check.due("within(" + tile + ", 0)", map.within(tile, 0), UNKNOWN);
            check.due("within(" + tile + ", -1)", map.within(tile, -1), UNKNOWN);
        }
        map.setSeam(false, 1, 0);
        check.due("within(0, 2)", map.within(0, 2), 3);
        map.setWeight(1, 1);
        check.due("within(0, 2)", map.within(0, 2), 4);
        map.setWeight(1, 2);
        check.due("within(0, 2)", map.within(0, 2), 3);
        check.due("within(0, 3)", map.within(0, 3), 4);
    }

    private static void nearest() {
        check.promise(24, "nearest");
        SeamMap map = Check.map(WALL);
        check.due("nearest(3, 1)", map.nearest(3, 1), 1);
        check.due("nearest(10, 1)", map.nearest(10, 1), 5);
        check.due("nearest(5, 1), the tile itself", map.nearest(5, 1), 5);
        check.due("nearest(5, 0), of three", map.nearest(5, 0), 4);
        check.due("nearest(1, 0), of two", map.nearest(1, 0), 0);
        check.due("nearest(0, 2)", map.nearest(0, 2), NONE);
        map.setWeight(1, 0);
        check.due("nearest(0, 1), which cannot be entered", map.nearest(0, 1), NONE);
        check.due("nearest(1, 0)", map.nearest(1, 0), NONE);
        check.due("nearest(1, 1), which cannot be left", map.nearest(1, 1), 1);
        SeamMap two = Check.map("0001/1000/0000");
        check.due("nearest(1, 1), of two", two.nearest(1, 1), 3);
        check.due("nearest(9, 1)", two.nearest(9, 1), 4);
        two.setTile(2, 2);
        two.setWeight(2, 3);
        check.due("nearest(1, 1), of which one is behind a heavy tile", two.nearest(1, 1), 4);
        two.setSeam(false, 1, 1);
        check.due("nearest(7, 4)", two.nearest(7, 4), NONE);
        check.due("nearest(4, 2)", two.nearest(4, 2), 2);
        for (int tile : WRONG_TILES) {
            check.due("nearest(" + tile + ", 0)", two.nearest(tile, 0), UNKNOWN);
            check.due("nearest(" + tile + ", 6)", two.nearest(tile, 6), UNKNOWN);
        }
        for (int kind : WRONG_KINDS) {
            check.due("nearest(0, " + kind + ")", two.nearest(0, kind), BAD_VALUE);
        }
    }
}
