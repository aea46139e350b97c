/** Compares answers with the ones that are due, and ends a test with exit code 1 if any differs. */
final class Check {
    private final String name;
    private String promise = "";
    private int compared;
    private int wrong;

    Check(String name) {
        this.name = name;
    }

    /** Names the promise that the next comparisons belong to. */
    void promise(int number, String what) {
        promise = "promise " + number + " (" + what + ")";
    }

    /** Names the sentence of the document that the next comparisons belong to. */
    void sentence(String section, String words) {
        promise = section + ", \"" + words + "\"";
    }

    void due(String call, long got, long want) {
        compared++;
        if (got != want) {
            wrong++;
            System.out.println(name + ", " + promise + ": " + call + " answered " + got
                    + ", due is " + want);
        }
    }

    void isTrue(String what, boolean holds) {
        due(what, holds ? 1 : 0, 1);
    }

    /** The labels of the tiles from 0 on. */
    void labels(SeamMap map, int... due) {
        for (int tile = 0; tile < due.length; tile++) {
            due("label(" + tile + ")", map.label(tile), due[tile]);
        }
    }

    /** The kinds of the tiles from 0 on. */
    void kinds(SeamMap map, int... due) {
        for (int tile = 0; tile < due.length; tile++) {
            due("kind(" + tile + ")", map.kind(tile), due[tile]);
        }
    }

    int compared() {
        return compared;
    }

    int wrong() {
        return wrong;
    }

    void end() {
        System.out.println(name + ": " + compared + " comparisons, " + wrong + " wrong");
        if (wrong != 0 || compared == 0) {
            System.exit(1);
        }
    }

    static void type(SeamMap map, String text) {
        for (char character : text.toCharArray()) {
            map.type(character);
        }
    }

    static void retype(SeamMap map, String text) {
        map.clearText();
        type(map, text);
    }

    /** A map of the size and the kinds that the text tells; the text is left empty. */
    static SeamMap map(String rows) {
        SeamMap map = new SeamMap();
        int columns = rows.indexOf('/');
        map.reset(columns, (rows.length() + 1) / (columns + 1));
        type(map, rows);
        if (map.readTiles() < 0) {
            throw new IllegalStateException("no description of a map: " + rows);
        }
        map.clearText();
        return map;
    }

    /** What tells the whole state but the text, in some 5 calls a tile and 30 more. */
    static String everything(SeamMap map) {
        StringBuilder all = new StringBuilder();
        for (int what = 0; what <= 8; what++) {
            all.append(map.value(what)).append(' ');
        }
        int tiles = map.value(0) * map.value(1);
        for (int tile = 0; tile < tiles; tile++) {
            all.append("| ").append(map.kind(tile)).append(' ').append(map.label(tile));
            all.append(' ').append(map.distance(0, tile));
            all.append(' ').append(map.neighbour(tile, tile % 4));
        }
        for (int kind = 0; kind < 6; kind++) {
            int weight = map.setWeight(kind, 0);
            map.setWeight(kind, weight);
            all.append(" weight ").append(weight);
        }
        return all.toString();
    }
}
