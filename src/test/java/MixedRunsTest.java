/** Long runs of calls with mixed arguments, the same ones each time, all answers as PlainMap's. */
public final class MixedRunsTest {
    private static final int RUNS = 600;
    private static final int CALLS = 512;
    /** No step of a run makes more calls than this, but for typing, which looks at the limit. */
    private static final int MOST_AT_ONCE = 15;

    private static final Check check = new Check("MixedRunsTest");

    private final int run;
    private long mixed;
    private final SeamMap map = new SeamMap();
    private final PlainMap plain = new PlainMap();
    /** How many kinds tiles get mostly; few kinds make great parts. */
    private final int usualKinds;
    private int calls;

    private MixedRunsTest(int run) {
        this.run = run;
        this.mixed = run;
        this.usualKinds = 2 + numberBelow(5) % 4;
    }

    public static void main(String[] arguments) {
        for (int run = 0; run < RUNS && check.wrong() == 0; run++) {
            new MixedRunsTest(run).calls();
        }
        check.end();
    }

    private void calls() {
        int size = run % 10 == 0 ? 12 : run % 2 == 0 ? 4 : 6;
        reset(3 + numberBelow(size - 2), 3 + numberBelow(size - 2));
        while (calls < CALLS - MOST_AT_ONCE && check.wrong() == 0) {
            if (numberBelow(100) < 60) {
                ask();
            } else {
                change(size);
            }
        }
    }

    private void due(String call, int got, int want) {
        calls++;
        check.isTrue("no more calls than promised", calls <= CALLS);
        check.due("run " + run + ", call " + calls + ": " + call, got, want);
    }

    /** A linear congruential generator, so that each run is the same wherever it is run. */
    private int numberBelow(int limit) {
        mixed = mixed * 6364136223846793005L + 1442695040888963407L;
        return (int) ((mixed >>> 33) % limit);
    }

    private boolean roll(int percent) {
        return numberBelow(100) < percent;
    }

    private int wrongNumber() {
        int[] wrong = {Integer.MIN_VALUE, Integer.MAX_VALUE, -1, -2, -5, 6, 9, 10, 13, 144, 145};
        return wrong[numberBelow(wrong.length)];
    }

    private int number(int below) {
        return roll(3) ? wrongNumber() : roll(3) ? below : numberBelow(below);
    }

    private int tile() {
        return number(plain.tiles());
    }

    private int kind() {
        return roll(90) ? numberBelow(usualKinds) : number(6);
    }

    private void reset(int columns, int rows) {
        due("reset(" + columns + ", " + rows + ")", map.reset(columns, rows),
                plain.reset(columns, rows));
    }

    private void type(String text) {
        for (char character : text.toCharArray()) {
            if (calls < CALLS - MOST_AT_ONCE) {
                due("type(" + (int) character + ")", map.type(character), plain.type(character));
            }
        }
    }

    private void clearText() {
        due("clearText()", map.clearText(), plain.clearText());
    }

    private void change(int size) {
        switch (numberBelow(14)) {
            case 0:
                if (roll(10)) {
                    reset(roll(80) ? 3 + numberBelow(size - 2) : wrongNumber(),
                            roll(80) ? 3 + numberBelow(size - 2) : wrongNumber());
                }
                break;
            case 1:
            case 2:
            case 3:
                setSeam();
                break;
            case 4:
                undo();
                break;
            case 5:
                fill();
                break;
            case 6:
                typeWalk();
                break;
            case 7:
                typeMap();
                break;
            case 8:
                setWeight();
                break;
            default:
                setTile();
        }
    }

    private void setSeam() {
        boolean end = roll(50);
        int kind = number(3);
        int shift = number(plain.value(end ? 0 : 1));
        due("setSeam(" + end + ", " + kind + ", " + shift + ")", map.setSeam(end, kind, shift),
                plain.setSeam(end, kind, shift));
    }

    private void undo() {
        for (int times = roll(10) ? 14 : 1; times > 0; times--) {
            due("undo()", map.undo(), plain.undo());
        }
    }

    private void fill() {
        int tile = tile();
        int kind = kind();
        due("fill(" + tile + ", " + kind + ")", map.fill(tile, kind), plain.fill(tile, kind));
    }

    private void setWeight() {
        int kind = kind();
        int weight = roll(20) ? 0 : number(10);
        due("setWeight(" + kind + ", " + weight + ")", map.setWeight(kind, weight),
                plain.setWeight(kind, weight));
    }

    private void setTile() {
        int tile = tile();
        int kind = kind();
        due("setTile(" + tile + ", " + kind + ")", map.setTile(tile, kind),
                plain.setTile(tile, kind));
    }

    private void typeWalk() {
        clearText();
        StringBuilder text = new StringBuilder();
        for (int length = numberBelow(16); length > 0; length--) {
            text.append("fffrl".charAt(numberBelow(5)));
        }
        if (roll(8)) {
            text.append((char) numberBelow(300));
        }
        type(text.toString());
        for (int times = 0; times < 5; times++) {
            walk();
        }
    }

    private void typeMap() {
        if (plain.tiles() > 50 && !roll(20)) {
            return;
        }
        clearText();
        StringBuilder text = new StringBuilder(plain.describe(roll(10) ? 0 : -1));
        for (int changes = numberBelow(plain.tiles() + 1); changes > 0; changes--) {
            int at = numberBelow(text.length());
            if (text.charAt(at) != '/') {
                text.setCharAt(at, (char) ('0' + numberBelow(usualKinds)));
            }
        }
        if (roll(15)) {
            text.setCharAt(numberBelow(text.length()), "/0567.f".charAt(numberBelow(7)));
        } else if (roll(10)) {
            text.setLength(numberBelow(text.length()));
        } else if (roll(10)) {
            text.append("/0f".charAt(numberBelow(3)));
        }
        type(text.toString());
        due("readTiles()", map.readTiles(), plain.readTiles());
    }

    private void walk() {
        int tile = tile();
        int heading = number(4);
        int what = number(5);
        due("walk(" + tile + ", " + heading + ", " + what + ")", map.walk(tile, heading, what),
                plain.walk(tile, heading, what));
    }

    private void ask() {
        switch (numberBelow(16)) {
            case 0:
                value();
                break;
            case 1:
                neighbour();
                break;
            case 2:
                walk();
                break;
            case 3:
                label();
                break;
            case 4:
                int k = number(8);
                due("part(" + k + ")", map.part(k), plain.part(k));
                break;
            case 5:
                int kind = kind();
                due("greatestPart(" + kind + ")", map.greatestPart(kind),
                        plain.greatestPart(kind));
                break;
            case 6:
                partsIf();
                break;
            case 7:
                distance();
                break;
            case 8:
            case 9:
                route();
                break;
            case 10:
                int tile = tile();
                due("farthest(" + tile + ")", map.farthest(tile), plain.farthest(tile));
                break;
            case 11:
                within();
                break;
            case 12:
                nearest();
                break;
            default:
                ofPart();
        }
    }

    private void value() {
        int what = number(9);
        due("value(" + what + ")", map.value(what), plain.value(what));
    }

    private void neighbour() {
        int tile = tile();
        int direction = number(4);
        due("neighbour(" + tile + ", " + direction + ")", map.neighbour(tile, direction),
                plain.neighbour(tile, direction));
    }

    private void label() {
        int tile = tile();
        due("label(" + tile + ")", map.label(tile), plain.label(tile));
        due("kind(" + tile + ")", map.kind(tile), plain.kind(tile));
    }

    private void ofPart() {
        int tile = tile();
        int label = roll(95) && plain.label(tile) >= 0 ? plain.label(tile) : tile;
        int what = roll(40) ? 4 + numberBelow(2) : number(8);
        due("ofPart(" + label + ", " + what + ")", map.ofPart(label, what),
                plain.ofPart(label, what));
    }

    private void partsIf() {
        int tile = tile();
        int kind = kind();
        due("partsIf(" + tile + ", " + kind + ")", map.partsIf(tile, kind),
                plain.partsIf(tile, kind));
    }

    private void distance() {
        int tile = tile();
        int other = tile();
        due("distance(" + tile + ", " + other + ")", map.distance(tile, other),
                plain.distance(tile, other));
    }

    private void route() {
        int tile = tile();
        int other = tile();
        int k = roll(10) ? wrongNumber() : numberBelow(9) - 1;
        due("route(" + tile + ", " + other + ", " + k + ")", map.route(tile, other, k),
                plain.route(tile, other, k));
    }

    private void within() {
        int tile = tile();
        int distance = roll(10) ? wrongNumber() : numberBelow(40);
        due("within(" + tile + ", " + distance + ")", map.within(tile, distance),
                plain.within(tile, distance));
    }

    private void nearest() {
        int tile = tile();
        int kind = kind();
        due("nearest(" + tile + ", " + kind + ")", map.nearest(tile, kind),
                plain.nearest(tile, kind));
    }
}
