/**
 * A map of tiles whose borders can be closed or glued to each other, shifted or flipped:
 * neighbours and walks over seams, connected parts with labels that are repaired after edits,
 * loops that cannot shrink, one-sided parts, symmetric distances with costs, routes, fills,
 * texts, and undo.
 *
 * <p>Every row that a call needs is made with the object and used again, so that no call makes
 * anything new.
 */
public final class SeamMap {
    /** There is no such tile, or no part with this label. */
    public static final int UNKNOWN = -1;
    /** Another argument is out of range. */
    public static final int BAD_VALUE = -2;
    /** There is no more room. */
    public static final int FULL = -3;
    /** There is no way. */
    public static final int NO_WAY = -4;
    /** There is no such thing; not an error. */
    public static final int NONE = -5;

    private static final int FIRST_COLUMNS = 6;
    private static final int FIRST_ROWS = 5;
    private static final int LEAST_SIZE = 3;
    private static final int MOST_SIZE = 12;
    private static final int MOST_TILES = MOST_SIZE * MOST_SIZE;

    private static final int DIRECTIONS = 4;
    private static final int RIGHT = 0;
    private static final int DOWN = 1;
    private static final int LEFT = 2;
    private static final int UP = 3;

    /** The kinds of seams; the one between these two is wrapped. */
    private static final int CLOSED = 0;
    private static final int FLIPPED = 2;

    /** Bits that tell what a step crosses; the first two together are the class of a loop. */
    private static final int SIDE_SEAM = 1;
    private static final int END_SEAM = 2;
    private static final int CLASS_BITS = SIDE_SEAM | END_SEAM;
    private static final int FLIP = 4;
    private static final int CLASSES = 4;

    private static final int KINDS = 6;
    private static final int FIRST_WEIGHT = 1;
    private static final int MOST_WEIGHT = 9;
    private static final int MOST_TEXT = 160;
    private static final int MOST_MAPS = 12;

    private static final int NO_FAULT = -1;
    private static final int BEFORE_FAULTS = -100;
    private static final int LAST_WALK_PROPERTY = 4;
    private static final int LAST_PART_PROPERTY = 7;

    private final Surface surface;
    private final int[] kinds;
    private final Ways ways;
    private final Text text;
    private final Walker walker;
    private final History history;
    private Parts parts;
    /** The parts before the latest change, or those of a map that is only tried. */
    private Parts otherParts;

    public SeamMap() {
        surface = new Surface();
        kinds = new int[MOST_TILES];
        ways = new Ways(surface, kinds);
        text = new Text();
        walker = new Walker(surface);
        history = new History();
        parts = new Parts(surface, kinds);
        otherParts = new Parts(surface, kinds);
        beginAnew(FIRST_COLUMNS, FIRST_ROWS);
    }

    // ---- map and seams

    public int reset(int columns, int rows) {
        if (!isSize(columns) || !isSize(rows)) {
            return BAD_VALUE;
        }
        beginAnew(columns, rows);
        return surface.tiles();
    }

    public int setSeam(boolean end, int kind, int shift) {
        int length = end ? surface.columns() : surface.rows();
        if (kind < CLOSED || kind > FLIPPED || shift < 0 || shift >= length) {
            return BAD_VALUE;
        }
        if (!surface.changeSeam(end, kind, shift)) {
            return 0;
        }
        repairParts();
        return 1;
    }

    public int value(int what) {
        switch (what) {
            case 0:
                return surface.columns();
            case 1:
                return surface.rows();
            case 2:
                return surface.sideSeam().style();
            case 3:
                return surface.sideSeam().offset();
            case 4:
                return surface.endSeam().style();
            case 5:
                return surface.endSeam().offset();
            case 6:
                return parts.number();
            case 7:
                return surface.openBorders();
            case 8:
                return history.size();
            default:
                return BAD_VALUE;
        }
    }

    public int kind(int tile) {
        return surface.has(tile) ? kinds[tile] : UNKNOWN;
    }

    public int neighbour(int tile, int direction) {
        if (!surface.has(tile)) {
            return UNKNOWN;
        }
        if (!isDirection(direction)) {
            return BAD_VALUE;
        }
        return surface.next(tile, direction);
    }

    // ---- texts

    public int type(char character) {
        return text.append(character);
    }

    public int clearText() {
        return text.empty();
    }

    public int readTiles() {
        int fault = text.faultAsTiles(surface.columns(), surface.rows());
        if (fault != NO_FAULT) {
            return BEFORE_FAULTS - fault;
        }
        history.record(kinds);
        int changed = takeKindsFromText();
        repairParts();
        return changed;
    }

    public int walk(int tile, int heading, int what) {
        if (!surface.has(tile)) {
            return UNKNOWN;
        }
        if (!isDirection(heading) || what < 0 || what > LAST_WALK_PROPERTY) {
            return BAD_VALUE;
        }
        int fault = text.faultAsWalk();
        if (fault != NO_FAULT) {
            return BEFORE_FAULTS - fault;
        }
        walker.follow(text, tile, heading);
        return walker.tell(what);
    }

    // ---- edits

    public int setTile(int tile, int kind) {
        if (!surface.has(tile)) {
            return UNKNOWN;
        }
        if (!isKind(kind)) {
            return BAD_VALUE;
        }
        history.record(kinds);
        kinds[tile] = kind;
        repairParts();
        return parts.changesSince(otherParts, tile);
    }

    public int fill(int tile, int kind) {
        if (!surface.has(tile)) {
            return UNKNOWN;
        }
        if (!isKind(kind)) {
            return BAD_VALUE;
        }
        history.record(kinds);
        giveKindToPart(parts.labelOf(tile), kind);
        repairParts();
        return parts.sizeOf(parts.labelOf(tile));
    }

    public int undo() {
        if (history.size() == 0) {
            return NONE;
        }
        history.restore(kinds);
        repairParts();
        return history.size();
    }

    // ---- parts

    public int label(int tile) {
        return surface.has(tile) ? parts.labelOf(tile) : UNKNOWN;
    }

    public int part(int k) {
        return k < 0 ? BAD_VALUE : parts.labelNumber(k);
    }

    public int ofPart(int label, int what) {
        if (!surface.has(label) || parts.labelOf(label) != label) {
            return UNKNOWN;
        }
        if (what < 0 || what > LAST_PART_PROPERTY) {
            return BAD_VALUE;
        }
        return parts.property(label, what);
    }

    public int greatestPart(int kind) {
        return isKind(kind) ? parts.greatestOf(kind) : BAD_VALUE;
    }

    public int partsIf(int tile, int kind) {
        if (!surface.has(tile)) {
            return UNKNOWN;
        }
        if (!isKind(kind)) {
            return BAD_VALUE;
        }
        int present = kinds[tile];
        kinds[tile] = kind;
        otherParts.find();
        kinds[tile] = present;
        return otherParts.number();
    }

    // ---- distances

    public int setWeight(int kind, int weight) {
        if (!isKind(kind) || weight < 0 || weight > MOST_WEIGHT) {
            return BAD_VALUE;
        }
        return ways.changeWeight(kind, weight);
    }

    public int distance(int tile, int other) {
        if (!surface.has(tile) || !surface.has(other)) {
            return UNKNOWN;
        }
        ways.measureFrom(tile);
        return ways.lengthTo(other);
    }

    public int route(int tile, int other, int k) {
        if (!surface.has(tile) || !surface.has(other)) {
            return UNKNOWN;
        }
        if (k < -1) {
            return BAD_VALUE;
        }
        // Distances are the same both ways; measured from the end, they lead a walker towards it.
        ways.measureFrom(other);
        return ways.lengthTo(tile) == NO_WAY ? NO_WAY : ways.routeTile(tile, other, k);
    }

    public int farthest(int tile) {
        if (!surface.has(tile)) {
            return UNKNOWN;
        }
        ways.measureFrom(tile);
        return ways.farthestTile(tile);
    }

    public int within(int tile, int distance) {
        if (!surface.has(tile)) {
            return UNKNOWN;
        }
        if (distance < 0) {
            return BAD_VALUE;
        }
        ways.measureFrom(tile);
        return ways.tilesUpTo(distance);
    }

    public int nearest(int tile, int kind) {
        if (!surface.has(tile)) {
            return UNKNOWN;
        }
        if (!isKind(kind)) {
            return BAD_VALUE;
        }
        ways.measureFrom(tile);
        return ways.nearestOf(kind);
    }

    // ---- helpers

    private static boolean isSize(int length) {
        return length >= LEAST_SIZE && length <= MOST_SIZE;
    }

    private static boolean isKind(int kind) {
        return kind >= 0 && kind < KINDS;
    }

    private static boolean isDirection(int direction) {
        return direction >= 0 && direction < DIRECTIONS;
    }

    /** The text stays as it is. */
    private void beginAnew(int columns, int rows) {
        for (int tile = 0; tile < MOST_TILES; tile++) {
            kinds[tile] = 0;
        }
        surface.begin(columns, rows);
        ways.levelWeights();
        history.forget();
        parts.find();
    }

    /** Finds the parts anew and keeps those that were found before in otherParts. */
    private void repairParts() {
        Parts former = parts;
        parts = otherParts;
        otherParts = former;
        parts.find();
    }

    /** Takes over a text without fault; answers how many kinds this changes. */
    private int takeKindsFromText() {
        int changed = 0;
        int tile = 0;
        for (int row = 0; row < surface.rows(); row++) {
            for (int column = 0; column < surface.columns(); column++) {
                int kind = text.kindAt(column, row, surface.columns());
                if (kinds[tile] != kind) {
                    kinds[tile] = kind;
                    changed++;
                }
                tile++;
            }
        }
        return changed;
    }

    private void giveKindToPart(int label, int kind) {
        for (int tile = 0; tile < surface.tiles(); tile++) {
            if (parts.labelOf(tile) == label) {
                kinds[tile] = kind;
            }
        }
    }

    /** How two opposite borders of the map are joined. */
    private static final class Seam {
        private int style;
        private int offset;

        int style() {
            return style;
        }

        int offset() {
            return offset;
        }

        /** Answers whether this changes anything. */
        boolean change(int newStyle, int newOffset) {
            boolean changes = style != newStyle || offset != newOffset;
            style = newStyle;
            offset = newOffset;
            return changes;
        }

        /** What a step over this seam crosses, if the seam has this bit. */
        int crossing(int bit) {
            return style == FLIPPED ? bit | FLIP : bit;
        }

        /** The place on the first border that is glued to this place on the last one. */
        int placeBeyond(int place, int length) {
            return modulo(style == FLIPPED ? offset - place : place + offset, length);
        }

        /** One correction is enough: the number lies between -length and 2 * length. */
        private static int modulo(int number, int length) {
            if (number < 0) {
                return number + length;
            }
            return number < length ? number : number - length;
        }
    }

    /** The size of the map, its seams, and where the steps from its tiles lead. */
    private static final class Surface {
        private final Seam side = new Seam();
        private final Seam end = new Seam();
        private final int[] nexts = new int[MOST_TILES * DIRECTIONS];
        private final int[] crossings = new int[MOST_TILES * DIRECTIONS];
        private int columns;
        private int rows;

        int columns() {
            return columns;
        }

        int rows() {
            return rows;
        }

        int tiles() {
            return columns * rows;
        }

        Seam sideSeam() {
            return side;
        }

        Seam endSeam() {
            return end;
        }

        boolean has(int tile) {
            return tile >= 0 && tile < tiles();
        }

        /** The neighbour, or NONE. */
        int next(int tile, int direction) {
            return nexts[tile * DIRECTIONS + direction];
        }

        /** The bits for what the step to the neighbour crosses. */
        int crossing(int tile, int direction) {
            return crossings[tile * DIRECTIONS + direction];
        }

        /** The number of pairs of a tile and a direction in which it has a neighbour. */
        int openBorders() {
            int open = 0;
            for (int place = 0; place < tiles() * DIRECTIONS; place++) {
                if (nexts[place] != NONE) {
                    open++;
                }
            }
            return open;
        }

        void begin(int newColumns, int newRows) {
            columns = newColumns;
            rows = newRows;
            side.change(CLOSED, 0);
            end.change(CLOSED, 0);
            joinTiles();
        }

        /** Answers whether this changes anything. */
        boolean changeSeam(boolean ofEnd, int style, int offset) {
            Seam seam = ofEnd ? end : side;
            if (!seam.change(style, offset)) {
                return false;
            }
            joinTiles();
            return true;
        }

        private void joinTiles() {
            for (int place = 0; place < tiles() * DIRECTIONS; place++) {
                nexts[place] = NONE;
                crossings[place] = 0;
            }
            joinInside();
            joinSide();
            joinEnd();
        }

        private void joinInside() {
            for (int row = 0; row < rows; row++) {
                for (int column = 0; column < columns; column++) {
                    int tile = row * columns + column;
                    if (column < columns - 1) {
                        join(tile, RIGHT, tile + 1, 0);
                    }
                    if (row < rows - 1) {
                        join(tile, DOWN, tile + columns, 0);
                    }
                }
            }
        }

        private void joinSide() {
            if (side.style() == CLOSED) {
                return;
            }
            for (int row = 0; row < rows; row++) {
                int last = row * columns + columns - 1;
                int first = side.placeBeyond(row, rows) * columns;
                join(last, RIGHT, first, side.crossing(SIDE_SEAM));
            }
        }

        private void joinEnd() {
            if (end.style() == CLOSED) {
                return;
            }
            for (int column = 0; column < columns; column++) {
                int last = (rows - 1) * columns + column;
                int first = end.placeBeyond(column, columns);
                join(last, DOWN, first, end.crossing(END_SEAM));
            }
        }

        /** Joins both ways, as each step back leads the same way; ahead is RIGHT or DOWN. */
        private void join(int tile, int ahead, int next, int crossing) {
            int there = tile * DIRECTIONS + ahead;
            int back = next * DIRECTIONS + (ahead == RIGHT ? LEFT : UP);
            nexts[there] = next;
            nexts[back] = tile;
            crossings[there] = crossing;
            crossings[back] = crossing;
        }
    }

    /** A list of tiles that has room for every tile once. */
    private static final class TileList {
        private final int[] tiles = new int[MOST_TILES];
        private int number;

        int number() {
            return number;
        }

        /** The index is one below number(). */
        int at(int index) {
            return tiles[index];
        }

        void clear() {
            number = 0;
        }

        void add(int tile) {
            if (number < MOST_TILES) {
                tiles[number] = tile;
                number++;
            }
        }

        /** Takes out the tile at an index below number(); the order of the others is lost. */
        int takeOut(int index) {
            int tile = tiles[index];
            number--;
            tiles[index] = tiles[number];
            return tile;
        }
    }

    /** The parts of the map, found by flooding each one from its first tile. */
    private static final class Parts {
        private final Surface surface;
        private final int[] kinds;
        private final int[] labels = new int[MOST_TILES];
        /** The number of tiles of each part, at its label. */
        private final int[] sizes = new int[MOST_TILES];
        /** The least number of steps within the part from its first tile. */
        private final int[] depths = new int[MOST_TILES];
        /** What the flood's way from the first tile crosses an odd number of times. */
        private final int[] crossed = new int[MOST_TILES];
        private final boolean[] met = new boolean[MOST_TILES];
        private final TileList flooded = new TileList();
        private int number;

        Parts(Surface surface, int[] kinds) {
            this.surface = surface;
            this.kinds = kinds;
        }

        int number() {
            return number;
        }

        int labelOf(int tile) {
            return labels[tile];
        }

        int sizeOf(int label) {
            return sizes[label];
        }

        void find() {
            for (int tile = 0; tile < surface.tiles(); tile++) {
                labels[tile] = NONE;
            }
            number = 0;
            for (int tile = 0; tile < surface.tiles(); tile++) {
                if (labels[tile] == NONE) {
                    flood(tile);
                    number++;
                }
            }
        }

        private void flood(int first) {
            flooded.clear();
            enter(first, first, 0, 0);
            for (int at = 0; at < MOST_TILES && at < flooded.number(); at++) {
                spread(flooded.at(at));
            }
            sizes[first] = flooded.number();
        }

        private void enter(int tile, int label, int depth, int crossing) {
            labels[tile] = label;
            depths[tile] = depth;
            crossed[tile] = crossing;
            flooded.add(tile);
        }

        private void spread(int tile) {
            for (int direction = 0; direction < DIRECTIONS; direction++) {
                int next = surface.next(tile, direction);
                if (next >= 0 && kinds[next] == kinds[tile] && labels[next] == NONE) {
                    int crossing = crossed[tile] ^ surface.crossing(tile, direction);
                    enter(next, labels[tile], depths[tile] + 1, crossing);
                }
            }
        }

        /** How many tiles but one have another label than they had there. */
        int changesSince(Parts former, int exceptTile) {
            int changes = 0;
            for (int tile = 0; tile < surface.tiles(); tile++) {
                if (tile != exceptTile && labels[tile] != former.labels[tile]) {
                    changes++;
                }
            }
            return changes;
        }

        /** The k-th label from 0 in ascending order, or NONE. */
        int labelNumber(int k) {
            int before = 0;
            for (int tile = 0; tile < surface.tiles(); tile++) {
                if (labels[tile] == tile) {
                    if (before == k) {
                        return tile;
                    }
                    before++;
                }
            }
            return NONE;
        }

        /** The label of the greatest part of a kind, or NONE. */
        int greatestOf(int kind) {
            int greatest = NONE;
            for (int tile = 0; tile < surface.tiles(); tile++) {
                if (labels[tile] == tile && kinds[tile] == kind
                        && (greatest == NONE || sizes[tile] > sizes[greatest])) {
                    greatest = tile;
                }
            }
            return greatest;
        }

        int property(int label, int what) {
            switch (what) {
                case 0:
                    return kinds[label];
                case 1:
                    return sizes[label];
                case 2:
                    return bordersToOthers(label);
                case 3:
                    return bordersToNothing(label);
                case 4:
                    return loops(label);
                case 5:
                    return isOneSided(label) ? 1 : 0;
                case 6:
                    return partsBeside(label);
                default:
                    return greatestDepth(label);
            }
        }

        /** As greatest sets, parts that touch differ in their kinds: labels tell kinds apart. */
        private boolean leadsOut(int tile, int direction) {
            int next = surface.next(tile, direction);
            return next >= 0 && labels[next] != labels[tile];
        }

        private int bordersToOthers(int label) {
            int borders = 0;
            for (int tile = label; tile < surface.tiles(); tile++) {
                for (int direction = 0; direction < DIRECTIONS; direction++) {
                    if (labels[tile] == label && leadsOut(tile, direction)) {
                        borders++;
                    }
                }
            }
            return borders;
        }

        private int bordersToNothing(int label) {
            int borders = 0;
            for (int tile = label; tile < surface.tiles(); tile++) {
                for (int direction = 0; direction < DIRECTIONS; direction++) {
                    if (labels[tile] == label && surface.next(tile, direction) == NONE) {
                        borders++;
                    }
                }
            }
            return borders;
        }

        /**
         * What the loop crosses an odd number of times that goes the flood's way to a tile, makes
         * one step and goes the flood's way back; 0 if the step leaves the part. Every loop of
         * the part is made of such loops.
         */
        private int loopOver(int tile, int direction) {
            int next = surface.next(tile, direction);
            if (next < 0 || labels[next] != labels[tile]) {
                return 0;
            }
            return crossed[tile] ^ surface.crossing(tile, direction) ^ crossed[next];
        }

        private int loops(int label) {
            int loops = 1;
            for (int tile = label; tile < surface.tiles(); tile++) {
                for (int direction = 0; direction < DIRECTIONS; direction++) {
                    if (labels[tile] == label) {
                        loops = withLoop(loops, loopOver(tile, direction) & CLASS_BITS);
                    }
                }
            }
            return loops;
        }

        /** Any loop can be run through after another one: their classes join by exclusive or. */
        private static int withLoop(int loops, int loopClass) {
            int joined = loops;
            for (int other = 0; other < CLASSES; other++) {
                if ((loops >> other & 1) == 1) {
                    joined |= 1 << (other ^ loopClass);
                }
            }
            return joined;
        }

        private boolean isOneSided(int label) {
            for (int tile = label; tile < surface.tiles(); tile++) {
                for (int direction = 0; direction < DIRECTIONS; direction++) {
                    if (labels[tile] == label && (loopOver(tile, direction) & FLIP) != 0) {
                        return true;
                    }
                }
            }
            return false;
        }

        private int partsBeside(int label) {
            for (int tile = 0; tile < surface.tiles(); tile++) {
                met[tile] = false;
            }
            int beside = 0;
            for (int tile = label; tile < surface.tiles(); tile++) {
                for (int direction = 0; direction < DIRECTIONS; direction++) {
                    if (labels[tile] == label && leadsOut(tile, direction)
                            && isFirstMeeting(surface.next(tile, direction))) {
                        beside++;
                    }
                }
            }
            return beside;
        }

        /** Whether the part of a tile is met for the first time; it is met then. */
        private boolean isFirstMeeting(int tile) {
            int label = labels[tile];
            boolean first = !met[label];
            met[label] = true;
            return first;
        }

        private int greatestDepth(int label) {
            int greatest = 0;
            for (int tile = label; tile < surface.tiles(); tile++) {
                if (labels[tile] == label && depths[tile] > greatest) {
                    greatest = depths[tile];
                }
            }
            return greatest;
        }
    }

    /** The weights of the kinds, and the distances from one tile to all tiles. */
    private static final class Ways {
        private final Surface surface;
        private final int[] kinds;
        private final int[] weights = new int[KINDS];
        /** The distances from the tile that was measured from last, NO_WAY where there is none. */
        private final int[] lengths = new int[MOST_TILES];
        /** The tiles that are reached, but whose distances may still get shorter. */
        private final TileList open = new TileList();

        Ways(Surface surface, int[] kinds) {
            this.surface = surface;
            this.kinds = kinds;
        }

        void levelWeights() {
            for (int kind = 0; kind < KINDS; kind++) {
                weights[kind] = FIRST_WEIGHT;
            }
        }

        /** Answers the weight that the kind had. */
        int changeWeight(int kind, int weight) {
            int previous = weights[kind];
            weights[kind] = weight;
            return previous;
        }

        int lengthTo(int tile) {
            return lengths[tile];
        }

        void measureFrom(int tile) {
            for (int other = 0; other < surface.tiles(); other++) {
                lengths[other] = NO_WAY;
            }
            open.clear();
            reach(tile, 0);
            for (int turn = 0; turn < MOST_TILES && open.number() > 0; turn++) {
                spread(takeNearestOpen());
            }
        }

        /** All steps are longer than 0, so no way over a farther tile can be shorter. */
        private int takeNearestOpen() {
            int nearestIndex = 0;
            for (int index = 1; index < open.number(); index++) {
                if (lengths[open.at(index)] < lengths[open.at(nearestIndex)]) {
                    nearestIndex = index;
                }
            }
            return open.takeOut(nearestIndex);
        }

        private void spread(int tile) {
            for (int direction = 0; direction < DIRECTIONS; direction++) {
                int step = stepLength(tile, direction);
                if (step > 0) {
                    reach(surface.next(tile, direction), lengths[tile] + step);
                }
            }
        }

        private void reach(int tile, int length) {
            if (lengths[tile] == NO_WAY) {
                lengths[tile] = length;
                open.add(tile);
            } else if (length < lengths[tile]) {
                lengths[tile] = length;
            }
        }

        /** The length of a step, or 0 if it is not possible. */
        private int stepLength(int tile, int direction) {
            int next = surface.next(tile, direction);
            if (next < 0) {
                return 0;
            }
            int here = weights[kinds[tile]];
            int there = weights[kinds[next]];
            return here == 0 || there == 0 ? 0 : here + there;
        }

        /** The tile k of the route to the tile that was measured from; see route(). */
        int routeTile(int tile, int target, int k) {
            int at = tile;
            int steps = 0;
            while (at != target && steps != k && steps < MOST_TILES) {
                at = nextOnRoute(at);
                steps++;
            }
            if (k == -1) {
                return steps;
            }
            return steps == k ? at : NONE;
        }

        private int nextOnRoute(int tile) {
            for (int direction = 0; direction < DIRECTIONS; direction++) {
                int step = stepLength(tile, direction);
                if (step > 0) {
                    int next = surface.next(tile, direction);
                    if (lengths[next] + step == lengths[tile]) {
                        return next;
                    }
                }
            }
            return tile;
        }

        /** The farthest tile from the tile that was measured from, which is given. */
        int farthestTile(int source) {
            int farthest = source;
            for (int tile = 0; tile < surface.tiles(); tile++) {
                if (lengths[tile] > lengths[farthest]) {
                    farthest = tile;
                }
            }
            return farthest;
        }

        int tilesUpTo(int length) {
            int number = 0;
            for (int tile = 0; tile < surface.tiles(); tile++) {
                if (lengths[tile] != NO_WAY && lengths[tile] <= length) {
                    number++;
                }
            }
            return number;
        }

        /** The nearest tile of a kind to which there is a way, or NONE. */
        int nearestOf(int kind) {
            int nearest = NONE;
            for (int tile = 0; tile < surface.tiles(); tile++) {
                if (kinds[tile] == kind && lengths[tile] != NO_WAY
                        && (nearest == NONE || lengths[tile] < lengths[nearest])) {
                    nearest = tile;
                }
            }
            return nearest;
        }
    }

    /** The text that is typed, which may describe tiles or a walk. */
    private static final class Text {
        private final char[] characters = new char[MOST_TEXT];
        private int length;

        int length() {
            return length;
        }

        /** The index is one below length(). */
        char at(int index) {
            return characters[index];
        }

        /** Answers the length then, or FULL. */
        int append(char character) {
            if (length >= MOST_TEXT) {
                return FULL;
            }
            characters[length] = character;
            length++;
            return length;
        }

        /** Answers the length that it had. */
        int empty() {
            int previous = length;
            length = 0;
            return previous;
        }

        /** The fault as a description of the tiles, or NO_FAULT. */
        int faultAsTiles(int columns, int rows) {
            int due = rows * (columns + 1) - 1;
            int column = 0;
            for (int at = 0; at < length; at++) {
                if (at >= due || !isFitting(characters[at], column == columns)) {
                    return at;
                }
                column = column == columns ? 0 : column + 1;
            }
            return length < due ? length : NO_FAULT;
        }

        private static boolean isFitting(char character, boolean betweenRows) {
            return betweenRows ? character == '/' : character >= '0' && character <= '5';
        }

        /** The kind of a tile, if the text describes the tiles without fault. */
        int kindAt(int column, int row, int columns) {
            return characters[row * (columns + 1) + column] - '0';
        }

        /** The index of the first character that no walk has, or NO_FAULT. */
        int faultAsWalk() {
            for (int at = 0; at < length; at++) {
                char character = characters[at];
                if (character != 'f' && character != 'r' && character != 'l') {
                    return at;
                }
            }
            return NO_FAULT;
        }
    }

    /** One who walks over the map as a text says. */
    private static final class Walker {
        private final Surface surface;
        private final boolean[] entered = new boolean[MOST_TILES];
        private int tile;
        private int heading;
        private int side;
        private int steps;
        private int differentTiles;

        Walker(Surface surface) {
            this.surface = surface;
        }

        /** Carries out a whole walk; the text is one without fault. */
        void follow(Text text, int firstTile, int firstHeading) {
            begin(firstTile, firstHeading);
            boolean goesOn = true;
            for (int at = 0; at < text.length() && goesOn; at++) {
                goesOn = obey(text.at(at));
            }
        }

        private void begin(int firstTile, int firstHeading) {
            for (int other = 0; other < MOST_TILES; other++) {
                entered[other] = false;
            }
            heading = firstHeading;
            side = 0;
            steps = 0;
            differentTiles = 0;
            enter(firstTile);
        }

        /** Answers whether the walk goes on. */
        private boolean obey(char character) {
            if (character == 'f') {
                return step();
            }
            turn(character == 'r');
            return true;
        }

        private boolean step() {
            int next = surface.next(tile, heading);
            if (next < 0) {
                return false;
            }
            if ((surface.crossing(tile, heading) & FLIP) != 0) {
                side = 1 - side;
            }
            steps++;
            enter(next);
            return true;
        }

        private void enter(int next) {
            tile = next;
            if (!entered[next]) {
                entered[next] = true;
                differentTiles++;
            }
        }

        /** On the other side, right and left are exchanged. */
        private void turn(boolean toTheRight) {
            boolean clockwise = toTheRight == (side == 0);
            if (clockwise) {
                heading = heading == UP ? RIGHT : heading + 1;
            } else {
                heading = heading == RIGHT ? UP : heading - 1;
            }
        }

        int tell(int what) {
            switch (what) {
                case 0:
                    return tile;
                case 1:
                    return heading;
                case 2:
                    return side;
                case 3:
                    return steps;
                default:
                    return differentTiles;
            }
        }
    }

    /** The maps before the latest edits, in a ring, so that dropping the oldest moves nothing. */
    private static final class History {
        private final int[][] maps = new int[MOST_MAPS][MOST_TILES];
        private int oldest;
        private int size;

        int size() {
            return size;
        }

        void forget() {
            oldest = 0;
            size = 0;
        }

        void record(int[] kinds) {
            if (size == MOST_MAPS) {
                oldest = place(1);
                size--;
            }
            System.arraycopy(kinds, 0, maps[place(size)], 0, MOST_TILES);
            size++;
        }

        /** Does nothing if nothing is recorded. */
        void restore(int[] kinds) {
            if (size > 0) {
                size--;
                System.arraycopy(maps[place(size)], 0, kinds, 0, MOST_TILES);
            }
        }

        /** The place in the ring of the map that was recorded so many maps after the oldest. */
        private int place(int after) {
            int place = oldest + after;
            return place < MOST_MAPS ? place : place - MOST_MAPS;
        }
    }
}
