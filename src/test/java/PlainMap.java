import java.util.ArrayList;
import java.util.Arrays;
import java.util.List;
import java.util.TreeSet;

/**
 * What the document says, in the plainest words and with no thought of speed: nothing is kept but
 * the state itself, and the ways of finding an answer are others than those of SeamMap.
 */
final class PlainMap {
    private int w;
    private int h;
    private final int[] seamKind = new int[2];
    private final int[] seamShift = new int[2];
    private int[] kinds;
    private final int[] weights = new int[6];
    private final List<Character> text = new ArrayList<>();
    private final List<int[]> history = new ArrayList<>();

    PlainMap() {
        reset(6, 5);
    }

    int reset(int columns, int rows) {
        if (columns < 3 || columns > 12 || rows < 3 || rows > 12) {
            return -2;
        }
        w = columns;
        h = rows;
        Arrays.fill(seamKind, 0);
        Arrays.fill(seamShift, 0);
        Arrays.fill(weights, 1);
        kinds = new int[w * h];
        history.clear();
        return w * h;
    }

    int setSeam(boolean end, int kind, int shift) {
        if (kind < 0 || kind > 2 || shift < 0 || shift > (end ? w : h) - 1) {
            return -2;
        }
        int i = end ? 1 : 0;
        int changes = seamKind[i] == kind && seamShift[i] == shift ? 0 : 1;
        seamKind[i] = kind;
        seamShift[i] = shift;
        return changes;
    }

    int value(int what) {
        if (what < 0 || what > 8) {
            return -2;
        }
        int pairs = 0;
        TreeSet<Integer> labels = new TreeSet<>();
        for (int tile = 0; tile < w * h; tile++) {
            labels.add(labels()[tile]);
            for (int direction = 0; direction < 4; direction++) {
                pairs += next(tile, direction) < 0 ? 0 : 1;
            }
        }
        return new int[] {w, h, seamKind[0], seamShift[0], seamKind[1], seamShift[1],
            labels.size(), pairs, history.size()}[what];
    }

    int kind(int tile) {
        return isTile(tile) ? kinds[tile] : -1;
    }

    int neighbour(int tile, int direction) {
        if (!isTile(tile)) {
            return -1;
        }
        if (direction < 0 || direction > 3) {
            return -2;
        }
        return next(tile, direction) < 0 ? -5 : next(tile, direction);
    }

    int type(char character) {
        if (text.size() == 160) {
            return -3;
        }
        text.add(character);
        return text.size();
    }

    int clearText() {
        int length = text.size();
        text.clear();
        return length;
    }

    int readTiles() {
        int[] described = new int[w * h];
        int place = 0;
        for (int y = 0; y < h; y++) {
            for (int x = 0; x < w; x++) {
                if (place >= text.size() || "012345".indexOf(text.get(place)) < 0) {
                    return -100 - place;
                }
                described[y * w + x] = Integer.parseInt("" + text.get(place));
                place++;
            }
            if (y < h - 1) {
                if (place >= text.size() || text.get(place) != '/') {
                    return -100 - place;
                }
                place++;
            }
        }
        if (place < text.size()) {
            return -100 - place;
        }
        int changed = 0;
        for (int tile = 0; tile < w * h; tile++) {
            changed += described[tile] == kinds[tile] ? 0 : 1;
        }
        record();
        kinds = described;
        return changed;
    }

    int walk(int tile, int heading, int what) {
        if (!isTile(tile)) {
            return -1;
        }
        if (heading < 0 || heading > 3 || what < 0 || what > 4) {
            return -2;
        }
        for (int at = 0; at < text.size(); at++) {
            if ("frl".indexOf(text.get(at)) < 0) {
                return -100 - at;
            }
        }
        int side = 0;
        int steps = 0;
        TreeSet<Integer> entered = new TreeSet<>(List.of(tile));
        for (char character : text) {
            if (character == 'f') {
                if (next(tile, heading) < 0) {
                    break;
                }
                side ^= crossed(tile, heading) >> 2;
                tile = next(tile, heading);
                entered.add(tile);
                steps++;
            } else {
                int quarter = character == 'r' ? 1 : 3;
                heading = (heading + (side == 0 ? quarter : 4 - quarter)) % 4;
            }
        }
        return new int[] {tile, heading, side, steps, entered.size()}[what];
    }

    int setTile(int tile, int kind) {
        if (!isTile(tile)) {
            return -1;
        }
        if (kind < 0 || kind > 5) {
            return -2;
        }
        record();
        int[] before = labels();
        kinds[tile] = kind;
        int[] after = labels();
        int changed = 0;
        for (int other = 0; other < w * h; other++) {
            changed += other != tile && before[other] != after[other] ? 1 : 0;
        }
        return changed;
    }

    int fill(int tile, int kind) {
        if (!isTile(tile)) {
            return -1;
        }
        if (kind < 0 || kind > 5) {
            return -2;
        }
        record();
        for (int other : tilesOf(labels()[tile])) {
            kinds[other] = kind;
        }
        return tilesOf(labels()[tile]).size();
    }

    int undo() {
        if (history.isEmpty()) {
            return -5;
        }
        kinds = history.remove(history.size() - 1);
        return history.size();
    }

    int label(int tile) {
        return isTile(tile) ? labels()[tile] : -1;
    }

    int part(int k) {
        if (k < 0) {
            return -2;
        }
        TreeSet<Integer> labels = new TreeSet<>();
        for (int label : labels()) {
            labels.add(label);
        }
        return k < labels.size() ? new ArrayList<>(labels).get(k) : -5;
    }

    int ofPart(int label, int what) {
        if (!isTile(label) || labels()[label] != label) {
            return -1;
        }
        if (what < 0 || what > 7) {
            return -2;
        }
        int toOthers = 0;
        int toNothing = 0;
        int[] labels = labels();
        TreeSet<Integer> beside = new TreeSet<>();
        for (int tile : tilesOf(label)) {
            for (int direction = 0; direction < 4; direction++) {
                int next = next(tile, direction);
                if (next < 0) {
                    toNothing++;
                } else if (labels[next] != label) {
                    beside.add(labels[next]);
                    toOthers += kinds[next] != kinds[tile] ? 1 : 0;
                }
            }
        }
        boolean[] loops = loops(label);
        int classes = 0;
        boolean oneSided = false;
        for (int state = 0; state < 8; state++) {
            classes |= loops[state] ? 1 << (state & 3) : 0;
            oneSided |= loops[state] && state >= 4;
        }
        return new int[] {kinds[label], tilesOf(label).size(), toOthers, toNothing, classes,
            oneSided ? 1 : 0, beside.size(), mostSteps(label)}[what];
    }

    int greatestPart(int kind) {
        if (kind < 0 || kind > 5) {
            return -2;
        }
        int greatest = -5;
        int most = 0;
        for (int tile = 0; tile < w * h; tile++) {
            if (kinds[tile] == kind && tilesOf(labels()[tile]).size() > most) {
                greatest = labels()[tile];
                most = tilesOf(greatest).size();
            }
        }
        return greatest;
    }

    int partsIf(int tile, int kind) {
        if (!isTile(tile)) {
            return -1;
        }
        if (kind < 0 || kind > 5) {
            return -2;
        }
        int present = kinds[tile];
        kinds[tile] = kind;
        int parts = value(6);
        kinds[tile] = present;
        return parts;
    }

    int setWeight(int kind, int weight) {
        if (kind < 0 || kind > 5 || weight < 0 || weight > 9) {
            return -2;
        }
        int previous = weights[kind];
        weights[kind] = weight;
        return previous;
    }

    int distance(int tile, int other) {
        if (!isTile(tile) || !isTile(other)) {
            return -1;
        }
        long length = lengths(tile)[other];
        return length == FAR ? -4 : (int) length;
    }

    int route(int tile, int other, int k) {
        if (!isTile(tile) || !isTile(other)) {
            return -1;
        }
        if (k < -1) {
            return -2;
        }
        if (lengths(tile)[other] == FAR) {
            return -4;
        }
        List<Integer> route = new ArrayList<>(List.of(tile));
        while (tile != other) {
            int direction = 0;
            while (!beginsShortest(tile, direction, other)) {
                direction++;
            }
            tile = next(tile, direction);
            route.add(tile);
        }
        return k == -1 ? route.size() - 1 : k < route.size() ? route.get(k) : -5;
    }

    int farthest(int tile) {
        if (!isTile(tile)) {
            return -1;
        }
        long[] lengths = lengths(tile);
        long greatest = 0;
        for (long length : lengths) {
            greatest = length == FAR ? greatest : Math.max(greatest, length);
        }
        int first = 0;
        while (lengths[first] != greatest) {
            first++;
        }
        return first;
    }

    int within(int tile, int distance) {
        if (!isTile(tile)) {
            return -1;
        }
        if (distance < 0) {
            return -2;
        }
        return (int) Arrays.stream(lengths(tile)).filter(l -> l != FAR && l <= distance).count();
    }

    int nearest(int tile, int kind) {
        if (!isTile(tile)) {
            return -1;
        }
        if (kind < 0 || kind > 5) {
            return -2;
        }
        long[] lengths = lengths(tile);
        int nearest = -5;
        long least = FAR;
        for (int other = w * h - 1; other >= 0; other--) {
            if (kinds[other] == kind && lengths[other] < FAR && lengths[other] <= least) {
                nearest = other;
                least = lengths[other];
            }
        }
        return nearest;
    }

    /** The text that describes the tiles now, with so many of them changed. */
    String describe(int kindOfAll) {
        StringBuilder rows = new StringBuilder();
        for (int tile = 0; tile < w * h; tile++) {
            rows.append(tile > 0 && tile % w == 0 ? "/" : "");
            rows.append(kindOfAll >= 0 ? kindOfAll : kinds[tile]);
        }
        return rows.toString();
    }

    int tiles() {
        return w * h;
    }

    private static final long FAR = Long.MAX_VALUE / 4;

    private boolean isTile(int tile) {
        return tile >= 0 && tile < w * h;
    }

    private void record() {
        history.add(kinds.clone());
        if (history.size() > 12) {
            history.remove(0);
        }
    }

    /** The formulas of the document forwards; backwards, the tile is sought that leads here. */
    private int next(int tile, int direction) {
        int x = tile % w;
        int y = tile / w;
        if (direction == 0) {
            if (x < w - 1) {
                return tile + 1;
            }
            int there = seamKind[0] == 1 ? y + seamShift[0] : seamShift[0] - y;
            return seamKind[0] == 0 ? -1 : Math.floorMod(there, h) * w;
        }
        if (direction == 1) {
            if (y < h - 1) {
                return tile + w;
            }
            int there = seamKind[1] == 1 ? x + seamShift[1] : seamShift[1] - x;
            return seamKind[1] == 0 ? -1 : Math.floorMod(there, w);
        }
        for (int other = 0; other < w * h; other++) {
            if (next(other, direction - 2) == tile) {
                return other;
            }
        }
        return -1;
    }

    /** 1 for the side seam, 2 for the end seam, and 4 if it is flipped. */
    private int crossed(int tile, int direction) {
        boolean[] atBorder = {tile % w == w - 1, tile / w == h - 1, tile % w == 0, tile / w == 0};
        if (!atBorder[direction]) {
            return 0;
        }
        return (direction % 2 == 0 ? 1 : 2) + (seamKind[direction % 2] == 2 ? 4 : 0);
    }

    private int[] labels() {
        int[] labels = new int[w * h];
        for (int tile = 0; tile < w * h; tile++) {
            labels[tile] = tile;
        }
        boolean changes = true;
        while (changes) {
            changes = false;
            for (int tile = 0; tile < w * h; tile++) {
                for (int direction = 0; direction < 2; direction++) {
                    int next = next(tile, direction);
                    if (next >= 0 && kinds[next] == kinds[tile] && labels[next] != labels[tile]) {
                        labels[tile] = Math.min(labels[tile], labels[next]);
                        labels[next] = labels[tile];
                        changes = true;
                    }
                }
            }
        }
        return labels;
    }

    private List<Integer> tilesOf(int label) {
        List<Integer> tiles = new ArrayList<>();
        int[] labels = labels();
        for (int tile = 0; tile < w * h; tile++) {
            if (labels[tile] == label) {
                tiles.add(tile);
            }
        }
        return tiles;
    }

    /** Which of the eight sums of crossings a walk within the part can have when it is back. */
    private boolean[] loops(int label) {
        boolean[][] reached = new boolean[w * h][8];
        reached[label][0] = true;
        List<Integer> tiles = tilesOf(label);
        boolean changes = true;
        while (changes) {
            changes = false;
            for (int tile : tiles) {
                for (int direction = 0; direction < 4; direction++) {
                    int next = next(tile, direction);
                    for (int state = 0; state < 8 && next >= 0; state++) {
                        int then = state ^ crossed(tile, direction);
                        if (kinds[next] == kinds[tile] && reached[tile][state]
                                && !reached[next][then]) {
                            reached[next][then] = true;
                            changes = true;
                        }
                    }
                }
            }
        }
        return reached[label];
    }

    private int mostSteps(int label) {
        TreeSet<Integer> reached = new TreeSet<>(List.of(label));
        int steps = 0;
        while (true) {
            TreeSet<Integer> wider = new TreeSet<>(reached);
            for (int tile : reached) {
                for (int direction = 0; direction < 4; direction++) {
                    int next = next(tile, direction);
                    if (next >= 0 && kinds[next] == kinds[label]) {
                        wider.add(next);
                    }
                }
            }
            if (wider.size() == reached.size()) {
                return steps;
            }
            reached = wider;
            steps++;
        }
    }

    private long[] lengths(int from) {
        long[] lengths = new long[w * h];
        Arrays.fill(lengths, FAR);
        lengths[from] = 0;
        boolean changes = true;
        while (changes) {
            changes = false;
            for (int tile = 0; tile < w * h; tile++) {
                for (int direction = 0; direction < 4; direction++) {
                    int next = next(tile, direction);
                    if (next < 0 || lengths[tile] == FAR || isBarred(tile) || isBarred(next)) {
                        continue;
                    }
                    long length = lengths[tile] + weights[kinds[tile]] + weights[kinds[next]];
                    if (length < lengths[next]) {
                        lengths[next] = length;
                        changes = true;
                    }
                }
            }
        }
        return lengths;
    }

    private boolean isBarred(int tile) {
        return weights[kinds[tile]] == 0;
    }

    private boolean beginsShortest(int tile, int direction, int other) {
        int next = next(tile, direction);
        if (next < 0 || isBarred(tile) || isBarred(next)) {
            return false;
        }
        long step = weights[kinds[tile]] + weights[kinds[next]];
        return step + lengths(next)[other] == lengths(tile)[other];
    }
}
