import java.util.function.Consumer;
import java.util.function.ToIntFunction;

/** Two maps with the same past: a call to one of them that changes nothing leaves them alike. */
final class Twins {
    private static final int MOST_UNDOS = 12;

    private Twins() {
    }

    /** The call answers as is due, and changes nothing. */
    static void unchanged(Check check, Consumer<SeamMap> past, String call,
            ToIntFunction<SeamMap> made, int due) {
        SeamMap called = new SeamMap();
        SeamMap other = new SeamMap();
        past.accept(called);
        past.accept(other);
        check.due(call, made.applyAsInt(called), due);
        check.isTrue(call + " changes nothing", everything(called).equals(everything(other)));
    }

    /** All of the state, the text and the history too; it is used up by this. */
    private static String everything(SeamMap map) {
        StringBuilder all = new StringBuilder(Check.everything(map));
        for (int what = 0; what <= 4; what++) {
            all.append(" walk ").append(map.walk(0, 0, what));
        }
        int tiles = map.value(0) * map.value(1);
        for (int times = 0; times <= MOST_UNDOS; times++) {
            all.append(" undo ").append(map.undo()).append(" kinds");
            for (int tile = 0; tile < tiles; tile++) {
                all.append(' ').append(map.kind(tile));
            }
        }
        all.append(" readTiles ").append(map.readTiles());
        all.append(" type ").append(map.type('0'));
        all.append(" clearText ").append(map.clearText());
        return all.toString();
    }
}
