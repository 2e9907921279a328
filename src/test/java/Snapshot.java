import java.util.NoSuchElementException;

/** All that can be asked of an object, the numbers beside each bound among it, as one text. */
final class Snapshot {
    private Snapshot() {
    }

    static String of(ShoreDay day) {
        StringBuilder all = new StringBuilder();
        for (int what = -1; what <= 10; what++) {
            all.append(" count ").append(day.count(what));
        }
        for (int what = -1; what <= 6; what++) {
            for (int i = -1; i <= 8; i++) {
                all.append(" guests ").append(day.guests(i, what));
                all.append(" lies ").append(day.lies(i, what));
                all.append(" rides ").append(day.rides(i, what));
            }
            for (int i = -1; i <= 60; i++) {
                all.append(" look ").append(lookOrThrow(day, i, what));
            }
        }
        for (int i = -1; i <= 8; i++) {
            all.append(" planned ").append(day.planned(i));
        }
        return all.toString();
    }

    private static String lookOrThrow(ShoreDay day, int group, int what) {
        try {
            return Integer.toString(day.look(group, what));
        } catch (NoSuchElementException e) {
            return "throws";
        }
    }
}
