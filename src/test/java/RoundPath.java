import java.util.ArrayList;
import java.util.Arrays;
import java.util.HashMap;
import java.util.List;
import java.util.Map;

/** Says for RoundLimitTest who would change: a way through orders, of which none comes twice, or a circle. */
public final class RoundPath {
    private static final Map<String, Integer> changeAt = new HashMap<>();
    private static boolean always;
    private static int houses;

    private RoundPath() {
    }

    public static boolean wants(int[] order, int place) {
        return always || changeAt.getOrDefault(key(order), -1) == place;
    }

    static void everywhere() {
        always = true;
    }

    /** As many changes as told, then none; or then back and forth for ever, which is a circle of two. */
    static void way(int count, int changes, boolean thenBackAndForth) {
        begin(count);
        int[] order = first();
        List<Integer> places = plainChanges(count);
        for (int i = 0; i < changes; i++) change(order, places.get(i));
        if (thenBackAndForth) {
            int place = places.get(changes);
            change(order, place);
            changeAt.put(key(order), place);
        }
    }

    /** Through all orders, and from the last one to the first. */
    static void ring(int count) {
        begin(count);
        int[] order = first();
        for (int place : plainChanges(count)) change(order, place);
        change(order, 0);
        if (!Arrays.equals(order, first())) throw new IllegalStateException("the ring is open");
    }

    private static void begin(int count) {
        always = false;
        houses = count;
        changeAt.clear();
    }

    private static int[] first() {
        int[] order = new int[houses];
        for (int i = 0; i < houses; i++) order[i] = i;
        return order;
    }

    private static void change(int[] order, int place) {
        if (changeAt.put(key(order), place) != null) throw new IllegalStateException("an order came twice");
        int h = order[place];
        order[place] = order[place + 1];
        order[place + 1] = h;
    }

    private static String key(int[] order) {
        return Arrays.toString(Arrays.copyOf(order, houses));
    }

    /** The bell ringers' way through all orders: the greatest goes to and fro between the changes of the others. */
    private static List<Integer> plainChanges(int count) {
        List<Integer> places = new ArrayList<>();
        if (count < 2) return places;
        List<Integer> others = plainChanges(count - 1);
        boolean forward = false;
        for (int k = 0; k <= others.size(); k++) {
            for (int i = 0; i < count - 1; i++) places.add(forward ? i : count - 2 - i);
            // The greatest is at the front now, if it did not go forward: then the others stand one place behind.
            if (k < others.size()) places.add(others.get(k) + (forward ? 0 : 1));
            forward = !forward;
        }
        return places;
    }
}
