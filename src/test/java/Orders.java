import java.util.ArrayList;
import java.util.List;

/** All 5040 orders of the seven vertices. */
final class Orders {
    static final List<int[]> ALL = new ArrayList<>();

    static {
        add(new int[7], 0, 0);
    }

    private Orders() {
    }

    private static void add(int[] order, int place, int used) {
        if (place == order.length) {
            ALL.add(order.clone());
            return;
        }
        for (int v = 0; v < order.length; v++) {
            if ((used >> v & 1) == 0) {
                order[place] = v;
                add(order, place + 1, used | 1 << v);
            }
        }
    }
}
