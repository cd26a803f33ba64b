import java.util.ArrayList;
import java.util.List;

/** Numbers that are not in 0 .. bound-1: the ones next to it, and far ones that a shift, mask or cast would bring back in. */
final class Beside {
    private static final int[] FAR = {
        24, 25, 31, 32, 33, 60, 61, 63, 64, 65, 255, 256, 257, 65535, 65536, 65537, 1 << 24, 1 << 30,
        Integer.MAX_VALUE - 1, Integer.MAX_VALUE,
        -2, -24, -31, -32, -60, -64, -255, -256, -65535, -65536, Integer.MIN_VALUE, Integer.MIN_VALUE + 1
    };

    private Beside() { }

    static List<Integer> range(int bound) {
        List<Integer> outside = new ArrayList<>(List.of(-1, bound, bound + 1));
        for (int far : FAR) {
            if (far < 0 || far >= bound) outside.add(far);
        }
        return outside;
    }
}
