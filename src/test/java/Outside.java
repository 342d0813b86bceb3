import java.util.ArrayList;
import java.util.List;

/** Numbers outside a range, to be refused where the document gives the range. */
final class Outside {
    private Outside() {
    }

    /**
     * The numbers next to the range and the ends of int, and numbers that lie inside once they are
     * cut to five bits (as a shift does), to a byte or to a short.
     */
    static int[] of(int least, int most) {
        List<Integer> numbers = new ArrayList<>(List.of(least - 1, most + 1));
        int[] steps = {32, 256, 65536, Integer.MIN_VALUE};
        for (int step : steps) {
            numbers.add(least + step);
            numbers.add(most - step);
        }
        numbers.add(Integer.MIN_VALUE);
        numbers.add(Integer.MAX_VALUE);
        numbers.removeIf(n -> n >= least && n <= most);
        return numbers.stream().mapToInt(n -> n).toArray();
    }
}
