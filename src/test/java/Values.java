import java.util.stream.IntStream;
import java.util.stream.Stream;

/** Arguments at the edges. */
final class Values {
    /** Where any int is accepted; the powers of two would show a value kept in a narrower type. */
    private static final int[] ANY = {
        Integer.MIN_VALUE, Integer.MIN_VALUE + 1, -65537, -65536, -32769, -32768, -1000, -129, -128,
        -17, -1, 0, 1, 17, 127, 128, 255, 256, 1000, 32767, 32768, 65535, 65536,
        Integer.MAX_VALUE - 1, Integer.MAX_VALUE};

    private Values() {
    }

    static int[] any() {
        return ANY.clone();
    }

    static int[] within(int least, int greatest) {
        return IntStream.rangeClosed(least, greatest).toArray();
    }

    /**
     * Next to the range, far from it, and such as would fall into it if they were cut to a narrower
     * type, shifted or turned in sign.
     */
    static int[] outside(int least, int greatest) {
        int[] near = {least - 2, least - 1, greatest + 1, greatest + 2};
        int[] cut = {256 + greatest, least - 256, 65536 + greatest, least - 65536};
        int[] turned = {-greatest, -least, ~greatest, ~least};
        int[] far = {Integer.MIN_VALUE, Integer.MIN_VALUE + greatest, Integer.MAX_VALUE};
        return Stream.of(near, cut, turned, far).flatMapToInt(IntStream::of)
                .filter(value -> value < least || value > greatest).distinct().toArray();
    }
}
