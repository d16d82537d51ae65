/** The numbers at the bounds of what is accepted, and far outside them. */
final class Edges {
    static final int BAD_ARG = -1;
    static final int NONE = -4;
    static final int LEAST = Integer.MIN_VALUE;
    static final int GREATEST = Integer.MAX_VALUE;

    // The first cells refused on either side come first. The numbers after the
    // extremes would be cells if only their low bits were looked at.
    static final int[] NO_CELLS = {-1, 81, 82, -81, LEAST, GREATEST, LEAST + 1, 256, 65536, LEAST + 40};
    static final int[] NO_LENGTHS = {-10, 10, -11, 11, LEAST, GREATEST, LEAST + 1, 256, 65536, LEAST + 4};
    static final int[] NO_RADII = {-1, 4, LEAST, GREATEST, 256, LEAST + 2};
    static final int[] NO_GAINS = {-1, 10, LEAST, GREATEST, 256, LEAST + 5};
    static final int[] NOT_ZERO = {1, -1, 2, 256, 65536, LEAST, GREATEST};

    private Edges() {
    }
}
