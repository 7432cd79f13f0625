/** Complexes as numbers, bit s for the set s, and the arguments on and beyond the bounds. */
final class Complexes {
  static final long EMPTY = 0L;
  static final long FULL = ~1L;
  static final long ALL_BUT_THE_WHOLE = of(31, 47, 55, 59, 61, 62);
  /** The projective plane on six vertices. */
  static final long PLANE = of(7, 13, 25, 49, 35, 22, 44, 26, 52, 42);
  static final long OCTAHEDRON = of(21, 37, 25, 41, 22, 38, 26, 42);
  static final long CIRCLE = of(3, 6, 5);
  static final long SIX_VERTICES = of(1, 2, 4, 8, 16, 32);

  /** Four complexes that differ, none of them empty or full. */
  static final long[] MIXED = {PLANE, of(15, 48), of(3, 6, 5, 40), of(31, 46)};
  static final long[] FOUR_EMPTY = {EMPTY, EMPTY, EMPTY, EMPTY};
  static final long[] FOUR_FULL = {FULL, FULL, FULL, FULL};

  static final int[] REGISTERS = {0, 1, 2, 3};
  static final int[] SETS = range(1, 63);
  static final int[] DEGREES = range(0, 5);
  static final int[] FIELDS = {0, 2, 3, 5};
  static final int[] OPS = {0, 1, 2};
  static final int[] LEVELS = {0, 1};

  // Just below, just above, and far outside; some would be inside if their high bits or their sign were lost.
  static final int[] NO_REGISTER = {-1, 4, 5, -2, -4, 7, 8, 64, 256, 259, 65536, 1 << 30, Integer.MIN_VALUE,
      Integer.MIN_VALUE + 1, Integer.MAX_VALUE};
  static final int[] NO_SET = {0, 64, -1, 65, -63, -64, 95, 127, 128, 257, 65543, 1 << 30, Integer.MIN_VALUE,
      Integer.MIN_VALUE + 7, Integer.MAX_VALUE};
  static final int[] NO_DEGREE = {-1, 6, 7, -2, -5, 8, 63, 64, 256, 258, 65537, 1 << 30, Integer.MIN_VALUE,
      Integer.MIN_VALUE + 1, Integer.MAX_VALUE};
  static final int[] NO_FIELD = {-1, 1, 4, 6, 7, -2, -3, -5, 9, 10, 11, 1031, 256, 258, 65539, 1 << 30,
      Integer.MIN_VALUE, Integer.MIN_VALUE + 2, Integer.MAX_VALUE};
  static final int[] NO_OP = {-1, 3, 4, -2, 5, 256, 257, 65538, 1 << 30, Integer.MIN_VALUE, Integer.MIN_VALUE + 1,
      Integer.MAX_VALUE};
  static final int[] NO_LEVEL = {-1, 2, 3, -2, 256, 257, 65536, 1 << 30, Integer.MIN_VALUE, Integer.MIN_VALUE + 1,
      Integer.MAX_VALUE};

  private Complexes() { }

  static int[] range(int first, int last) {
    int[] numbers = new int[last - first + 1];
    for (int i = 0; i < numbers.length; i++) numbers[i] = first + i;
    return numbers;
  }

  /** These sets and all their parts. */
  static long of(int... sets) {
    long complex = 0;
    for (int set : sets) for (int part = set; part > 0; part = (part - 1) & set) complex |= 1L << part;
    return complex;
  }

  static boolean in(long complex, int set) {
    return (complex >>> set & 1) == 1;
  }

  static int degree(int set) {
    return Integer.bitCount(set) - 1;
  }

  static long skeleton(long complex, int k) {
    long kept = 0;
    for (int set : SETS) if (in(complex, set) && degree(set) <= k) kept |= 1L << set;
    return kept;
  }

  static long link(long complex, int of) {
    long found = 0;
    for (int set : SETS) if ((set & of) == 0 && in(complex, set | of)) found |= 1L << set;
    return found;
  }

  static long dual(long complex) {
    long found = 0;
    for (int set : SETS) if (set != 63 && !in(complex, 63 - set)) found |= 1L << set;
    return found;
  }

  /** The vertices 0 to 5 in one of the 720 orders. */
  static int[] order(int code) {
    int[] order = {0, 1, 2, 3, 4, 5};
    for (int i = 5; i > 0; i--) {
      int j = code % (i + 1);
      code /= i + 1;
      int v = order[i];
      order[i] = order[j];
      order[j] = v;
    }
    return order;
  }

  /** The complex with other names for its vertices. */
  static long inOrder(long complex, int code) {
    int[] order = order(code);
    long renamed = 0;
    for (int set : SETS) {
      int other = 0;
      for (int v = 0; v < 6; v++) if ((set >> v & 1) == 1) other |= 1 << order[v];
      if (in(complex, set)) renamed |= 1L << other;
    }
    return renamed;
  }

  static long without(long complex, int taken) {
    long left = 0;
    for (int set : SETS) if (in(complex, set) && (set & taken) != taken) left |= 1L << set;
    return left;
  }
}
