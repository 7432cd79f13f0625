import java.util.ArrayList;
import java.util.List;
import java.util.Random;

/** Promise 14 against laws that tie it to holes, link, take, the dual and balance: none of them counts as the program does. */
public final class RelativeTest {
  private static final int PAIRS = 1500;

  /** All complexes on the vertices 0 to 3. */
  private static List<Long> complexesOnFour() {
    List<Long> found = new ArrayList<>();
    for (long sets = 0; sets < 1L << 16; sets += 2) if (isComplex(sets)) found.add(sets);
    return found;
  }

  private static boolean isComplex(long sets) {
    for (int set : Complexes.SETS) {
      if (Complexes.in(sets, set) && (Complexes.of(set) & ~sets) != 0) return false;
    }
    return true;
  }

  /** Up to most sets of these vertices with their parts, of few degrees or of all. */
  private static long any(Random dice, int vertices, int most) {
    long complex = 0;
    int sets = dice.nextInt(most + 1);
    int degree = dice.nextInt(vertices + 1);
    while (sets > 0) {
      int set = 1 + dice.nextInt((1 << vertices) - 1);
      if (degree == vertices || Complexes.degree(set) == degree || dice.nextInt(20) == 0) {
        complex |= Complexes.of(set);
        sets--;
      }
    }
    return complex;
  }

  private static long cone(long base, int apex) {
    long cone = Complexes.of(apex);
    for (int set : Complexes.SETS) if (Complexes.in(base, set)) cone |= Complexes.of(set | apex);
    return cone;
  }

  /** To count the sets of b as 0 is to close them with a cone, but for the one piece that this adds or joins. */
  private static void coneLaw(long a, long b, int apex, int level) {
    Desk x = Desk.with(a, b, a | cone(a & b, apex));
    x.level(level);
    for (int k : Complexes.DEGREES) {
      String name = "level " + level + ", " + a + " to " + b + ": relative(0, 1, " + k + ")";
      Check.due(name, x.relative(0, 1, k), x.holes(2, k, 2) - (k == 0 ? 1 : 0));
    }
  }

  private static void conesOnFour() {
    List<Long> all = complexesOnFour();
    Check.due("complexes on four vertices", all.size(), 167);
    for (int i = 0; i < all.size(); i++) {
      for (int j = 0; j < all.size(); j++) coneLaw(all.get(i), all.get(j), 16, (i + j) % 2);
    }
  }

  private static void conesOnFive() {
    Random dice = new Random(14);
    for (int i = 0; i < PAIRS; i++) coneLaw(any(dice, 5, 12), any(dice, 5, 12), 32, i % 2);
  }

  /** The sets of a that are not in b, each by its other vertices, are those of b's dual that are not in a's. */
  private static void dualLaw() {
    Random dice = new Random(15);
    for (int i = 0; i < PAIRS; i++) {
      long a = any(dice, 6, 20) & ~(1L << 63);
      long b = any(dice, 6, 20) & a;
      for (int level : Complexes.LEVELS) {
        Desk x = Desk.with(a, b);
        x.apply(SimplicialDesk.DUAL, 2, 0, 0);
        x.apply(SimplicialDesk.DUAL, 3, 1, 1);
        x.level(level);
        for (int k = 0; k <= 4; k++) {
          Check.due("level " + level + ", " + a + " to " + b + ": relative(0, 1, " + k + ")", x.relative(0, 1, k), x.relative(3, 2, 4 - k));
        }
      }
    }
  }

  /** Only the sets of b that are in a count; and more of b in a, which counts as 0 at once, changes nothing. */
  private static void cutLaw() {
    Random dice = new Random(16);
    for (int i = 0; i < PAIRS; i++) {
      long a = any(dice, 6, 20);
      long b = any(dice, 6, 12);
      Desk x = Desk.with(a, b);
      x.level(i % 2);
      x.apply(SimplicialDesk.UNION, 2, 0, 1);
      x.apply(SimplicialDesk.MEET, 3, 0, 1);
      for (int k : Complexes.DEGREES) {
        String name = a + " to " + b + ": relative(0, 1, " + k + ")";
        Check.due(name + " and both to b", x.relative(0, 1, k), x.relative(2, 1, k));
        Check.due(name + " and a to what is in both", x.relative(0, 1, k), x.relative(0, 3, k));
      }
    }
  }

  private static void balanceLaw() {
    Random dice = new Random(17);
    for (int i = 0; i < PAIRS; i++) {
      Desk x = Desk.with(any(dice, 6, 20), any(dice, 6, 12));
      x.level(i % 2);
      x.apply(SimplicialDesk.MEET, 2, 0, 1);
      int sum = 0;
      for (int k : Complexes.DEGREES) sum += k % 2 == 0 ? x.relative(0, 1, k) : -x.relative(0, 1, k);
      Check.due("pair " + i + ": the sum with signs", sum, x.balance(0) - x.balance(2));
    }
  }

  /** What a set's taking takes is the set, and with it each set of its link. */
  private static void linkLaw() {
    for (long a : new long[] {Complexes.PLANE, Complexes.OCTAHEDRON, Complexes.FULL, Complexes.ALL_BUT_THE_WHOLE,
        Complexes.dual(Complexes.CIRCLE), Complexes.of(15, 48, 7, 40), Complexes.skeleton(Complexes.FULL, 2)}) {
      for (int set : Complexes.SETS) if (Complexes.in(a, set)) linkLaw(a, set);
    }
  }

  private static void linkLaw(long a, int set) {
    for (int level : Complexes.LEVELS) {
      Desk x = Desk.with(a, a);
      x.level(level);
      x.take(1, set);
      x.link(2, 0, set);
      boolean facet = x.facets(2) == 0;
      int degree = Complexes.degree(set);
      for (int k : Complexes.DEGREES) {
        int below = k - degree - 1;
        int due = below < 0 ? 0 : x.holes(2, below, 2) - (below == 0 && !facet ? 1 : 0);
        if (k == degree && facet) due = 1;
        Check.due("level " + level + ", " + a + " to it without " + set + ": relative(0, 1, " + k + ")", x.relative(0, 1, k), due);
      }
    }
  }

  public static void main(String[] args) {
    Check.test("promise 14: the sets of b count as 0: every pair on four vertices", RelativeTest::conesOnFour);
    Check.test("promise 14: the sets of b count as 0: pairs on five vertices", RelativeTest::conesOnFive);
    Check.test("promise 14: modulo 2, and promise 4: the dual", RelativeTest::dualLaw);
    Check.test("promise 14: the sets of b that are in a", RelativeTest::cutLaw);
    Check.test("promise 14: the dimensions and the numbers of sets", RelativeTest::balanceLaw);
    Check.test("promise 14: and promises 3 and 5", RelativeTest::linkLaw);
    Check.end();
  }
}
