import java.util.ArrayList;
import java.util.List;

/**
 * Complexes that are made of sets of one degree and their parts, against laws that tie the answers to one
 * another: what a wrong rank or a grown entry would break. Every STEPth of them, as all take many minutes:
 * java -Dstep=1 has them all, and java -Dstep=8 -Dfrom=0 (to 7) parts them.
 */
public final class EveryTest {
  private static final int[] FIELDS = {0, 2, 3, 5};
  private static final int STEP = Integer.getInteger("step", 127);
  private static final int FROM = Integer.getInteger("from", 0);
  private static int wrong = 0;

  private static void due(String what, int got, int want) {
    if (got != want) {
      wrong++;
      System.out.println(what + ": " + got + ", due is " + want);
    }
  }

  private static List<Integer> setsOf(int degree) {
    List<Integer> sets = new ArrayList<>();
    for (int set = 1; set < 64; set++) if (Integer.bitCount(set) == degree + 1) sets.add(set);
    return sets;
  }

  /** The dimensions of H(0) to H(5) over one field; both levels must agree. */
  private static int[] holes(String name, SimplicialDesk x, int r, int p) {
    int[] found = new int[6];
    for (int k = 0; k < 6; k++) {
      x.level(1);
      found[k] = x.holes(r, k, p);
      x.level(0);
      due(name + " holes of degree " + k + " modulo " + p + " at level 0", x.holes(r, k, p), found[k]);
    }
    return found;
  }

  private static void check(int degree, List<Integer> chosen) {
    String name = "complex of " + chosen;
    SimplicialDesk x = new SimplicialDesk();
    for (int set : chosen) x.add(0, set);
    x.apply(SimplicialDesk.DUAL, 1, 0, 0);
    int[] whole = holes(name, x, 0, 0);
    int[] twos = new int[6];
    for (int k = 0; k < 6; k++) {
      int torsion = x.torsion(0, k);
      // No complex on six vertices has other torsion than a single 2.
      due(name + " torsion of degree " + k, torsion == 2 ? 1 : torsion, 1);
      twos[k] = torsion == 2 ? 1 : 0;
    }
    for (int p : FIELDS) {
      int[] found = p == 0 ? whole : holes(name, x, 0, p);
      int sum = 0;
      for (int k = 0; k < 6; k++) {
        sum += k % 2 == 0 ? found[k] : -found[k];
        int below = k == 0 ? 0 : twos[k - 1];
        due(name + " holes " + k + " modulo " + p + " and torsion", found[k], whole[k] + (p == 2 ? twos[k] + below : 0));
      }
      due(name + " balance by holes modulo " + p, x.balance(0), sum);
      due(name + " pieces by holes modulo " + p, x.pieces(0), found[0]);
      dual(name, x, found, p, chosen.isEmpty());
    }
    due(name + " surface", x.surface(0), surface(degree, chosen));
    x.level(1);
    due(name + " surface at level 1", x.surface(0), surface(degree, chosen));
  }

  /** Alexander's law: but for one piece each, the holes of degree k are as many as those of degree 3 - k of the dual. */
  private static void dual(String name, SimplicialDesk x, int[] found, int p, boolean empty) {
    if (empty || x.facets(1) == 0) return;
    x.level(1);
    for (int k = 0; k < 4; k++) {
      int here = found[k] - (k == 0 ? 1 : 0);
      int there = x.holes(1, 3 - k, p) - (k == 3 ? 1 : 0);
      due(name + " holes " + k + " modulo " + p + " and the dual's", here, there);
    }
  }

  /** Signs are spread from facet to facet over the parts that they share. */
  private static int surface(int k, List<Integer> facets) {
    if (k == 0 || facets.isEmpty()) return 0;
    for (int part = 1; part < 64; part++) {
      if (Integer.bitCount(part) == k && !(sharers(part, facets) == 2 || sharers(part, facets) == 0)) return 0;
    }
    int[] sign = new int[64];
    for (int start : facets) {
      if (sign[start] != 0) continue;
      sign[start] = 1;
      List<Integer> line = new ArrayList<>(List.of(start));
      for (int i = 0; i < line.size(); i++) {
        int one = line.get(i);
        for (int other : facets) {
          int part = one & other;
          if (other == one || Integer.bitCount(part) != k) continue;
          int want = -sign[one] * sign(one, part) * sign(other, part);
          if (sign[other] == 0) line.add(other);
          if (sign[other] == -want) return 1;
          sign[other] = want;
        }
      }
    }
    return 2;
  }

  private static int sharers(int part, List<Integer> facets) {
    return (int) facets.stream().filter(f -> (f & part) == part).count();
  }

  private static int sign(int whole, int part) {
    return Integer.bitCount(whole & ((whole ^ part) - 1)) % 2 == 0 ? 1 : -1;
  }

  public static void main(String[] args) {
    for (int degree = 0; degree < 6; degree++) {
      List<Integer> sets = setsOf(degree);
      boolean few = sets.size() <= 6;
      for (int choice = few ? 0 : FROM; choice < 1 << sets.size() && wrong < 100; choice += few ? 1 : STEP) {
        List<Integer> chosen = new ArrayList<>();
        for (int i = 0; i < sets.size(); i++) if ((choice >> i & 1) == 1) chosen.add(sets.get(i));
        check(degree, chosen);
      }
    }
    System.out.println(wrong == 0 ? "all laws hold" : wrong + " laws do not hold");
    if (wrong != 0) System.exit(1);
  }
}
