/** Each promise by hand: ordinary inputs, the edges that the document names, and wrong inputs. */
public final class PromisesTest {
  private static final int BAD = SimplicialDesk.BAD;
  private static final int NONE = SimplicialDesk.NONE;
  private static final int[] NO_REGISTER = {-1, 4, 64, Integer.MIN_VALUE, Integer.MAX_VALUE};
  private static final int[] NO_SET = {0, 64, -1, 65, Integer.MIN_VALUE, Integer.MAX_VALUE};
  private static final int[] NO_DEGREE = {-1, 6, 63, Integer.MIN_VALUE, Integer.MAX_VALUE};
  private static final int[] FIELDS = {0, 2, 3, 5};
  private static final int[] NO_FIELD = {1, 4, 6, 7, -1, -2, 1031, Integer.MIN_VALUE, Integer.MAX_VALUE};
  /** The projective plane on six vertices. */
  private static final int[] PLANE = {7, 13, 25, 49, 35, 22, 44, 26, 52, 42};
  private static final int[] OCTAHEDRON = {21, 37, 25, 41, 22, 38, 26, 42};

  private static int wrong = 0;

  private static void due(String call, int got, int want) {
    if (got != want) {
      wrong++;
      System.out.println(call + " answered " + got + ", due is " + want);
    }
  }

  private static void due(String call, boolean got, boolean want) {
    due(call, got ? 1 : 0, want ? 1 : 0);
  }

  /** Register r holds just the given sets, in ascending order. */
  private static void holds(String when, Desk x, int r, int... sets) {
    int next = 0;
    for (int set = 1; set < 64; set++) {
      boolean want = next < sets.length && sets[next] == set;
      if (want) next++;
      due(when + ": has(" + r + ", " + set + ")", x.has(r, set), want);
    }
    if (next != sets.length) throw new IllegalArgumentException("sets not ascending");
  }

  private static Desk with(int... sets) {
    Desk x = new Desk();
    for (int set : sets) x.add(0, set);
    return x;
  }

  /** H(0), H(1) and so on have these dimensions over the field, at both levels; those not given are 0. */
  private static void holes(String what, Desk x, int r, int p, int... want) {
    for (int level = 0; level < 2; level++) {
      x.level(level);
      for (int k = 0; k < 6; k++) {
        due(what + ": level " + level + " holes(" + r + ", " + k + ", " + p + ")", x.holes(r, k, p), k < want.length ? want[k] : 0);
      }
    }
  }

  private static void newObject() {
    Desk x = new Desk();
    for (int r = 0; r < 4; r++) {
      holds("new", x, r);
      due("new: facets", x.facets(r), 0);
      due("new: pieces", x.pieces(r), 0);
    }
    Desk other = new Desk();
    x.add(0, 63);
    due("two objects share nothing", other.count(0, 0), 0);
  }

  private static void add() {
    Desk x = new Desk();
    due("add(0, 11)", x.add(0, 11), 7);
    holds("add 11", x, 0, 1, 2, 3, 8, 9, 10, 11);
    due("add a part again", x.add(0, 9), 7);
    due("add(0, 32)", x.add(0, 32), 8);
    due("add(0, 48)", x.add(0, 48), 10);
    holds("add 11, 48", x, 0, 1, 2, 3, 8, 9, 10, 11, 16, 32, 48);
    holds("other register", x, 1);
    due("add(3, 63)", x.add(3, 63), 63);
    due("add(3, 63) again", x.add(3, 63), 63);
    due("add(1, 1)", x.add(1, 1), 1);
    for (int r : NO_REGISTER) due("add(" + r + ", 1)", x.add(r, 1), BAD);
    for (int set : NO_SET) due("add(2, " + set + ")", x.add(2, set), BAD);
    holds("after wrong adds", x, 2);
    holds("after wrong adds", x, 1, 1);
  }

  private static void take() {
    Desk x = with(7, 14);
    due("take a set not there", x.take(0, 16), 11);
    due("take a whole not there", x.take(0, 15), 11);
    due("take(0, 6)", x.take(0, 6), 8);
    holds("take 6", x, 0, 1, 2, 3, 4, 5, 8, 10, 12);
    due("take(0, 2)", x.take(0, 2), 5);
    holds("take 2", x, 0, 1, 4, 5, 8, 12);
    x.add(1, 63);
    due("take(1, 63)", x.take(1, 63), 62);
    due("take(1, 32)", x.take(1, 32), 31);
    due("take(2, 1) of none", x.take(2, 1), 0);
    for (int r : NO_REGISTER) due("take(" + r + ", 1)", x.take(r, 1), BAD);
    for (int set : NO_SET) due("take(0, " + set + ")", x.take(0, set), BAD);
    holds("after wrong takes", x, 0, 1, 4, 5, 8, 12);
  }

  private static void apply() {
    Desk x = with(7);
    x.add(1, 14);
    due("UNION", x.apply(SimplicialDesk.UNION, 2, 0, 1), true);
    holds("UNION", x, 2, 1, 2, 3, 4, 5, 6, 7, 8, 10, 12, 14);
    due("MEET", x.apply(SimplicialDesk.MEET, 3, 0, 1), true);
    holds("MEET", x, 3, 2, 4, 6);
    holds("a stays", x, 0, 1, 2, 3, 4, 5, 6, 7);
    holds("b stays", x, 1, 2, 4, 6, 8, 10, 12, 14);
    due("MEET into a", x.apply(SimplicialDesk.MEET, 2, 2, 1), true);
    holds("MEET into a", x, 2, 2, 4, 6, 8, 10, 12, 14);
    due("UNION into b", x.apply(SimplicialDesk.UNION, 3, 0, 3), true);
    holds("UNION into b", x, 3, 1, 2, 3, 4, 5, 6, 7);
    for (int op : new int[] {-1, 3, Integer.MIN_VALUE, Integer.MAX_VALUE}) due("apply op " + op, x.apply(op, 3, 0, 1), false);
    for (int op = 0; op < 3; op++) {
      for (int r : NO_REGISTER) {
        due("apply d", x.apply(op, r, 0, 1), false);
        due("apply a", x.apply(op, 3, r, 1), false);
        due("apply b", x.apply(op, 3, 1, r), false);
      }
    }
    holds("after refusals", x, 3, 1, 2, 3, 4, 5, 6, 7);
  }

  private static void dual() {
    Desk x = with(31, 47);
    // Not in register 0: the sets with both 4 and 5, and 63. Their other vertices are sets of 0 to 3.
    due("DUAL", x.apply(SimplicialDesk.DUAL, 1, 0, 3), true);
    holds("DUAL", x, 1, 1, 2, 3, 4, 5, 6, 7, 8, 9, 10, 11, 12, 13, 14, 15);
    due("DUAL into itself", x.apply(SimplicialDesk.DUAL, 1, 1, 1), true);
    for (int set = 1; set < 64; set++) due("DUAL twice has " + set, x.has(1, set), x.has(0, set));
    x.add(2, 63);
    due("DUAL of all", x.apply(SimplicialDesk.DUAL, 2, 2, 0), true);
    holds("DUAL of all", x, 2);
    due("DUAL of none", x.apply(SimplicialDesk.DUAL, 3, 2, 0), true);
    due("DUAL of none has all but one", x.has(3, 63), false);
    due("DUAL of none: add(3, 1)", x.add(3, 1), 62);
  }

  private static void link() {
    Desk x = with(7, 14, 48);
    due("link(1, 0, 2)", x.link(1, 0, 2), true);
    holds("link of 2", x, 1, 1, 4, 5, 8, 12);
    due("link(1, 0, 6)", x.link(1, 0, 6), true);
    holds("link of 6", x, 1, 1, 8);
    due("link(1, 0, 7)", x.link(1, 0, 7), true);
    holds("link of a facet", x, 1);
    x.add(1, 1);
    due("link(1, 0, 9)", x.link(1, 0, 9), true);
    holds("link of a set not there", x, 1);
    due("link(0, 0, 16)", x.link(0, 0, 16), true);
    holds("link into itself", x, 0, 32);
    for (int r : NO_REGISTER) {
      due("link d", x.link(r, 0, 1), false);
      due("link a", x.link(0, r, 1), false);
    }
    for (int set : NO_SET) due("link set " + set, x.link(0, 1, set), false);
    holds("after refusals", x, 0, 32);
  }

  private static void skeleton() {
    Desk x = with(15, 48);
    due("skeleton(1, 0, 0)", x.skeleton(1, 0, 0), true);
    holds("degree 0", x, 1, 1, 2, 4, 8, 16, 32);
    due("skeleton(1, 0, 1)", x.skeleton(1, 0, 1), true);
    holds("degree 1", x, 1, 1, 2, 3, 4, 5, 6, 8, 9, 10, 12, 16, 32, 48);
    due("skeleton(1, 0, 5)", x.skeleton(1, 0, 5), true);
    due("degree 5 keeps 15", x.has(1, 15), true);
    due("skeleton(0, 0, 2)", x.skeleton(0, 0, 2), true);
    holds("into itself", x, 0, 1, 2, 3, 4, 5, 6, 7, 8, 9, 10, 11, 12, 13, 14, 16, 32, 48);
    x.add(2, 63);
    x.skeleton(3, 2, 4);
    due("skeleton 4 of all", x.count(3, 4), 6);
    due("skeleton 4 of all", x.count(3, 5), 0);
    x.skeleton(3, 2, 5);
    due("skeleton 5 of all", x.count(3, 5), 1);
    for (int r : NO_REGISTER) {
      due("skeleton d", x.skeleton(r, 0, 1), false);
      due("skeleton a", x.skeleton(3, r, 1), false);
    }
    for (int k : NO_DEGREE) due("skeleton k " + k, x.skeleton(3, 0, k), false);
    due("after refusals", x.count(3, 5), 1);
  }

  private static void has() {
    Desk x = with(63);
    for (int set = 1; set < 64; set++) due("has(0, " + set + ")", x.has(0, set), true);
    for (int set : NO_SET) due("has(0, " + set + ")", x.has(0, set), false);
    for (int r = 1; r < 4; r++) x.add(r, 63);
    for (int r : NO_REGISTER) due("has(" + r + ", 1)", x.has(r, 1), false);
    due("has(3, 63)", x.has(3, 63), true);
  }

  private static void countAndBalance() {
    Desk x = with(63);
    int[] binomials = {6, 15, 20, 15, 6, 1};
    for (int k = 0; k < 6; k++) due("count(0, " + k + ")", x.count(0, k), binomials[k]);
    due("balance of all", x.balance(0), 1);
    x.take(0, 63);
    due("balance of a 4-sphere", x.balance(0), 2);
    x.add(1, 3);
    x.add(1, 6);
    x.add(1, 5);
    due("balance of a circle", x.balance(1), 0);
    x.add(1, 9);
    x.add(1, 10);
    due("balance of two circles", x.balance(1), -1);
    due("count(1, 1)", x.count(1, 1), 5);
    due("count(1, 2)", x.count(1, 2), 0);
    due("balance of none", x.balance(2), 0);
    for (int r : NO_REGISTER) {
      due("count(" + r + ", 0)", x.count(r, 0), BAD);
      due("balance(" + r + ")", x.balance(r), 0);
    }
    for (int k : NO_DEGREE) due("count(0, " + k + ")", x.count(0, k), BAD);
  }

  private static void facets() {
    Desk x = with(7, 24, 32, 12, 3);
    int[] want = {7, 12, 24, 32};
    due("facets(0)", x.facets(0), want.length);
    for (int k = 0; k < want.length; k++) due("facet(0, " + k + ")", x.facet(0, k), want[k]);
    for (int k : new int[] {4, -1, 63, Integer.MIN_VALUE, Integer.MAX_VALUE}) due("facet(0, " + k + ")", x.facet(0, k), NONE);
    due("facets of none", x.facets(1), 0);
    due("facet of none", x.facet(1, 0), NONE);
    x.add(1, 63);
    due("facets of all", x.facets(1), 1);
    due("facet of all", x.facet(1, 0), 63);
    for (int r : NO_REGISTER) {
      due("facets(" + r + ")", x.facets(r), BAD);
      due("facet(" + r + ", 0)", x.facet(r, 0), BAD);
      due("facet(" + r + ", -1)", x.facet(r, -1), BAD);
    }
  }

  private static void holes() {
    for (int p : FIELDS) {
      int even = p == 2 ? 1 : 0;
      holes("none", with(), 0, p);
      holes("a vertex", with(32), 0, p, 1);
      holes("all", with(63), 0, p, 1);
      holes("six vertices", with(1, 2, 4, 8, 16, 32), 0, p, 6);
      holes("two circles apart", with(3, 6, 5, 24, 48, 40), 0, p, 2, 2);
      holes("octahedron", with(OCTAHEDRON), 0, p, 1, 0, 1);
      holes("projective plane", with(PLANE), 0, p, 1, even, even);
      Desk x = with(63);
      int[] bouquet = {0, 10, 10, 5, 1};
      for (int k = 1; k < 5; k++) {
        x.skeleton(1, 0, k);
        int[] want = new int[6];
        want[0] = 1;
        want[k] = bouquet[k];
        holes("skeleton " + k, x, 1, p, want);
      }
    }
    Desk x = with(3);
    for (int r : NO_REGISTER) due("holes(" + r + ", 0, 0)", x.holes(r, 0, 0), BAD);
    for (int k : NO_DEGREE) due("holes(0, " + k + ", 0)", x.holes(0, k, 0), BAD);
    for (int p : NO_FIELD) due("holes(0, 0, " + p + ")", x.holes(0, 0, p), BAD);
  }

  private static void torsion() {
    Desk x = with(PLANE);
    for (int level = 0; level < 2; level++) {
      x.level(level);
      for (int k = 0; k < 6; k++) due("plane: torsion(0, " + k + ")", x.torsion(0, k), k == 1 ? 2 : 1);
    }
    x.add(1, 63);
    for (int k = 0; k < 6; k++) {
      due("all: torsion(1, " + k + ")", x.torsion(1, k), 1);
      due("none: torsion(2, " + k + ")", x.torsion(2, k), 1);
    }
    x.take(0, 7);
    due("band: torsion(0, 1)", x.torsion(0, 1), 1);
    x.add(0, 15);
    due("filled: torsion(0, 1)", x.torsion(0, 1), 1);
    for (int r : NO_REGISTER) due("torsion(" + r + ", 1)", x.torsion(r, 1), BAD);
    for (int k : NO_DEGREE) due("torsion(0, " + k + ")", x.torsion(0, k), BAD);
  }

  private static void relative() {
    for (int level = 0; level < 2; level++) {
      Desk x = with(63);
      x.level(level);
      for (int k = 0; k < 5; k++) {
        x.skeleton(1, 0, k);
        x.skeleton(2, 0, k + 1);
        for (int j = 0; j < 6; j++) due("all of degree " + (k + 1) + " over " + k, x.relative(2, 1, j), j == k + 1 ? x.count(0, j) : 0);
      }
      for (int j = 0; j < 6; j++) {
        due("over itself", x.relative(0, 0, j), 0);
        due("over none", x.relative(0, 3, j), j == 0 ? 1 : 0);
        due("none over all", x.relative(3, 0, j), 0);
      }
      // The sets of b that are not in a play no part: an edge over its ends, which b joins elsewhere.
      Desk y = with(3);
      y.level(level);
      y.add(1, 5);
      y.add(1, 6);
      due("edge over its ends, 0", y.relative(0, 1, 0), 0);
      due("edge over its ends, 1", y.relative(0, 1, 1), 1);
      Desk z = with(PLANE);
      z.level(level);
      z.add(1, 7);
      due("plane over a triangle, 0", z.relative(0, 1, 0), 0);
      due("plane over a triangle, 1", z.relative(0, 1, 1), 1);
      due("plane over a triangle, 2", z.relative(0, 1, 2), 1);
    }
    Desk x = with(3);
    for (int r : NO_REGISTER) {
      due("relative a", x.relative(r, 0, 0), BAD);
      due("relative b", x.relative(0, r, 0), BAD);
    }
    for (int k : NO_DEGREE) due("relative k " + k, x.relative(0, 1, k), BAD);
  }

  private static void surface(String what, int want, int... sets) {
    for (int level = 0; level < 2; level++) {
      Desk x = with(sets);
      x.level(level);
      due("level " + level + ": surface of " + what, x.surface(0), want);
    }
  }

  private static void surfaces() {
    surface("none", 0);
    surface("a vertex", 0, 1);
    surface("two vertices", 0, 1, 2);
    surface("an edge", 0, 3);
    surface("a triangle", 0, 7);
    surface("all", 0, 63);
    surface("a circle", 2, 3, 6, 5);
    surface("a circle of six", 2, 3, 6, 12, 24, 48, 33);
    surface("two circles apart", 2, 3, 6, 5, 24, 48, 40);
    surface("two circles that meet", 0, 3, 6, 5, 9, 24, 17);
    surface("a circle and a vertex", 0, 3, 6, 5, 8);
    surface("a circle and a hair", 0, 3, 6, 5, 12);
    surface("a tetrahedron's faces", 2, 7, 11, 13, 14);
    surface("all but one of these", 0, 7, 11, 13);
    surface("a tetrahedron's faces and a hair", 0, 7, 11, 13, 14, 24);
    surface("two tetrahedra's faces, meeting in an edge", 0, 7, 11, 13, 14, 19, 35, 49, 50);
    surface("two tetrahedra's faces, meeting in a triangle left out", 2, 11, 13, 14, 19, 21, 22);
    surface("octahedron", 2, OCTAHEDRON);
    surface("projective plane", 1, PLANE);
    surface("3-sphere", 2, 15, 23, 27, 29, 30);
    surface("4-sphere", 2, 31, 47, 55, 59, 61, 62);
    surface("4-sphere less a set", 0, 31, 47, 55, 59, 61);
    Desk x = new Desk();
    for (int r : NO_REGISTER) due("surface(" + r + ")", x.surface(r), BAD);
  }

  private static void pieces() {
    due("pieces of all", with(63).pieces(0), 1);
    due("pieces of a path", with(33, 34, 18, 20, 12).pieces(0), 1);
    due("pieces of three edges", with(33, 18, 12).pieces(0), 3);
    due("pieces of three vertices", with(1, 8, 32).pieces(0), 3);
    due("pieces of six vertices", with(1, 2, 4, 8, 16, 32).pieces(0), 6);
    due("pieces of a triangle and an edge", with(41, 18).pieces(0), 2);
    due("pieces of the last vertex", with(32).pieces(0), 1);
    Desk x = new Desk();
    due("pieces of none", x.pieces(0), 0);
    x.add(0, 3);
    x.take(0, 1);
    due("pieces after a take", x.pieces(0), 1);
    x.take(0, 2);
    due("pieces after all is taken", x.pieces(0), 0);
    for (int r : NO_REGISTER) due("pieces(" + r + ")", x.pieces(r), BAD);
  }

  private static void level() {
    Desk x = with(PLANE);
    due("level(1)", x.level(1), true);
    due("level(0)", x.level(0), true);
    for (int k : new int[] {-1, 2, Integer.MIN_VALUE, Integer.MAX_VALUE}) due("level(" + k + ")", x.level(k), false);
    due("plane after levels", x.holes(0, 1, 2), 1);
    due("plane after levels", x.holes(0, 1, 0), 0);
    due("level(0) again", x.level(0), true);
    due("level(1) again", x.level(1), true);
    due("plane after levels", x.holes(0, 1, 2), 1);
    due("plane after levels", x.holes(0, 1, 0), 0);
  }

  public static void main(String[] args) {
    newObject();
    add();
    take();
    apply();
    dual();
    link();
    skeleton();
    has();
    countAndBalance();
    facets();
    holes();
    torsion();
    relative();
    surfaces();
    pieces();
    level();
    System.out.println(wrong == 0 ? "all answers are as due" : wrong + " answers are not as due");
    if (wrong != 0) System.exit(1);
  }
}
