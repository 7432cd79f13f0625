/** Promises 2 to 6 and 17, the calls that change an object: each sentence that names a boundary case. */
public final class ChangesBoundsTest {
  private static final int BAD = -1;
  private static final long[] SOME = {Complexes.EMPTY, Complexes.FULL, Complexes.ALL_BUT_THE_WHOLE, Complexes.PLANE,
      Complexes.SIX_VERTICES, Complexes.of(1), Complexes.of(32), Complexes.of(15, 48)};

  // Promise 2: add

  private static void addRegisterOutside() {
    for (int r : Complexes.NO_REGISTER) {
      for (int set : Complexes.SETS) Desk.refused("add(" + r + ", " + set + ")", BAD, x -> x.add(r, set));
    }
  }

  private static void addSetOutside() {
    for (int r : Complexes.REGISTERS) {
      for (int set : Complexes.NO_SET) Desk.refused("add(" + r + ", " + set + ")", BAD, x -> x.add(r, set));
    }
  }

  private static void addBothOutside() {
    for (int r : Complexes.NO_REGISTER) {
      for (int set : Complexes.NO_SET) Desk.refused("add(" + r + ", " + set + ")", BAD, x -> x.add(r, set));
    }
  }

  private static void addInRange() {
    for (int r : Complexes.REGISTERS) {
      for (int set : Complexes.SETS) {
        Desk x = Desk.with(Complexes.MIXED);
        long[] want = Complexes.MIXED.clone();
        want[r] |= Complexes.of(set);
        Check.due("add(" + r + ", " + set + ")", x.add(r, set), Long.bitCount(want[r]));
        x.holdsAll("add(" + r + ", " + set + ")", want);
      }
    }
  }

  private static void addToFull() {
    for (int set : Complexes.SETS) {
      Desk x = Desk.with(Complexes.FULL);
      Check.due("add(0, " + set + ") to all", x.add(0, set), 63);
      x.holds("add(0, " + set + ") to all", 0, Complexes.FULL);
    }
  }

  private static void addTheLastSet() {
    Desk x = Desk.with(Complexes.ALL_BUT_THE_WHOLE);
    Check.due("add(0, 62), which is there", x.add(0, 62), 62);
    Check.due("add(0, 63), which alone is not", x.add(0, 63), 63);
    x.holds("add the last set", 0, Complexes.FULL);
  }

  // Promise 3: take

  private static void takeRegisterOutside() {
    for (int r : Complexes.NO_REGISTER) {
      for (int set : Complexes.SETS) Desk.refused("take(" + r + ", " + set + ")", BAD, x -> x.take(r, set));
    }
  }

  private static void takeSetOutside() {
    for (int r : Complexes.REGISTERS) {
      for (int set : Complexes.NO_SET) Desk.refused("take(" + r + ", " + set + ")", BAD, x -> x.take(r, set));
    }
  }

  private static void takeBothOutside() {
    for (int r : Complexes.NO_REGISTER) {
      for (int set : Complexes.NO_SET) Desk.refused("take(" + r + ", " + set + ")", BAD, x -> x.take(r, set));
    }
  }

  private static void takeInRange() {
    for (int r : Complexes.REGISTERS) {
      for (int set : Complexes.SETS) {
        Desk x = Desk.with(Complexes.MIXED);
        long[] want = Complexes.MIXED.clone();
        want[r] = Complexes.without(want[r], set);
        Check.due("take(" + r + ", " + set + ")", x.take(r, set), Long.bitCount(want[r]));
        x.holdsAll("take(" + r + ", " + set + ")", want);
      }
    }
  }

  private static void takeFromEmpty() {
    for (int set : Complexes.SETS) {
      Desk x = new Desk();
      Check.due("take(0, " + set + ") from none", x.take(0, set), 0);
      x.holds("take(0, " + set + ") from none", 0, Complexes.EMPTY);
    }
  }

  private static void takeFromFull() {
    for (int set : Complexes.SETS) {
      Desk x = Desk.with(Complexes.FULL);
      int wholes = 1 << 6 - Integer.bitCount(set);
      Check.due("take(0, " + set + ") from all", x.take(0, set), 63 - wholes);
      x.holds("take(0, " + set + ") from all", 0, Complexes.without(Complexes.FULL, set));
    }
  }

  private static void takeTheLastSet() {
    for (int v = 0; v < 6; v++) {
      Desk x = Desk.with(1L << (1 << v));
      Check.due("take the last set", x.take(0, 1 << v), 0);
      x.holds("take the last set", 0, Complexes.EMPTY);
    }
    Desk x = Desk.with(Complexes.FULL);
    for (int v = 0; v < 6; v++) Check.due("take vertex " + v + " of all", x.take(0, 1 << v), (1 << 5 - v) - 1);
    x.holds("take each vertex", 0, Complexes.EMPTY);
  }

  // Promise 4: apply

  private static String name(int op, int d, int a, int b) {
    return "apply(" + op + ", " + d + ", " + a + ", " + b + ")";
  }

  private static void applyOpOutside() {
    for (int op : Complexes.NO_OP) {
      for (int d : Complexes.REGISTERS) {
        for (int a : Complexes.REGISTERS) Desk.refused(name(op, d, a, 1), x -> x.apply(op, d, a, 1));
      }
    }
  }

  private static void applyDOutside(int op) {
    for (int d : Complexes.NO_REGISTER) {
      for (int a : Complexes.REGISTERS) {
        for (int b : Complexes.REGISTERS) Desk.refused(name(op, d, a, b), x -> x.apply(op, d, a, b));
      }
    }
  }

  private static void applyAOutside(int op) {
    for (int a : Complexes.NO_REGISTER) {
      for (int d : Complexes.REGISTERS) {
        for (int b : Complexes.REGISTERS) Desk.refused(name(op, d, a, b), x -> x.apply(op, d, a, b));
      }
    }
  }

  private static void applyBOutside(int op) {
    for (int b : Complexes.NO_REGISTER) {
      for (int d : Complexes.REGISTERS) {
        for (int a : Complexes.REGISTERS) Desk.refused(name(op, d, a, b), x -> x.apply(op, d, a, b));
      }
    }
  }

  private static void applyAllOutside() {
    for (int n : Complexes.NO_REGISTER) {
      for (int op : Complexes.OPS) Desk.refused(name(op, n, n, n), x -> x.apply(op, n, n, n));
      Desk.refused(name(-1, n, n, n), x -> x.apply(-1, n, n, n));
      Desk.refused(name(3, 0, n, 0), x -> x.apply(3, 0, n, 0));
    }
  }

  private static long applied(int op, long a, long b) {
    return op == 0 ? a | b : op == 1 ? a & b : Complexes.dual(a);
  }

  private static void applied(String when, int op, int d, int a, int b, long[] before) {
    Desk x = Desk.with(before);
    long[] want = before.clone();
    want[d] = applied(op, before[a], before[b]);
    String name = name(op, d, a, b) + " on " + when;
    Check.due(name, x.apply(op, d, a, b), true);
    x.holdsAll(name, want);
  }

  /** All ways in which d, a and b can be the same register or not; the others stay as they were. */
  private static void applyEachRegister(int op) {
    for (int d : Complexes.REGISTERS) {
      for (int a : Complexes.REGISTERS) {
        for (int b : Complexes.REGISTERS) applied("mixed ones", op, d, a, b, Complexes.MIXED);
      }
    }
  }

  private static void applyWithEmptyAndFull(int op) {
    for (long one : SOME) {
      long[] before = {Complexes.EMPTY, Complexes.FULL, one, Complexes.OCTAHEDRON};
      for (int bound = 0; bound < 2; bound++) {
        applied("complex " + one, op, 3, bound, 2, before);
        applied("complex " + one, op, 3, 2, bound, before);
        applied("complex " + one, op, 2, bound, 2, before);
        applied("complex " + one, op, bound, bound, 2, before);
        applied("complex " + one, op, bound, 2, bound, before);
        applied("complex " + one, op, 3, bound, bound, before);
      }
    }
  }

  private static void unionBounds() {
    Desk x = Desk.with(Complexes.EMPTY, Complexes.FULL, Complexes.PLANE);
    Check.due("none or none", x.apply(0, 3, 0, 0), true);
    x.holds("none or none", 3, Complexes.EMPTY);
    x.apply(0, 3, 0, 2);
    x.holds("none or the plane", 3, Complexes.PLANE);
    x.apply(0, 3, 2, 1);
    x.holds("the plane or all", 3, Complexes.FULL);
  }

  private static void meetBounds() {
    Desk x = Desk.with(Complexes.of(7), Complexes.FULL, Complexes.of(56));
    x.apply(1, 3, 0, 1);
    x.holds("a triangle and all", 3, Complexes.of(7));
    Check.due("two that share nothing", x.apply(1, 3, 0, 2), true);
    x.holds("two that share nothing", 3, Complexes.EMPTY);
    x.apply(1, 3, 1, 1);
    x.holds("all and all", 3, Complexes.FULL);
  }

  private static void dualHasNeverAllSix() {
    for (long one : SOME) {
      for (int b : Complexes.REGISTERS) {
        Desk x = Desk.with(one, Complexes.FULL, Complexes.EMPTY, Complexes.FULL);
        x.apply(2, 3, 0, b);
        Check.due("the dual of " + one + " has 63", x.has(3, 63), false);
      }
    }
  }

  private static void dualOfEmptyAndFull() {
    Desk x = Desk.with(Complexes.EMPTY, Complexes.FULL, Complexes.ALL_BUT_THE_WHOLE);
    x.apply(2, 3, 0, 0);
    x.holds("the dual of none", 3, Complexes.ALL_BUT_THE_WHOLE);
    x.apply(2, 3, 1, 0);
    x.holds("the dual of all", 3, Complexes.EMPTY);
    x.apply(2, 3, 2, 0);
    x.holds("the dual of all but 63", 3, Complexes.EMPTY);
    x.apply(2, 0, 0, 0);
    x.holds("the dual of none in its place", 0, Complexes.ALL_BUT_THE_WHOLE);
    x.apply(2, 1, 1, 1);
    x.holds("the dual of all in its place", 1, Complexes.EMPTY);
  }

  private static void dualWithoutB() {
    for (long b : SOME) {
      Desk x = Desk.with(Complexes.of(31, 47), b);
      Check.due("the dual beside " + b, x.apply(2, 2, 0, 1), true);
      x.holds("the dual beside " + b, 2, Complexes.of(15));
      x.holds("b of the dual", 1, b);
    }
  }

  // Promise 5: link

  private static void linkDOutside() {
    for (int d : Complexes.NO_REGISTER) {
      for (int a : Complexes.REGISTERS) {
        for (int set : Complexes.SETS) Desk.refused("link(" + d + ", " + a + ", " + set + ")", x -> x.link(d, a, set));
      }
    }
  }

  private static void linkAOutside() {
    for (int a : Complexes.NO_REGISTER) {
      for (int d : Complexes.REGISTERS) {
        for (int set : Complexes.SETS) Desk.refused("link(" + d + ", " + a + ", " + set + ")", x -> x.link(d, a, set));
      }
    }
  }

  private static void linkSetOutside() {
    for (int set : Complexes.NO_SET) {
      for (int d : Complexes.REGISTERS) {
        for (int a : Complexes.REGISTERS) Desk.refused("link(" + d + ", " + a + ", " + set + ")", x -> x.link(d, a, set));
      }
    }
  }

  private static void linkAllOutside() {
    for (int n : Complexes.NO_REGISTER) {
      for (int set : Complexes.NO_SET) Desk.refused("link(" + n + ", " + n + ", " + set + ")", x -> x.link(n, n, set));
    }
  }

  private static void linkEachRegister() {
    for (int d : Complexes.REGISTERS) {
      for (int a : Complexes.REGISTERS) {
        for (int set : Complexes.SETS) {
          Desk x = Desk.with(Complexes.MIXED);
          long[] want = Complexes.MIXED.clone();
          want[d] = Complexes.link(want[a], set);
          String name = "link(" + d + ", " + a + ", " + set + ")";
          Check.due(name, x.link(d, a, set), true);
          x.holdsAll(name, want);
        }
      }
    }
  }

  private static void linkBecomes(String when, long complex, int set, long want) {
    for (int d = 0; d < 2; d++) {
      Desk x = Desk.with(complex, Complexes.PLANE);
      Check.due("link of " + set + " in " + when, x.link(d, 0, set), true);
      x.holds("link of " + set + " in " + when + ", in register " + d, d, want);
    }
  }

  private static void linkInEmpty() {
    for (int set : Complexes.SETS) linkBecomes("none", Complexes.EMPTY, set, Complexes.EMPTY);
  }

  private static void linkInFull() {
    for (int set : Complexes.SETS) linkBecomes("all", Complexes.FULL, set, Complexes.of(63 - set));
  }

  private static void linkOfFacet() {
    for (int facet : new int[] {15, 48}) linkBecomes("its parts", Complexes.of(15, 48), facet, Complexes.EMPTY);
    linkBecomes("all", Complexes.FULL, 63, Complexes.EMPTY);
    linkBecomes("itself", Complexes.of(1), 1, Complexes.EMPTY);
    linkBecomes("itself", Complexes.of(32), 32, Complexes.EMPTY);
  }

  private static void linkOfSetNotThere() {
    for (int set : Complexes.SETS) {
      if (!Complexes.in(Complexes.PLANE, set)) linkBecomes("the plane", Complexes.PLANE, set, Complexes.EMPTY);
    }
  }

  // Promise 6: skeleton

  private static void skeletonDOutside() {
    for (int d : Complexes.NO_REGISTER) {
      for (int a : Complexes.REGISTERS) {
        for (int k : Complexes.DEGREES) Desk.refused("skeleton(" + d + ", " + a + ", " + k + ")", x -> x.skeleton(d, a, k));
      }
    }
  }

  private static void skeletonAOutside() {
    for (int a : Complexes.NO_REGISTER) {
      for (int d : Complexes.REGISTERS) {
        for (int k : Complexes.DEGREES) Desk.refused("skeleton(" + d + ", " + a + ", " + k + ")", x -> x.skeleton(d, a, k));
      }
    }
  }

  private static void skeletonKOutside() {
    for (int k : Complexes.NO_DEGREE) {
      for (int d : Complexes.REGISTERS) {
        for (int a : Complexes.REGISTERS) Desk.refused("skeleton(" + d + ", " + a + ", " + k + ")", x -> x.skeleton(d, a, k));
      }
    }
  }

  private static void skeletonAllOutside() {
    for (int n : Complexes.NO_REGISTER) {
      for (int k : Complexes.NO_DEGREE) Desk.refused("skeleton(" + n + ", " + n + ", " + k + ")", x -> x.skeleton(n, n, k));
    }
  }

  private static void skeletonEachRegister() {
    for (int d : Complexes.REGISTERS) {
      for (int a : Complexes.REGISTERS) {
        for (int k : Complexes.DEGREES) {
          Desk x = Desk.with(Complexes.MIXED);
          long[] want = Complexes.MIXED.clone();
          want[d] = Complexes.skeleton(want[a], k);
          String name = "skeleton(" + d + ", " + a + ", " + k + ")";
          Check.due(name, x.skeleton(d, a, k), true);
          x.holdsAll(name, want);
        }
      }
    }
  }

  private static void skeletonBecomes(String when, long complex, int k, long want) {
    for (int d = 0; d < 2; d++) {
      Desk x = Desk.with(complex, Complexes.PLANE);
      Check.due("skeleton " + k + " of " + when, x.skeleton(d, 0, k), true);
      x.holds("skeleton " + k + " of " + when + ", in register " + d, d, want);
    }
  }

  private static void skeletonOfEmpty() {
    for (int k : Complexes.DEGREES) skeletonBecomes("none", Complexes.EMPTY, k, Complexes.EMPTY);
  }

  private static void skeletonOfFull() {
    skeletonBecomes("all", Complexes.FULL, 0, Complexes.SIX_VERTICES);
    for (int k = 1; k <= 3; k++) skeletonBecomes("all", Complexes.FULL, k, Complexes.skeleton(Complexes.FULL, k));
    skeletonBecomes("all", Complexes.FULL, 4, Complexes.ALL_BUT_THE_WHOLE);
    skeletonBecomes("all", Complexes.FULL, 5, Complexes.FULL);
  }

  private static void skeletonAtMostK() {
    for (int set : Complexes.SETS) {
      int degree = Complexes.degree(set);
      long whole = Complexes.of(set);
      skeletonBecomes("set " + set, whole, degree, whole);
      if (degree > 0) skeletonBecomes("set " + set, whole, degree - 1, whole & ~(1L << set));
      if (degree < 5) skeletonBecomes("set " + set, whole, degree + 1, whole);
    }
  }

  // Promise 17: level

  private static void levelOutside() {
    for (int k : Complexes.NO_LEVEL) {
      Desk.refused("level(" + k + ")", x -> x.level(k));
      for (int level : Complexes.LEVELS) {
        Desk x = Desk.with(Complexes.PLANE);
        x.level(level);
        Check.due("level(" + k + ") after level(" + level + ")", x.level(k), false);
        planeAnswers("level(" + k + ") after level(" + level + ")", x);
      }
    }
  }

  private static void levelInRange() {
    for (int k : Complexes.LEVELS) {
      Desk x = Desk.with(Complexes.MIXED);
      Check.due("level(" + k + ")", x.level(k), true);
      Check.due("level(" + k + ") again", x.level(k), true);
      x.holdsAll("level(" + k + ")", Complexes.MIXED);
    }
  }

  private static void levelShowsInNoAnswer() {
    Desk x = Desk.with(Complexes.PLANE);
    planeAnswers("at first", x);
    for (int k : new int[] {0, 1, 1, 0, 0, 1}) {
      x.level(k);
      planeAnswers("after level(" + k + ")", x);
    }
  }

  private static void planeAnswers(String when, Desk x) {
    for (int p : Complexes.FIELDS) {
      int even = p == 2 ? 1 : 0;
      Check.due(when + ": holes(0, 0, " + p + ")", x.holes(0, 0, p), 1);
      Check.due(when + ": holes(0, 1, " + p + ")", x.holes(0, 1, p), even);
      Check.due(when + ": holes(0, 2, " + p + ")", x.holes(0, 2, p), even);
    }
    Check.due(when + ": torsion(0, 1)", x.torsion(0, 1), 2);
    Check.due(when + ": relative(0, 1, 2)", x.relative(0, 1, 2), 1);
    Check.due(when + ": surface(0)", x.surface(0), 1);
    Check.due(when + ": pieces(0)", x.pieces(0), 1);
    Check.due(when + ": balance(0)", x.balance(0), 1);
  }

  private static void addAndTake() {
    Check.test("promise 2: r outside 0..3: BAD", ChangesBoundsTest::addRegisterOutside);
    Check.test("promise 2: set outside 1..63: BAD", ChangesBoundsTest::addSetOutside);
    Check.test("promise 2: both outside: BAD", ChangesBoundsTest::addBothOutside);
    Check.test("promise 2: adds a set and all its parts to register r alone", ChangesBoundsTest::addInRange);
    Check.test("promise 2: the number of sets there then, all being there", ChangesBoundsTest::addToFull);
    Check.test("promise 2: the number of sets there then, up to all", ChangesBoundsTest::addTheLastSet);
    Check.test("promise 3: r outside 0..3: BAD", ChangesBoundsTest::takeRegisterOutside);
    Check.test("promise 3: set outside 1..63: BAD", ChangesBoundsTest::takeSetOutside);
    Check.test("promise 3: both outside: BAD", ChangesBoundsTest::takeBothOutside);
    Check.test("promise 3: takes a set, and all that have it as a part, out of register r alone", ChangesBoundsTest::takeInRange);
    Check.test("promise 3: the number of sets there then, none being there", ChangesBoundsTest::takeFromEmpty);
    Check.test("promise 3: the number of sets there then, all being there", ChangesBoundsTest::takeFromFull);
    Check.test("promise 3: the number of sets there then, down to none", ChangesBoundsTest::takeTheLastSet);
  }

  private static void apply() {
    Check.test("promise 4: op outside 0..2: refused", ChangesBoundsTest::applyOpOutside);
    for (int op : Complexes.OPS) {
      Check.test("promise 4: op " + op + ", d outside 0..3: refused", () -> applyDOutside(op));
      Check.test("promise 4: op " + op + ", a outside 0..3: refused", () -> applyAOutside(op));
      Check.test("promise 4: op " + op + ", b outside 0..3: refused", () -> applyBOutside(op));
      Check.test("promise 4: op " + op + ", registers that are read and written", () -> applyEachRegister(op));
      Check.test("promise 4: op " + op + " with none and with all", () -> applyWithEmptyAndFull(op));
    }
    Check.test("promise 4: all outside: refused", ChangesBoundsTest::applyAllOutside);
    Check.test("promise 4: UNION the sets that are in a or in b", ChangesBoundsTest::unionBounds);
    Check.test("promise 4: MEET those in both", ChangesBoundsTest::meetBounds);
    Check.test("promise 4: DUAL those, other than all six vertices", ChangesBoundsTest::dualHasNeverAllSix);
    Check.test("promise 4: DUAL of none and of all", ChangesBoundsTest::dualOfEmptyAndFull);
    Check.test("promise 4: DUAL (b plays no part)", ChangesBoundsTest::dualWithoutB);
  }

  private static void linkAndSkeleton() {
    Check.test("promise 5: d outside 0..3: refused", ChangesBoundsTest::linkDOutside);
    Check.test("promise 5: a outside 0..3: refused", ChangesBoundsTest::linkAOutside);
    Check.test("promise 5: set outside 1..63: refused", ChangesBoundsTest::linkSetOutside);
    Check.test("promise 5: all outside: refused", ChangesBoundsTest::linkAllOutside);
    Check.test("promise 5: a register that is read and written", ChangesBoundsTest::linkEachRegister);
    Check.test("promise 5: in none", ChangesBoundsTest::linkInEmpty);
    Check.test("promise 5: in all", ChangesBoundsTest::linkInFull);
    Check.test("promise 5: no set but the empty one is left", ChangesBoundsTest::linkOfFacet);
    Check.test("promise 5: a set that is not in a", ChangesBoundsTest::linkOfSetNotThere);
    Check.test("promise 6: d outside its range: refused", ChangesBoundsTest::skeletonDOutside);
    Check.test("promise 6: a outside its range: refused", ChangesBoundsTest::skeletonAOutside);
    Check.test("promise 6: k outside 0 to 5: refused", ChangesBoundsTest::skeletonKOutside);
    Check.test("promise 6: all outside: refused", ChangesBoundsTest::skeletonAllOutside);
    Check.test("promise 6: a register that is read and written", ChangesBoundsTest::skeletonEachRegister);
    Check.test("promise 6: of none", ChangesBoundsTest::skeletonOfEmpty);
    Check.test("promise 6: of all", ChangesBoundsTest::skeletonOfFull);
    Check.test("promise 6: a degree of at most k", ChangesBoundsTest::skeletonAtMostK);
  }

  public static void main(String[] args) {
    addAndTake();
    apply();
    linkAndSkeleton();
    Check.test("promise 17: k outside 0..1: refused", ChangesBoundsTest::levelOutside);
    Check.test("promise 17: else true, and no register changes", ChangesBoundsTest::levelInRange);
    Check.test("promise 17: it shows in no answer", ChangesBoundsTest::levelShowsInNoAnswer);
    Check.end();
  }
}
