/** Promises 12 to 15, the questions about chains: each sentence that names a boundary case. */
public final class HolesBoundsTest {
  private static final int BAD = -1;
  private static final int[] MOST_HOLES = {6, 10, 10, 5, 1, 0};

  private static Desk at(int level, long... complexes) {
    Desk x = Desk.with(complexes);
    x.level(level);
    return x;
  }

  // Promise 12: holes

  private static String name(int r, int k, int p) {
    return "holes(" + r + ", " + k + ", " + p + ")";
  }

  private static void holesRegisterOutside() {
    for (int r : Complexes.NO_REGISTER) {
      for (int k : Complexes.DEGREES) {
        for (int p : Complexes.FIELDS) Desk.refused(name(r, k, p), BAD, x -> x.holes(r, k, p));
      }
    }
  }

  private static void holesKOutside() {
    for (int k : Complexes.NO_DEGREE) {
      for (int r : Complexes.REGISTERS) {
        for (int p : Complexes.FIELDS) Desk.refused(name(r, k, p), BAD, x -> x.holes(r, k, p));
      }
    }
  }

  private static void holesAnotherP() {
    for (int p : Complexes.NO_FIELD) {
      for (int r : Complexes.REGISTERS) {
        for (int k : Complexes.DEGREES) Desk.refused(name(r, k, p), BAD, x -> x.holes(r, k, p));
      }
    }
    for (int level : Complexes.LEVELS) {
      for (int p = -64; p <= 64; p++) {
        boolean field = p == 0 || p == 2 || p == 3 || p == 5;
        Check.due("an edge: " + name(0, 0, p), at(level, Complexes.of(3)).holes(0, 0, p), field ? 1 : BAD);
      }
    }
  }

  private static void holesAllOutside() {
    for (int r : Complexes.NO_REGISTER) {
      for (int k : Complexes.NO_DEGREE) Desk.refused(name(r, k, 1), BAD, x -> x.holes(r, k, 1));
    }
  }

  /** H(0) to H(5) have these dimensions over the field at both levels, in whichever register; those not given are 0. */
  private static void holesAre(String what, long complex, int p, int... due) {
    for (int level : Complexes.LEVELS) {
      for (int r : Complexes.REGISTERS) {
        long[] four = new long[4];
        four[r] = complex;
        Desk x = at(level, four);
        for (int k : Complexes.DEGREES) {
          Check.due(what + ": level " + level + " " + name(r, k, p), x.holes(r, k, p), k < due.length ? due[k] : 0);
        }
      }
    }
  }

  private static void holesOfEmpty() {
    for (int p : Complexes.FIELDS) holesAre("none", Complexes.EMPTY, p);
  }

  private static void holesOfFull() {
    for (int p : Complexes.FIELDS) holesAre("all", Complexes.FULL, p, 1);
  }

  private static void holesOfOneSet() {
    for (int set : Complexes.SETS) {
      for (int p : Complexes.FIELDS) holesAre("set " + set, Complexes.of(set), p, 1);
    }
  }

  private static void mostHoles() {
    for (int p : Complexes.FIELDS) {
      holesAre("six vertices", Complexes.SIX_VERTICES, p, 6);
      for (int k = 1; k <= 5; k++) {
        int[] due = new int[6];
        due[0] = 1;
        due[k] = MOST_HOLES[k];
        holesAre("skeleton " + k + " of all", Complexes.skeleton(Complexes.FULL, k), p, due);
      }
    }
  }

  private static void holesOfFractions() {
    holesAre("the plane", Complexes.PLANE, 0, 1);
    holesAre("the dual of the plane", Complexes.dual(Complexes.PLANE), 0, 1);
  }

  private static void holesModuloTwo() {
    holesAre("the plane", Complexes.PLANE, 2, 1, 1, 1);
    holesAre("the dual of the plane", Complexes.dual(Complexes.PLANE), 2, 1, 1, 1);
  }

  private static void holesModuloThree() {
    holesAre("the plane", Complexes.PLANE, 3, 1);
    holesAre("the dual of the plane", Complexes.dual(Complexes.PLANE), 3, 1);
  }

  private static void holesModuloFive() {
    holesAre("the plane", Complexes.PLANE, 5, 1);
    holesAre("the dual of the plane", Complexes.dual(Complexes.PLANE), 5, 1);
  }

  // Promise 13: torsion

  private static void torsionRegisterOutside() {
    for (int r : Complexes.NO_REGISTER) {
      for (int k : Complexes.DEGREES) Desk.refused("torsion(" + r + ", " + k + ")", BAD, x -> x.torsion(r, k));
    }
  }

  private static void torsionKOutside() {
    for (int r : Complexes.REGISTERS) {
      for (int k : Complexes.NO_DEGREE) Desk.refused("torsion(" + r + ", " + k + ")", BAD, x -> x.torsion(r, k));
    }
  }

  private static void torsionBothOutside() {
    for (int r : Complexes.NO_REGISTER) {
      for (int k : Complexes.NO_DEGREE) Desk.refused("torsion(" + r + ", " + k + ")", BAD, x -> x.torsion(r, k));
    }
  }

  private static void torsionIs(String what, long complex, int degree, int due) {
    for (int level : Complexes.LEVELS) {
      for (int r : Complexes.REGISTERS) {
        long[] four = new long[4];
        four[r] = complex;
        Desk x = at(level, four);
        for (int k : Complexes.DEGREES) {
          Check.due(what + ": torsion(" + r + ", " + k + ")", x.torsion(r, k), k == degree ? due : 1);
        }
      }
    }
  }

  private static void torsionOfEmptyAndFull() {
    torsionIs("none", Complexes.EMPTY, 0, 1);
    torsionIs("all", Complexes.FULL, 0, 1);
  }

  private static void torsionOnlyNought() {
    torsionIs("a vertex", Complexes.of(1), 0, 1);
    torsionIs("six vertices", Complexes.SIX_VERTICES, 0, 1);
    torsionIs("a circle", Complexes.CIRCLE, 0, 1);
    torsionIs("an octahedron", Complexes.OCTAHEDRON, 0, 1);
    torsionIs("the plane less a facet", Complexes.without(Complexes.PLANE, 7), 0, 1);
    for (int k : Complexes.DEGREES) torsionIs("skeleton " + k + " of all", Complexes.skeleton(Complexes.FULL, k), 0, 1);
  }

  private static void torsionOfThePlane() {
    torsionIs("the plane", Complexes.PLANE, 1, 2);
    torsionIs("the dual of the plane", Complexes.dual(Complexes.PLANE), 1, 2);
  }

  /** All that the plane is asked, its vertices in each of the 720 orders: signs and places differ, the answers do not. */
  private static void planesInEveryOrder() {
    for (int code = 0; code < 720; code++) {
      long plane = Complexes.inOrder(Complexes.PLANE, code);
      for (int level : Complexes.LEVELS) {
        Desk x = at(level, plane);
        String what = "order " + code + ", level " + level + ": ";
        for (int k : Complexes.DEGREES) {
          Check.due(what + "torsion(0, " + k + ")", x.torsion(0, k), k == 1 ? 2 : 1);
          for (int p : Complexes.FIELDS) {
            int due = k == 0 || p == 2 && k <= 2 ? 1 : 0;
            Check.due(what + name(0, k, p), x.holes(0, k, p), due);
          }
        }
        Check.due(what + "surface(0)", x.surface(0), 1);
      }
    }
  }

  // Promise 14: relative

  private static String relativeName(int a, int b, int k) {
    return "relative(" + a + ", " + b + ", " + k + ")";
  }

  private static void relativeAOutside() {
    for (int a : Complexes.NO_REGISTER) {
      for (int b : Complexes.REGISTERS) {
        for (int k : Complexes.DEGREES) Desk.refused(relativeName(a, b, k), BAD, x -> x.relative(a, b, k));
      }
    }
  }

  private static void relativeBOutside() {
    for (int b : Complexes.NO_REGISTER) {
      for (int a : Complexes.REGISTERS) {
        for (int k : Complexes.DEGREES) Desk.refused(relativeName(a, b, k), BAD, x -> x.relative(a, b, k));
      }
    }
  }

  private static void relativeKOutside() {
    for (int k : Complexes.NO_DEGREE) {
      for (int a : Complexes.REGISTERS) {
        for (int b : Complexes.REGISTERS) Desk.refused(relativeName(a, b, k), BAD, x -> x.relative(a, b, k));
      }
    }
  }

  private static void relativeAllOutside() {
    for (int n : Complexes.NO_REGISTER) {
      for (int k : Complexes.NO_DEGREE) Desk.refused(relativeName(n, n, k), BAD, x -> x.relative(n, n, k));
    }
  }

  private static void relativeIs(String what, long a, long b, int... due) {
    for (int level : Complexes.LEVELS) {
      Desk x = at(level, a, b);
      for (int k : Complexes.DEGREES) {
        Check.due(what + ": level " + level + " " + relativeName(0, 1, k), x.relative(0, 1, k), k < due.length ? due[k] : 0);
      }
    }
  }

  private static void relativeToItself() {
    for (int level : Complexes.LEVELS) {
      for (long one : new long[] {Complexes.EMPTY, Complexes.FULL, Complexes.PLANE, Complexes.SIX_VERTICES}) {
        for (int r : Complexes.REGISTERS) {
          Desk x = at(level, one, one, one, one);
          for (int k : Complexes.DEGREES) Check.due(one + ": " + relativeName(r, r, k), x.relative(r, r, k), 0);
        }
      }
    }
  }

  private static void relativeToEmpty() {
    relativeIs("none to none", Complexes.EMPTY, Complexes.EMPTY);
    relativeIs("all to none", Complexes.FULL, Complexes.EMPTY, 1);
    relativeIs("the plane to none", Complexes.PLANE, Complexes.EMPTY, 1, 1, 1);
    relativeIs("six vertices to none", Complexes.SIX_VERTICES, Complexes.EMPTY, 6);
  }

  private static void relativeToFull() {
    relativeIs("none to all", Complexes.EMPTY, Complexes.FULL);
    relativeIs("the plane to all", Complexes.PLANE, Complexes.FULL);
    relativeIs("all to all", Complexes.FULL, Complexes.FULL);
  }

  private static void relativeLeastAndGreatestDegree() {
    relativeIs("all to all but 63", Complexes.FULL, Complexes.ALL_BUT_THE_WHOLE, 0, 0, 0, 0, 0, 1);
    relativeIs("six vertices to one", Complexes.SIX_VERTICES, Complexes.of(32), 5);
    relativeIs("a vertex to another", Complexes.of(1), Complexes.of(2), 1);
    for (int k = 0; k < 5; k++) {
      int[] due = new int[6];
      due[k + 1] = new int[] {6, 15, 20, 15, 6, 1}[k + 1];
      relativeIs("degrees up to " + (k + 1) + " to those below",
          Complexes.skeleton(Complexes.FULL, k + 1), Complexes.skeleton(Complexes.FULL, k), due);
    }
  }

  /** Of one set and its parts only the set itself is left: it is closed and no edge. */
  private static void relativeOneSetLeft() {
    for (int set : Complexes.SETS) {
      int[] due = new int[6];
      due[Complexes.degree(set)] = 1;
      relativeIs("set " + set + " to its other parts", Complexes.of(set), Complexes.of(set) & ~(1L << set), due);
    }
  }

  /** Only the set and one part are left, whose one multiple is the set's edge: so every part of every edge plays its part. */
  private static void relativeOneSetAndOnePartLeft() {
    for (int set : Complexes.SETS) {
      for (int v = 0; v < 6; v++) {
        int part = set & ~(1 << v);
        if (part != set && part != 0) {
          long left = 1L << set | 1L << part;
          relativeIs("set " + set + " to all but its part " + part, Complexes.of(set), Complexes.of(set) & ~left);
        }
      }
    }
  }

  private static void relativeOnlySetsInA() {
    relativeIs("a set of degree 1 to its ends", Complexes.of(3), Complexes.of(1, 2), 0, 1);
    relativeIs("to its ends, joined outside a", Complexes.of(3), Complexes.of(5, 6), 0, 1);
    relativeIs("to what shares nothing with it", Complexes.of(3), Complexes.of(60), 1);
    relativeIs("a circle to one that shares a vertex", Complexes.CIRCLE, Complexes.of(9, 24, 17), 0, 1);
  }

  // Promise 15: surface

  private static void surfaceOutside() {
    for (int r : Complexes.NO_REGISTER) Desk.refused("surface(" + r + ")", BAD, x -> x.surface(r));
  }

  private static void surfaceIs(String what, long complex, int due) {
    for (int level : Complexes.LEVELS) {
      for (int r : Complexes.REGISTERS) {
        long[] four = new long[4];
        four[r] = complex;
        Check.due(what + ": level " + level + " surface(" + r + ")", at(level, four).surface(r), due);
      }
    }
  }

  private static void surfaceOfEmpty() {
    surfaceIs("none", Complexes.EMPTY, 0);
  }

  private static void surfaceOfFull() {
    surfaceIs("all", Complexes.FULL, 0);
  }

  private static void surfaceOfOneSet() {
    for (int set : Complexes.SETS) surfaceIs("set " + set, Complexes.of(set), 0);
  }

  private static void surfaceOfDegreeNought() {
    surfaceIs("a vertex", Complexes.of(1), 0);
    surfaceIs("two vertices", Complexes.of(1, 32), 0);
    surfaceIs("six vertices", Complexes.SIX_VERTICES, 0);
  }

  private static void surfaceOfUnlikeDegrees() {
    surfaceIs("a circle and a vertex", Complexes.of(3, 6, 5, 8), 0);
    surfaceIs("a tetrahedron's faces and a set of degree 1", Complexes.of(7, 11, 13, 14, 48), 0);
    surfaceIs("a tetrahedron's faces and a vertex", Complexes.of(7, 11, 13, 14, 32), 0);
    surfaceIs("a circle and a triangle", Complexes.of(3, 6, 5, 56), 0);
  }

  private static void surfaceWithAPartOfOneFacet() {
    surfaceIs("a path", Complexes.of(3, 6), 0);
    surfaceIs("three of a tetrahedron's faces", Complexes.of(7, 11, 13), 0);
    surfaceIs("an octahedron less a facet", Complexes.without(Complexes.OCTAHEDRON, 42), 0);
    surfaceIs("the plane less a facet", Complexes.without(Complexes.PLANE, 7), 0);
    surfaceIs("all but 63 less a facet", Complexes.without(Complexes.ALL_BUT_THE_WHOLE, 62), 0);
  }

  private static void surfaceWithAPartOfMoreFacets() {
    surfaceIs("three triangles at one set of degree 1", Complexes.of(7, 11, 19), 0);
    surfaceIs("a circle with a chord", Complexes.of(3, 6, 12, 9, 5), 0);
    surfaceIs("two circles with a common vertex", Complexes.of(3, 6, 5, 9, 24, 17), 0);
    surfaceIs("two tetrahedra's faces with a common triangle", Complexes.of(7, 11, 13, 14, 19, 21, 22), 0);
    surfaceIs("all triangles", Complexes.skeleton(Complexes.FULL, 2), 0);
  }

  private static void surfaceWithSigns() {
    surfaceIs("a circle of three", Complexes.CIRCLE, 2);
    surfaceIs("a circle of six", Complexes.of(3, 6, 12, 24, 48, 33), 2);
    surfaceIs("two circles apart", Complexes.of(3, 6, 5, 24, 48, 40), 2);
    surfaceIs("a tetrahedron's faces", Complexes.of(7, 11, 13, 14), 2);
    surfaceIs("an octahedron", Complexes.OCTAHEDRON, 2);
    surfaceIs("two tetrahedra's faces joined at a triangle left out", Complexes.of(11, 13, 14, 19, 21, 22), 2);
    surfaceIs("degree 3", Complexes.of(15, 23, 27, 29, 30), 2);
    surfaceIs("degree 4, the greatest that can be", Complexes.ALL_BUT_THE_WHOLE, 2);
  }

  private static void surfaceWithoutSigns() {
    surfaceIs("the plane", Complexes.PLANE, 1);
    surfaceIs("the dual of the plane", Complexes.dual(Complexes.PLANE), 1);
  }

  private static void questionsChangeNothing() {
    for (int level : Complexes.LEVELS) {
      for (int r : Complexes.REGISTERS) {
        Desk x = at(level, Complexes.MIXED);
        for (int k : Complexes.DEGREES) {
          for (int p : Complexes.FIELDS) x.holes(r, k, p);
          x.torsion(r, k);
          x.relative(r, 3 - r, k);
        }
        x.surface(r);
        x.holdsAll("each question about chains to " + r, Complexes.MIXED);
      }
    }
  }

  private static void holes() {
    Check.test("promise 12: r outside 0..3: BAD", HolesBoundsTest::holesRegisterOutside);
    Check.test("promise 12: k outside 0..5: BAD", HolesBoundsTest::holesKOutside);
    Check.test("promise 12: another p: BAD", HolesBoundsTest::holesAnotherP);
    Check.test("promise 12: all outside: BAD", HolesBoundsTest::holesAllOutside);
    Check.test("promise 12: of none", HolesBoundsTest::holesOfEmpty);
    Check.test("promise 12: of all", HolesBoundsTest::holesOfFull);
    Check.test("promise 12: of one set", HolesBoundsTest::holesOfOneSet);
    Check.test("promise 12: the most", HolesBoundsTest::mostHoles);
    Check.test("promise 12: fractions (p = 0)", HolesBoundsTest::holesOfFractions);
    Check.test("promise 12: the rests modulo 2", HolesBoundsTest::holesModuloTwo);
    Check.test("promise 12: the rests modulo 3", HolesBoundsTest::holesModuloThree);
    Check.test("promise 12: the rests modulo 5", HolesBoundsTest::holesModuloFive);
  }

  private static void torsionAndRelative() {
    Check.test("promise 13: r outside 0..3: BAD", HolesBoundsTest::torsionRegisterOutside);
    Check.test("promise 13: k outside 0..5: BAD", HolesBoundsTest::torsionKOutside);
    Check.test("promise 13: both outside: BAD", HolesBoundsTest::torsionBothOutside);
    Check.test("promise 13: of none and of all", HolesBoundsTest::torsionOfEmptyAndFull);
    Check.test("promise 13: (1: only 0)", HolesBoundsTest::torsionOnlyNought);
    Check.test("promise 13: some multiple other than 0 times is 0", HolesBoundsTest::torsionOfThePlane);
    Check.test("promises 12, 13 and 15: whichever vertices are which", HolesBoundsTest::planesInEveryOrder);
    Check.test("promise 14: a outside 0..3: BAD", HolesBoundsTest::relativeAOutside);
    Check.test("promise 14: b outside 0..3: BAD", HolesBoundsTest::relativeBOutside);
    Check.test("promise 14: k outside 0..5: BAD", HolesBoundsTest::relativeKOutside);
    Check.test("promise 14: all outside: BAD", HolesBoundsTest::relativeAllOutside);
    Check.test("promise 14: a and b the same register", HolesBoundsTest::relativeToItself);
    Check.test("promise 14: b is empty", HolesBoundsTest::relativeToEmpty);
    Check.test("promise 14: b is full", HolesBoundsTest::relativeToFull);
    Check.test("promise 14: degrees 0 to 5", HolesBoundsTest::relativeLeastAndGreatestDegree);
    Check.test("promise 14: the sets of b that are in a", HolesBoundsTest::relativeOnlySetsInA);
    Check.test("promise 14: one set is left", HolesBoundsTest::relativeOneSetLeft);
    Check.test("promise 14: one set and one part are left", HolesBoundsTest::relativeOneSetAndOnePartLeft);
  }

  private static void surface() {
    Check.test("promise 15: BAD for r outside 0..3", HolesBoundsTest::surfaceOutside);
    Check.test("promise 15: it is not empty", HolesBoundsTest::surfaceOfEmpty);
    Check.test("promise 15: of all", HolesBoundsTest::surfaceOfFull);
    Check.test("promise 15: of one set", HolesBoundsTest::surfaceOfOneSet);
    Check.test("promise 15: degree k above 0", HolesBoundsTest::surfaceOfDegreeNought);
    Check.test("promise 15: every facet has the same degree", HolesBoundsTest::surfaceOfUnlikeDegrees);
    Check.test("promise 15: just two facets, not one", HolesBoundsTest::surfaceWithAPartOfOneFacet);
    Check.test("promise 15: just two facets, not three or more", HolesBoundsTest::surfaceWithAPartOfMoreFacets);
    Check.test("promise 15: 2 if besides the sum is closed", HolesBoundsTest::surfaceWithSigns);
    Check.test("promise 15: 1 if the sum cannot be closed", HolesBoundsTest::surfaceWithoutSigns);
  }

  public static void main(String[] args) {
    holes();
    torsionAndRelative();
    surface();
    Check.test("promises 12 to 15: a question changes nothing", HolesBoundsTest::questionsChangeNothing);
    Check.end();
  }
}
