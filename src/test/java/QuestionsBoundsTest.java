/** Promises 7 to 11, 16 and 18, the questions that count sets: each sentence that names a boundary case. */
public final class QuestionsBoundsTest {
  private static final int BAD = -1;
  private static final int NONE = -2;

  // Promise 7: has

  private static void hasRegisterOutside() {
    for (int r : Complexes.NO_REGISTER) {
      for (int set : Complexes.SETS) Desk.refused("has(" + r + ", " + set + ")", x -> x.has(r, set));
    }
  }

  private static void hasSetOutside() {
    for (int r : Complexes.REGISTERS) {
      for (int set : Complexes.NO_SET) Desk.refused("has(" + r + ", " + set + ")", x -> x.has(r, set));
    }
  }

  private static void hasBothOutside() {
    for (int r : Complexes.NO_REGISTER) {
      for (int set : Complexes.NO_SET) Desk.refused("has(" + r + ", " + set + ")", x -> x.has(r, set));
    }
  }

  private static void hasInEmptyAndFull() {
    for (int r : Complexes.REGISTERS) {
      Desk none = new Desk();
      Desk all = new Desk();
      all.add(r, 63);
      for (int set : Complexes.SETS) {
        Check.due("none: has(" + r + ", " + set + ")", none.has(r, set), false);
        Check.due("all: has(" + r + ", " + set + ")", all.has(r, set), true);
      }
    }
  }

  // Promise 8: count

  private static void countRegisterOutside() {
    for (int r : Complexes.NO_REGISTER) {
      for (int k : Complexes.DEGREES) Desk.refused("count(" + r + ", " + k + ")", BAD, x -> x.count(r, k));
    }
  }

  private static void countKOutside() {
    for (int r : Complexes.REGISTERS) {
      for (int k : Complexes.NO_DEGREE) Desk.refused("count(" + r + ", " + k + ")", BAD, x -> x.count(r, k));
    }
  }

  private static void countBothOutside() {
    for (int r : Complexes.NO_REGISTER) {
      for (int k : Complexes.NO_DEGREE) Desk.refused("count(" + r + ", " + k + ")", BAD, x -> x.count(r, k));
    }
  }

  private static void countOfEmptyAndFull() {
    int[] most = {6, 15, 20, 15, 6, 1};
    for (int r : Complexes.REGISTERS) {
      for (int k : Complexes.DEGREES) {
        Desk x = new Desk();
        Check.due("none: count(" + r + ", " + k + ")", x.count(r, k), 0);
        x.add(r, 63);
        Check.due("all: count(" + r + ", " + k + ")", x.count(r, k), most[k]);
      }
    }
  }

  private static void countOfLeastAndGreatestDegree() {
    Desk x = Desk.with(Complexes.of(32), Complexes.SIX_VERTICES, Complexes.ALL_BUT_THE_WHOLE);
    Check.due("a vertex: count(0, 0)", x.count(0, 0), 1);
    Check.due("a vertex: count(0, 1)", x.count(0, 1), 0);
    Check.due("six vertices: count(1, 0)", x.count(1, 0), 6);
    Check.due("all but 63: count(2, 4)", x.count(2, 4), 6);
    Check.due("all but 63: count(2, 5)", x.count(2, 5), 0);
  }

  // Promise 9: balance

  private static void balanceOutside() {
    for (int r : Complexes.NO_REGISTER) Desk.refused("balance(" + r + ")", 0, x -> x.balance(r));
  }

  private static void balanceOfEmptyAndFull() {
    for (int r : Complexes.REGISTERS) {
      Desk x = new Desk();
      Check.due("none: balance(" + r + ")", x.balance(r), 0);
      x.add(r, 63);
      Check.due("all: balance(" + r + ")", x.balance(r), 1);
    }
  }

  private static void balanceBelowAndAboveNought() {
    int[] due = {6, -9, 11, -4, 2, 1};
    for (int k : Complexes.DEGREES) {
      Desk x = Desk.with(Complexes.skeleton(Complexes.FULL, k));
      Check.due("skeleton " + k + " of all: balance(0)", x.balance(0), due[k]);
    }
    Check.due("a circle: balance(0)", Desk.with(Complexes.CIRCLE).balance(0), 0);
  }

  // Promise 10: facets

  private static void facetsOutside() {
    for (int r : Complexes.NO_REGISTER) Desk.refused("facets(" + r + ")", BAD, x -> x.facets(r));
  }

  private static void facetsOfEmptyAndFull() {
    for (int r : Complexes.REGISTERS) {
      Desk x = new Desk();
      Check.due("none: facets(" + r + ")", x.facets(r), 0);
      x.add(r, 63);
      Check.due("all: facets(" + r + ")", x.facets(r), 1);
      x.take(r, 63);
      Check.due("all but 63: facets(" + r + ")", x.facets(r), 6);
    }
  }

  private static void facetsOfOneSet() {
    for (int set : Complexes.SETS) Check.due("set " + set + ": facets(0)", Desk.with(Complexes.of(set)).facets(0), 1);
  }

  private static void mostFacets() {
    Desk x = Desk.with(Complexes.skeleton(Complexes.FULL, 2), Complexes.SIX_VERTICES);
    Check.due("all triangles: facets(0)", x.facets(0), 20);
    Check.due("six vertices: facets(1)", x.facets(1), 6);
  }

  private static void partsOfAnotherAreNoFacets() {
    Desk x = Desk.with(Complexes.of(7, 24, 32));
    Check.due("7, 24, 32: facets(0)", x.facets(0), 3);
    x.add(0, 40);
    Check.due("and 40, which has 32 as a part: facets(0)", x.facets(0), 3);
    x.take(0, 7);
    Check.due("without 7, its three parts are no part of another: facets(0)", x.facets(0), 5);
  }

  // Promise 11: facet

  private static void facetRegisterOutside() {
    for (int r : Complexes.NO_REGISTER) {
      for (int k : new int[] {0, 1, 19, 20, 63}) Desk.refused("facet(" + r + ", " + k + ")", BAD, x -> x.facet(r, k));
    }
  }

  private static void facetRegisterOutsideAndNone() {
    for (int r : Complexes.NO_REGISTER) {
      for (int k : Complexes.NO_DEGREE) Desk.refused("facet(" + r + ", " + k + ")", BAD, x -> x.facet(r, k));
    }
  }

  private static void facetBelowTheFirst() {
    for (int r : Complexes.REGISTERS) {
      for (int k : new int[] {-1, -2, -64, Integer.MIN_VALUE, Integer.MIN_VALUE + 1}) {
        Desk.refused("facet(" + r + ", " + k + ")", NONE, x -> x.facet(r, k));
      }
    }
  }

  private static void facetFarAboveTheLast() {
    for (int r : Complexes.REGISTERS) {
      for (int k : new int[] {20, 63, 64, 256, 65536, 1 << 30, Integer.MAX_VALUE - 1, Integer.MAX_VALUE}) {
        Desk.refused("facet(" + r + ", " + k + ")", NONE, x -> x.facet(r, k));
      }
    }
  }

  /** Just these facets in whichever register, and none before the first or after the last. */
  private static void facetsAre(String what, long complex, int... due) {
    for (int r : Complexes.REGISTERS) {
      long[] four = new long[4];
      four[r] = complex;
      Desk x = Desk.with(four);
      Check.due(what + ": facet(" + r + ", -1)", x.facet(r, -1), NONE);
      for (int k = 0; k < due.length; k++) Check.due(what + ": facet(" + r + ", " + k + ")", x.facet(r, k), due[k]);
      Check.due(what + ": facet(" + r + ", " + due.length + ")", x.facet(r, due.length), NONE);
    }
  }

  private static void facetOfEmptyAndFull() {
    facetsAre("none", Complexes.EMPTY);
    facetsAre("all", Complexes.FULL, 63);
    facetsAre("all but 63", Complexes.ALL_BUT_THE_WHOLE, 31, 47, 55, 59, 61, 62);
  }

  private static void facetOfOneSet() {
    for (int set : Complexes.SETS) facetsAre("set " + set, Complexes.of(set), set);
  }

  private static void facetsAscend() {
    facetsAre("mixed degrees", Complexes.of(7, 24, 32, 12), 7, 12, 24, 32);
    facetsAre("a great set below a small one", Complexes.of(31, 32), 31, 32);
    facetsAre("a small set below a great one", Complexes.of(1, 62), 1, 62);
    facetsAre("six vertices", Complexes.SIX_VERTICES, 1, 2, 4, 8, 16, 32);
    facetsAre("all triangles", Complexes.skeleton(Complexes.FULL, 2),
        7, 11, 13, 14, 19, 21, 22, 25, 26, 28, 35, 37, 38, 41, 42, 44, 49, 50, 52, 56);
  }

  // Promises 16 and 18: pieces

  private static void piecesOutside() {
    for (int r : Complexes.NO_REGISTER) Desk.refused("pieces(" + r + ")", BAD, x -> x.pieces(r));
  }

  private static void piecesOfEmpty() {
    for (int r : Complexes.REGISTERS) {
      Desk x = new Desk();
      Check.due("none: pieces(" + r + ")", x.pieces(r), 0);
      x.add(r, 1);
      x.take(r, 1);
      Check.due("none again: pieces(" + r + ")", x.pieces(r), 0);
    }
  }

  private static void piecesOfFull() {
    for (int r : Complexes.REGISTERS) {
      Desk x = new Desk();
      x.add(r, 63);
      Check.due("all: pieces(" + r + ")", x.pieces(r), 1);
    }
  }

  private static void piecesAreTheGreatestNumber() {
    for (int n = 1; n <= 6; n++) {
      Desk x = new Desk();
      for (int v = 0; v < n; v++) x.add(0, 1 << v);
      Check.due(n + " vertices: pieces(0)", x.pieces(0), n);
    }
    Check.due("three sets of degree 1: pieces(0)", Desk.with(Complexes.of(33, 18, 12)).pieces(0), 3);
    Check.due("a triangle, a set of degree 1 and a vertex: pieces(0)", Desk.with(Complexes.of(21, 34, 8)).pieces(0), 3);
    Check.due("two triangles: pieces(0)", Desk.with(Complexes.of(21, 42)).pieces(0), 2);
  }

  /** Paths through all vertices in every order: what joins the ends may come last. */
  private static void piecesOfPaths() {
    for (int code = 0; code < 720; code++) {
      int[] order = Complexes.order(code);
      Desk x = new Desk();
      for (int i = 0; i < 5; i++) x.add(0, 1 << order[i] | 1 << order[i + 1]);
      Check.due("path " + code + ": pieces(0)", x.pieces(0), 1);
      x.take(0, 1 << order[2] | 1 << order[3]);
      Check.due("path " + code + " cut: pieces(0)", x.pieces(0), 2);
    }
  }

  private static void verticesOutsideDoNotCount() {
    for (int set : Complexes.SETS) Check.due("set " + set + ": pieces(0)", Desk.with(Complexes.of(set)).pieces(0), 1);
    Desk x = Desk.with(Complexes.FULL);
    for (int v = 0; v < 5; v++) {
      x.take(0, 1 << v);
      Check.due("all without vertices up to " + v + ": pieces(0)", x.pieces(0), 1);
    }
  }

  private static void questionsChangeNothing() {
    for (int r : Complexes.REGISTERS) {
      Desk x = Desk.with(Complexes.MIXED);
      x.has(r, 1);
      x.count(r, 0);
      x.balance(r);
      x.facets(r);
      x.facet(r, 0);
      x.pieces(r);
      x.holdsAll("each question to " + r, Complexes.MIXED);
    }
  }

  private static void hasCountBalance() {
    Check.test("promise 7: false for r outside 0..3", QuestionsBoundsTest::hasRegisterOutside);
    Check.test("promise 7: false for set outside 1..63", QuestionsBoundsTest::hasSetOutside);
    Check.test("promise 7: false for both outside", QuestionsBoundsTest::hasBothOutside);
    Check.test("promise 7: in none and in all", QuestionsBoundsTest::hasInEmptyAndFull);
    Check.test("promise 8: r outside 0..3: BAD", QuestionsBoundsTest::countRegisterOutside);
    Check.test("promise 8: k outside 0..5: BAD", QuestionsBoundsTest::countKOutside);
    Check.test("promise 8: both outside: BAD", QuestionsBoundsTest::countBothOutside);
    Check.test("promise 8: of none and of all", QuestionsBoundsTest::countOfEmptyAndFull);
    Check.test("promise 8: degree 0, degree 5", QuestionsBoundsTest::countOfLeastAndGreatestDegree);
    Check.test("promise 9: 0 for r outside 0..3", QuestionsBoundsTest::balanceOutside);
    Check.test("promise 9: of none and of all", QuestionsBoundsTest::balanceOfEmptyAndFull);
    Check.test("promise 9: even degree less odd degree", QuestionsBoundsTest::balanceBelowAndAboveNought);
  }

  private static void facets() {
    Check.test("promise 10: BAD for r outside 0..3", QuestionsBoundsTest::facetsOutside);
    Check.test("promise 10: of none and of all", QuestionsBoundsTest::facetsOfEmptyAndFull);
    Check.test("promise 10: of one set", QuestionsBoundsTest::facetsOfOneSet);
    Check.test("promise 10: the most", QuestionsBoundsTest::mostFacets);
    Check.test("promise 10: no part of another one", QuestionsBoundsTest::partsOfAnotherAreNoFacets);
    Check.test("promise 11: r outside 0..3: BAD", QuestionsBoundsTest::facetRegisterOutside);
    Check.test("promise 11: r outside 0..3: BAD, there being none too", QuestionsBoundsTest::facetRegisterOutsideAndNone);
    Check.test("promise 11: there is none: NONE, below 0", QuestionsBoundsTest::facetBelowTheFirst);
    Check.test("promise 11: there is none: NONE, far above", QuestionsBoundsTest::facetFarAboveTheLast);
    Check.test("promise 11: of none and of all", QuestionsBoundsTest::facetOfEmptyAndFull);
    Check.test("promise 11: of one set", QuestionsBoundsTest::facetOfOneSet);
    Check.test("promise 11: number k, from 0, in ascending order as numbers", QuestionsBoundsTest::facetsAscend);
  }

  public static void main(String[] args) {
    hasCountBalance();
    facets();
    Check.test("promise 16: BAD for r outside 0..3", QuestionsBoundsTest::piecesOutside);
    Check.test("promise 16: of all", QuestionsBoundsTest::piecesOfFull);
    Check.test("promise 16: no set has vertices in two of them", QuestionsBoundsTest::piecesOfPaths);
    Check.test("promise 18: the greatest such number", QuestionsBoundsTest::piecesAreTheGreatestNumber);
    Check.test("promise 18: vertices that are not in the complex do not count", QuestionsBoundsTest::verticesOutsideDoNotCount);
    Check.test("promise 18: 0 for the empty one", QuestionsBoundsTest::piecesOfEmpty);
    Check.test("promises 7 to 11 and 16: a question changes nothing", QuestionsBoundsTest::questionsChangeNothing);
    Check.end();
  }
}
