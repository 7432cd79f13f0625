/** 'What it is', 'The public face', 'Terms' and promise 1: each sentence that names a boundary case. */
public final class TermsBoundsTest {
  /** An object with the plane in register 0 and an edge in register 1, and this many calls behind it. */
  private static Desk used(int calls) {
    Desk x = Desk.with(Complexes.PLANE, Complexes.of(3));
    while (x.calls() < calls) {
      if (x.calls() % 3 == 0) x.holes(0, 1, 2);
      else if (x.calls() % 3 == 1) x.add(1, 3);
      else x.take(2, 63);
    }
    return x;
  }

  private static void lastCallChanges() {
    int before = Desk.MOST_CALLS - 1;
    Check.due("add as call 512", used(before).add(1, 4), 4);
    Check.due("take as call 512", used(before).take(1, 1), 1);
    Check.due("apply as call 512", used(before).apply(0, 2, 0, 1), true);
    Check.due("link as call 512", used(before).link(2, 0, 1), true);
    Check.due("skeleton as call 512", used(before).skeleton(2, 0, 1), true);
    Check.due("level as call 512", used(before).level(0), true);
    Check.due("a wrong add as call 512", used(before).add(4, 1), -1);
    Check.due("a wrong apply as call 512", used(before).apply(3, 2, 0, 1), false);
  }

  private static void lastCallAsks() {
    int before = Desk.MOST_CALLS - 1;
    Check.due("has as call 512", used(before).has(0, 7), true);
    Check.due("count as call 512", used(before).count(0, 1), 15);
    Check.due("balance as call 512", used(before).balance(1), 1);
    Check.due("facets as call 512", used(before).facets(0), 10);
    Check.due("facet as call 512", used(before).facet(0, 9), 52);
    Check.due("holes as call 512", used(before).holes(0, 1, 2), 1);
    Check.due("torsion as call 512", used(before).torsion(0, 1), 2);
    Check.due("relative as call 512", used(before).relative(0, 1, 2), 1);
    Check.due("surface as call 512", used(before).surface(0), 1);
    Check.due("pieces as call 512", used(before).pieces(1), 1);
  }

  private static void changesLastTo512() {
    Desk x = used(Desk.MOST_CALLS - 66);
    x.add(2, 15);
    x.apply(SimplicialDesk.UNION, 2, 2, 1);
    x.holds("calls 449 to 512", 2, Complexes.of(15));
  }

  private static void constants() {
    Check.due("BAD", SimplicialDesk.BAD, -1);
    Check.due("NONE", SimplicialDesk.NONE, -2);
    Check.due("UNION", SimplicialDesk.UNION, 0);
    Check.due("MEET", SimplicialDesk.MEET, 1);
    Check.due("DUAL", SimplicialDesk.DUAL, 2);
  }

  private static void firstAndLastVertex() {
    Desk x = new Desk();
    Check.due("add vertex 0", x.add(0, 1), 1);
    Check.due("add vertex 5", x.add(0, 32), 2);
    x.holds("vertices 0 and 5", 0, Complexes.of(1, 32));
    Check.due("add vertices 0 and 5 as a set", x.add(0, 33), 3);
    x.holds("the set of vertices 0 and 5", 0, Complexes.of(33));
  }

  private static void firstAndLastSet() {
    Desk.refused("no set 0", -1, x -> x.add(0, 0));
    Desk.refused("no set 64", -1, x -> x.add(0, 64));
    Desk x = new Desk();
    Check.due("set 1", x.add(0, 1), 1);
    Check.due("set 63", x.add(1, 63), 63);
    x.holdsAll("sets 1 and 63", Complexes.of(1), Complexes.FULL);
  }

  private static void degreesOfAllSets() {
    for (int set : Complexes.SETS) {
      Desk x = Desk.with(Complexes.of(set));
      int degree = Complexes.degree(set);
      Check.due("set " + set + " in its degree", x.count(0, degree), 1);
      if (degree < 5) Check.due("set " + set + " above its degree", x.count(0, degree + 1), 0);
      if (degree > 0) Check.due("set " + set + " below its degree", x.count(0, degree - 1), degree + 1);
    }
  }

  private static void allPartsButTheEmptyOne() {
    for (int set : Complexes.SETS) {
      Desk x = new Desk();
      Check.due("add " + set, x.add(0, set), (1 << Integer.bitCount(set)) - 1);
      x.holds("add " + set, 0, Complexes.of(set));
      Check.due("the empty part of " + set, x.has(0, 0), false);
    }
  }

  private static void eachRegisterHoldsItsOwn() {
    for (int r : Complexes.REGISTERS) {
      Desk x = new Desk();
      Check.due("add to " + r, x.add(r, 42), 7);
      for (int other : Complexes.REGISTERS) {
        x.holds("42 in " + r, other, other == r ? Complexes.of(42) : Complexes.EMPTY);
      }
    }
  }

  private static void edgeOfDegreeNought() {
    for (int n = 1; n <= 6; n++) {
      for (int p : Complexes.FIELDS) {
        for (int level : Complexes.LEVELS) {
          Desk x = new Desk();
          x.level(level);
          for (int v = 0; v < n; v++) x.add(0, 1 << v);
          Check.due(n + " vertices: holes(0, 0, " + p + ")", x.holes(0, 0, p), n);
        }
      }
    }
  }

  private static void edgeOfLeastDegreeAboveNought() {
    for (int p : Complexes.FIELDS) {
      for (int one = 0; one < 5; one++) {
        for (int other = one + 1; other < 6; other++) {
          int set = 1 << one | 1 << other;
          Desk x = Desk.with(Complexes.of(set));
          Check.due("set " + set + ": holes(0, 0, " + p + ")", x.holes(0, 0, p), 1);
          Check.due("set " + set + ": holes(0, 1, " + p + ")", x.holes(0, 1, p), 0);
        }
      }
    }
  }

  private static void edgeOfGreatestDegree() {
    for (int p : Complexes.FIELDS) {
      for (int level : Complexes.LEVELS) {
        Desk x = Desk.with(Complexes.ALL_BUT_THE_WHOLE);
        x.level(level);
        Check.due("all but 63: holes(0, 4, " + p + ")", x.holes(0, 4, p), 1);
        Check.due("all but 63: holes(0, 5, " + p + ")", x.holes(0, 5, p), 0);
        x.add(0, 63);
        Check.due("all: holes(0, 4, " + p + ")", x.holes(0, 4, p), 0);
        Check.due("all: holes(0, 5, " + p + ")", x.holes(0, 5, p), 0);
      }
    }
  }

  private static void newRegistersAreEmpty() {
    new Desk().holdsAll("new", Complexes.FOUR_EMPTY);
  }

  private static void newObjectAnswers() {
    for (int r : Complexes.REGISTERS) {
      Desk x = new Desk();
      for (int k : Complexes.DEGREES) {
        Check.due("new: count(" + r + ", " + k + ")", x.count(r, k), 0);
        Check.due("new: torsion(" + r + ", " + k + ")", x.torsion(r, k), 1);
        for (int p : Complexes.FIELDS) Check.due("new: holes(" + r + ", " + k + ", " + p + ")", x.holes(r, k, p), 0);
        for (int b : Complexes.REGISTERS) Check.due("new: relative(" + r + ", " + b + ", " + k + ")", x.relative(r, b, k), 0);
      }
      Check.due("new: balance(" + r + ")", x.balance(r), 0);
      Check.due("new: facets(" + r + ")", x.facets(r), 0);
      Check.due("new: facet(" + r + ", 0)", x.facet(r, 0), -2);
      Check.due("new: surface(" + r + ")", x.surface(r), 0);
      Check.due("new: pieces(" + r + ")", x.pieces(r), 0);
    }
  }

  private static void objectsShareNothing() {
    Desk one = new Desk();
    for (int r : Complexes.REGISTERS) one.add(r, 63);
    new Desk().holdsAll("new, beside a full one", Complexes.FOUR_EMPTY);
    Desk other = Desk.with(Complexes.MIXED);
    other.take(0, 1);
    one.holdsAll("full, beside a changed one", Complexes.FOUR_FULL);
  }

  public static void main(String[] args) {
    Check.test("at most 512 calls: the last one changes", TermsBoundsTest::lastCallChanges);
    Check.test("at most 512 calls: the last one asks", TermsBoundsTest::lastCallAsks);
    Check.test("at most 512 calls: what was changed is held to the last one", TermsBoundsTest::changesLastTo512);
    Check.test("the public face: constants", TermsBoundsTest::constants);
    Check.test("6 VERTICES, 0 to 5", TermsBoundsTest::firstAndLastVertex);
    Check.test("a SET is a number from 1 to 63", TermsBoundsTest::firstAndLastSet);
    Check.test("its DEGREE (0 to 5)", TermsBoundsTest::degreesOfAllSets);
    Check.test("with every set all its parts but the empty one", TermsBoundsTest::allPartsButTheEmptyOne);
    Check.test("4 REGISTERS, 0 to 3", TermsBoundsTest::eachRegisterHoldsItsOwn);
    Check.test("the EDGE of a set of degree 0 is 0", TermsBoundsTest::edgeOfDegreeNought);
    Check.test("the EDGE of a set of degree k above 0: 1", TermsBoundsTest::edgeOfLeastDegreeAboveNought);
    Check.test("the EDGE of a set of degree k above 0: 5", TermsBoundsTest::edgeOfGreatestDegree);
    Check.test("promise 1: at first the empty one", TermsBoundsTest::newRegistersAreEmpty);
    Check.test("promise 1: each question to a new object", TermsBoundsTest::newObjectAnswers);
    Check.test("promise 1: a new object beside others", TermsBoundsTest::objectsShareNothing);
    Check.end();
  }
}
