import java.util.ArrayList;
import java.util.List;

/** Promises 1 and 17: the answers stay the same, whatever calls of level came before. */
public final class LevelTest {
  /** No calls, right ones, refused ones, and refused ones between right ones. */
  private static final int[][] HISTORIES = {{}, {0}, {1}, {-1}, {2}, {0, 1}, {1, 0}, {0, 0}, {1, 1}, {0, 2}, {0, -1},
      {1, 2}, {1, -1}, {2, 0}, {-1, 1}, {0, 256, 0}, {0, 257, 1}, {1, 256}, {1, 257, 0}, {0, Integer.MIN_VALUE},
      {0, Integer.MIN_VALUE + 1}, {1, Integer.MIN_VALUE}, {0, Integer.MAX_VALUE}, {1, Integer.MAX_VALUE},
      {0, 1, 2, 0, -1, 1, 3, 0}};

  /** Left of the plane when a facet goes: a band that is turned once, whose rim is the circle of that facet. */
  private static final long BAND = Complexes.without(Complexes.PLANE, 7);

  private static final long[][] FILLINGS = {
      Complexes.FOUR_EMPTY, Complexes.FOUR_FULL, Complexes.MIXED,
      {BAND, Complexes.CIRCLE, Complexes.dual(Complexes.PLANE), Complexes.dual(BAND)},
      {Complexes.OCTAHEDRON, Complexes.ALL_BUT_THE_WHOLE, Complexes.SIX_VERTICES, Complexes.of(3, 6, 5, 24, 48, 40)},
      {Complexes.skeleton(Complexes.FULL, 1), Complexes.skeleton(Complexes.FULL, 2), Complexes.skeleton(Complexes.FULL, 3),
          Complexes.of(7, 11, 13, 14, 48)}};

  /** What is asked or changed, one call after the other; before each the history can be gone through once more. */
  private static final class Run {
    final int[] history;
    final boolean everyTime;
    final Desk desk;
    final List<String> calls = new ArrayList<>();
    final List<Long> answers = new ArrayList<>();

    Run(Desk desk, int[] history, boolean everyTime) {
      this.desk = desk;
      this.history = history;
      this.everyTime = everyTime;
      levels(desk, history);
    }

    void call(String name, Desk.Call call) {
      // The history's last calls suffice, so that no object is called more often than the document allows.
      if (everyTime) for (int i = Math.max(0, history.length - 2); i < history.length; i++) desk.level(history[i]);
      calls.add(name);
      answers.add(call.on(desk));
    }

    void sameAs(String when, Run other) {
      for (int i = 0; i < calls.size(); i++) Check.due(when + ": " + calls.get(i), answers.get(i), other.answers.get(i));
    }
  }

  private static void levels(Desk x, int[] history) {
    for (int k : history) Check.due("level(" + k + ")", x.level(k), k == 0 || k == 1);
  }

  private static void askSets(Run run, int r) {
    for (int set : Complexes.SETS) run.call("has(" + r + ", " + set + ")", x -> x.has(r, set) ? 1 : 0);
    for (int k : Complexes.DEGREES) run.call("count(" + r + ", " + k + ")", x -> x.count(r, k));
    for (int k = -1; k <= 20; k++) {
      int number = k;
      run.call("facet(" + r + ", " + k + ")", x -> x.facet(r, number));
    }
    run.call("facets(" + r + ")", x -> x.facets(r));
    run.call("balance(" + r + ")", x -> x.balance(r));
    run.call("pieces(" + r + ")", x -> x.pieces(r));
  }

  private static void askChains(Run run, int r) {
    for (int k : Complexes.DEGREES) {
      for (int p : Complexes.FIELDS) run.call("holes(" + r + ", " + k + ", " + p + ")", x -> x.holes(r, k, p));
      for (int b : Complexes.REGISTERS) run.call("relative(" + r + ", " + b + ", " + k + ")", x -> x.relative(r, b, k));
      run.call("torsion(" + r + ", " + k + ")", x -> x.torsion(r, k));
    }
    run.call("surface(" + r + ")", x -> x.surface(r));
  }

  private static void change(Run run) {
    run.call("add(0, 42)", x -> x.add(0, 42));
    run.call("take(1, 4)", x -> x.take(1, 4));
    run.call("take(2, 9)", x -> x.take(2, 9));
    run.call("add(3, 13)", x -> x.add(3, 13));
    run.call("apply(0, 0, 0, 3)", x -> x.apply(0, 0, 0, 3) ? 1 : 0);
    run.call("apply(1, 1, 2, 1)", x -> x.apply(1, 1, 2, 1) ? 1 : 0);
    run.call("apply(2, 2, 1, 0)", x -> x.apply(2, 2, 1, 0) ? 1 : 0);
    run.call("link(3, 2, 2)", x -> x.link(3, 2, 2) ? 1 : 0);
    run.call("skeleton(2, 2, 2)", x -> x.skeleton(2, 2, 2) ? 1 : 0);
    for (int r : Complexes.REGISTERS) run.call("add(" + r + ", 1)", x -> x.add(r, 1));
  }

  private static void wrongCalls(Run run) {
    run.call("add(4, 1)", x -> x.add(4, 1));
    run.call("take(0, 64)", x -> x.take(0, 64));
    run.call("apply(3, 0, 0, 0)", x -> x.apply(3, 0, 0, 0) ? 1 : 0);
    run.call("link(0, 1, 0)", x -> x.link(0, 1, 0) ? 1 : 0);
    run.call("skeleton(0, 1, 6)", x -> x.skeleton(0, 1, 6) ? 1 : 0);
    run.call("has(-1, 1)", x -> x.has(-1, 1) ? 1 : 0);
    run.call("count(0, 6)", x -> x.count(0, 6));
    run.call("balance(4)", x -> x.balance(4));
    run.call("facets(-1)", x -> x.facets(-1));
    run.call("facet(4, 0)", x -> x.facet(4, 0));
    run.call("holes(0, 0, 1)", x -> x.holes(0, 0, 1));
    run.call("torsion(0, -1)", x -> x.torsion(0, -1));
    run.call("relative(0, 4, 0)", x -> x.relative(0, 4, 0));
    run.call("surface(4)", x -> x.surface(4));
    run.call("pieces(-1)", x -> x.pieces(-1));
  }

  private interface Part {
    void of(Run run, int r);
  }

  private static Run run(Part part, int r, long[] filling, int[] history, boolean everyTime) {
    Run run = new Run(Desk.with(filling), history, everyTime);
    part.of(run, r);
    return run;
  }

  private static void same(Part part) {
    for (long[] filling : FILLINGS) {
      for (int r : Complexes.REGISTERS) {
        Run plain = run(part, r, filling, new int[0], false);
        for (int[] history : HISTORIES) {
          String when = "after the levels " + java.util.Arrays.toString(history);
          run(part, r, filling, history, false).sameAs(when, plain);
          run(part, r, filling, history, true).sameAs(when + " before each call", plain);
        }
      }
    }
  }

  /** The calls of level come first of all, while the registers are empty still. */
  private static void levelsOfANewObject() {
    for (int[] history : HISTORIES) {
      String when = "a new object after the levels " + java.util.Arrays.toString(history);
      for (int r : Complexes.REGISTERS) {
        Desk x = new Desk();
        levels(x, history);
        Run empty = new Run(x, new int[0], false);
        askChains(empty, r);
        empty.sameAs(when, run(LevelTest::askChains, r, Complexes.FOUR_EMPTY, new int[0], false));
        for (int facet : new int[] {7, 13, 25, 49, 35, 22, 44, 26, 52, 42}) x.add(r, facet);
        Run filled = new Run(x, new int[0], false);
        askChains(filled, r);
        long[] plane = new long[4];
        plane[r] = Complexes.PLANE;
        filled.sameAs(when + ", then filled", run(LevelTest::askChains, r, plane, new int[0], false));
      }
    }
  }

  /** That all histories give the same answers is of no use if these are wrong. */
  private static void dueAtEachLevel() {
    for (int[] history : HISTORIES) {
      Desk x = Desk.with(BAND, Complexes.CIRCLE, Complexes.PLANE, Complexes.OCTAHEDRON);
      levels(x, history);
      String when = "after the levels " + java.util.Arrays.toString(history) + ": ";
      Check.due(when + "a turned band to its rim, 0", x.relative(0, 1, 0), 0);
      Check.due(when + "a turned band to its rim, 1", x.relative(0, 1, 1), 1);
      Check.due(when + "a turned band to its rim, 2", x.relative(0, 1, 2), 1);
      Check.due(when + "the plane, fractions, 2", x.holes(2, 2, 0), 0);
      Check.due(when + "the plane, modulo 2, 2", x.holes(2, 2, 2), 1);
      Check.due(when + "the plane, modulo 3, 2", x.holes(2, 2, 3), 0);
      Check.due(when + "the plane, modulo 5, 2", x.holes(2, 2, 5), 0);
      Check.due(when + "the plane's torsion, 1", x.torsion(2, 1), 2);
      Check.due(when + "the plane's surface", x.surface(2), 1);
      Check.due(when + "the octahedron's surface", x.surface(3), 2);
    }
  }

  public static void main(String[] args) {
    Check.test("promise 17: it shows in no answer about sets", () -> same(LevelTest::askSets));
    Check.test("promise 17: it shows in no answer about chains", () -> same(LevelTest::askChains));
    Check.test("promise 17: it shows in no change", () -> same((run, r) -> {
      change(run);
      askSets(run, r);
    }));
    Check.test("promise 17: it shows in no answer to a wrong call", () -> same((run, r) -> {
      wrongCalls(run);
      askSets(run, r);
    }));
    Check.test("promise 1: it shows in no answer of a new object", LevelTest::levelsOfANewObject);
    Check.test("promise 17: the answers are right, whatever calls of level came before", LevelTest::dueAtEachLevel);
    Check.end();
  }
}
