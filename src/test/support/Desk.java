/** A SimplicialDesk whose calls are counted: the document promises nothing after the 512th. */
final class Desk {
  static final int MOST_CALLS = 512;

  interface Call {
    long on(Desk x);
  }

  private final SimplicialDesk real = new SimplicialDesk();
  private int calls = 0;

  private SimplicialDesk next() {
    calls++;
    if (calls > MOST_CALLS) throw new IllegalStateException("the test makes more than 512 calls on one object");
    return real;
  }

  int calls() { return calls; }

  int add(int r, int set) { return next().add(r, set); }
  int take(int r, int set) { return next().take(r, set); }
  boolean apply(int op, int d, int a, int b) { return next().apply(op, d, a, b); }
  boolean link(int d, int a, int set) { return next().link(d, a, set); }
  boolean skeleton(int d, int a, int k) { return next().skeleton(d, a, k); }
  boolean has(int r, int set) { return next().has(r, set); }
  int count(int r, int k) { return next().count(r, k); }
  int balance(int r) { return next().balance(r); }
  int facets(int r) { return next().facets(r); }
  int facet(int r, int k) { return next().facet(r, k); }
  int holes(int r, int k, int p) { return next().holes(r, k, p); }
  int torsion(int r, int k) { return next().torsion(r, k); }
  int relative(int a, int b, int k) { return next().relative(a, b, k); }
  int surface(int r) { return next().surface(r); }
  int pieces(int r) { return next().pieces(r); }
  boolean level(int k) { return next().level(k); }

  /** A new object whose first registers hold these complexes. */
  static Desk with(long... complexes) {
    Desk x = new Desk();
    for (int r = 0; r < complexes.length; r++) {
      long left = complexes[r];
      // From the greatest number down, so that parts need no call of their own.
      for (int set = 63; set > 0; set--) {
        if (Complexes.in(left, set)) {
          x.add(r, set);
          left &= ~Complexes.of(set);
        }
      }
    }
    return x;
  }

  /** Register r holds just this complex: set by set, and by number, so that nothing else can be there. */
  void holds(String when, int r, long complex) {
    for (int set : Complexes.SETS) {
      boolean want = Complexes.in(complex, set);
      if (has(r, set) != want) Check.wrong(when + ": then has(" + r + ", " + set + ") answered " + !want);
    }
    int number = Complexes.in(complex, 63) ? add(r, 63) : take(r, 63);
    Check.due(when + ": the number of sets in " + r, number, Long.bitCount(complex));
  }

  void holdsAll(String when, long... complexes) {
    for (int r = 0; r < complexes.length; r++) holds(when, r, complexes[r]);
  }

  /** The call is answered so and changes no register, whether they are mixed, empty or full. */
  static void refused(String name, long answer, Call call) {
    for (long[] before : new long[][] {Complexes.MIXED, Complexes.FOUR_EMPTY, Complexes.FOUR_FULL}) {
      Desk x = with(before);
      Check.due(name, call.on(x), answer);
      x.holdsAll(name, before);
    }
  }

  static void refused(String name, java.util.function.Predicate<Desk> call) {
    refused(name, 0, x -> call.test(x) ? 1 : 0);
  }
}
