/** Counts the answers that are not as due, and tells each with the sentence that it breaks. */
final class Check {
  private static String sentence = "";
  private static int tests = 0;
  private static int wrong = 0;

  private Check() { }

  /** One test: the words of the document that it is for, and what fails if they do not hold. */
  static void test(String words, Runnable body) {
    sentence = words;
    tests++;
    try {
      body.run();
    } catch (RuntimeException thrown) {
      wrong("threw " + thrown);
    }
  }

  static void wrong(String what) {
    wrong++;
    if (wrong <= 200) System.out.println(sentence + ": " + what);
  }

  static void due(String call, long got, long want) {
    if (got != want) wrong(call + " answered " + got + ", due is " + want);
  }

  static void due(String call, boolean got, boolean want) {
    if (got != want) wrong(call + " answered " + got + ", due is " + want);
  }

  static void end() {
    System.out.println(tests + " tests, " + (wrong == 0 ? "all answers are as due" : wrong + " answers are not as due"));
    if (wrong != 0) System.exit(1);
  }
}
