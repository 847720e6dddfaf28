/** Runs one test for each sentence of the document and tells which ones don't hold. */
final class Sentences {
  interface Test {
    void run();
  }

  private int wrong = 0;
  private int held = 0;

  /** The sentence is told in the document's words. */
  void holds(String sentence, Test test) {
    try {
      test.run();
      held++;
    } catch (AssertionError | RuntimeException e) {
      wrong++;
      System.out.println("does not hold: " + sentence + "\n  " + e);
    }
  }

  void end() {
    System.out.println(held + " sentences hold, " + wrong + " don't");
    if (wrong != 0) {
      System.exit(1);
    }
  }
}
