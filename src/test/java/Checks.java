/**
 * What the tests share: answers held against those that are due, texts fed, towns to begin with. A
 * test extends it, as nothing can be imported from files without a package.
 */
abstract class Checks {
  static final int NONE = BlessLoan.NONE;
  static final int ALL_PLACES = (1 << 25) - 1;
  static final int LEAST = Integer.MIN_VALUE;
  static final int MOST = Integer.MAX_VALUE;

  private static int wrong = 0;
  private static String now = "";

  /** What is looked at from here on: told with each answer that is not as due. */
  static void of(String what) {
    now = what;
  }

  static void due(String what, long got, long want) {
    if (got != want) {
      wrong++;
      System.out.println(now + ": " + what + " answered " + got + ", due is " + want);
    }
  }

  static void due(String what, String got, String want) {
    if (!got.equals(want)) {
      wrong++;
      System.out.println(now + ": " + what + " answered\n  " + got + ", due is\n  " + want);
    }
  }

  /** Ends the program with 1, if an answer was not as due. */
  static void close(String fine) {
    System.out.println(wrong == 0 ? fine : wrong + " answers are not as due");
    if (wrong != 0) {
      System.exit(1);
    }
  }

  /** The text alone is on the tape then. */
  static void put(BlessLoan x, String text) {
    x.end(0);
    for (int i = 0; i < text.length(); i += 20) {
      int[] five = new int[5];
      for (int k = 0; k < 20; k++) {
        int sign = i + k < text.length() ? text.charAt(i + k) : 0;
        five[k / 4] = five[k / 4] << 8 | sign;
      }
      x.feed(five[0], five[1], five[2], five[3], five[4]);
    }
    due("end(" + text.length() + ")", x.end(text.length()), text.length());
  }

  static int law(BlessLoan x, String text) {
    put(x, text);
    return x.law();
  }

  /** A law that can be read is in force then. */
  static int inForce(BlessLoan x, String text) {
    int law = law(x, text);
    due("law() of " + text + " read", law >= 0 ? 1 : 0, 1);
    x.force(law);
    return law;
  }

  static int orders(BlessLoan x, String text) {
    put(x, text);
    return x.orders();
  }

  static int row(BlessLoan x, String text) {
    put(x, text);
    return x.row();
  }

  /** Where a text as a law has its fault; NONE: it is a law. */
  static void faultOfLaw(String text, int at) {
    BlessLoan x = new BlessLoan();
    int answer = law(x, text);
    due("law() of " + text, answer, at == NONE ? 0 : -6);
    due("fault() of law " + text, x.fault(), at);
    due("count(6) behind law()", x.count(6), 0);
  }

  /** Where a text as orders has its fault; NONE: it is read. */
  static void faultOfOrders(String text, int at) {
    BlessLoan x = new BlessLoan();
    int answer = orders(x, text);
    due("orders() of " + text + " read", answer == -6 ? 0 : 1, at == NONE ? 1 : 0);
    due("fault() of orders " + text, x.fault(), at);
    due("count(6) behind orders()", x.count(6), 0);
  }

  /** Four: 0 at 0, 1 at 1, 2 at 6, 3 at 24. */
  static BlessLoan four() {
    BlessLoan x = new BlessLoan();
    x.person(0, 30, 4, 2);
    x.person(1, 50, 4, 0);
    x.person(6, 50, 1, 5);
    x.person(24, 80, 9, 0);
    return x;
  }

  /** Two beside each other who hear each other: 0 at 12, 1 at 13. */
  static BlessLoan pair() {
    BlessLoan x = new BlessLoan();
    x.person(12, 40, 9, 3);
    x.person(13, 20, 5, 7);
    return x;
  }

  /** Two who hear each other, wherever they are. */
  static BlessLoan pairIn(int one, int other) {
    BlessLoan x = new BlessLoan();
    x.person(one, 40, 9, 3);
    x.person(other, 20, 9, 7);
    return x;
  }

  /** Eight in the place 12, alike. */
  static BlessLoan eight() {
    BlessLoan x = new BlessLoan();
    for (int i = 0; i < 8; i++) {
      x.person(12, 50, 5, 5);
    }
    return x;
  }

  /** The value of a sum by way of "sneezes", which is cut to 0 .. 10. */
  static void sum(String sum, int want) {
    BlessLoan x = pair();
    x.terms(0, 77);
    x.terms(1, 6);
    due("law of " + sum, inForce(x, "sneezes " + sum), 0);
    due("sneezes " + sum, x.of(1, 5), want);
  }

  /** A sum that is broken: the clause ahead of it holds. */
  static void broken(String sum) {
    sum("3; sneezes " + sum, 3);
  }

  /** Whether a test is so by way of "sneezes 9" for it; 0 without, as the first clause holds. */
  static void test(String test, int want) {
    sum("0; sneezes 9 if " + test, want);
  }

  /** What can be told of people, debts, terms, and how many can be undone. */
  static String townOf(BlessLoan x) {
    StringBuilder b = new StringBuilder();
    for (int what : new int[] {0, 1, 2, 3, 4, 5, 12, 13, 14}) {
      b.append(x.count(what)).append(' ');
    }
    for (int i = 0; i < x.count(0); i++) {
      b.append(x.of(i, 0)).append(':');
      for (int k = 0; k < x.count(0); k++) {
        b.append(x.owed(i, k)).append(' ');
      }
    }
    return b.toString();
  }
}
