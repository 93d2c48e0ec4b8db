import java.util.function.ToLongFunction;

/** The sentences of promises 1 to 44 that name a boundary case, each with a test of its own. */
public final class EdgeTest extends Checks {
  private static final int[] OFF = {-2, 4, 7, 8, LEAST, MOST};
  private static final int[] NOT_0_1 = {-1, 2, LEAST, MOST};

  /** Four people with something of all that there is; 0 .. 2 owe in a ring. */
  private static BlessLoan town() {
    BlessLoan x = four();
    x.dust(3, 7);
    x.lend(0, 1, 5);
    x.lend(1, 2, 3);
    x.lend(2, 0, 4);
    x.lend(3, 0, 99);
    x.mask(2, 1);
    x.terms(0, 500);
    x.terms(1, 4);
    x.seen(0, 1);
    x.seen(2, NONE);
    row(x, "\0");
    inForce(x, "sneezes 5; owes 4");
    law(x, "hears 3");
    x.image(0);
    x.hours(9, 3);
    x.step(0, 5);
    x.pass();
    orders(x, "pass;sneeze 9");
    law(x, "bars bars");
    x.feed(MOST, 0, LEAST, 1, -1);
    return x;
  }

  /** All that can be told of a town without asking its law; what was refused aside. */
  private static String stateOf(BlessLoan x) {
    StringBuilder b = new StringBuilder();
    for (int what : new int[] {0, 1, 2, 3, 4, 5, 6, 12, 13, 14}) {
      b.append(x.count(what)).append(' ');
    }
    for (int place = 0; place < 25; place++) {
      b.append(x.at(place, 0)).append(' ');
    }
    for (int i = 0; i < x.count(0); i++) {
      b.append("| ");
      for (int what = 0; what < 5; what++) {
        b.append(x.of(i, what)).append(' ');
      }
      for (int k = 0; k < x.count(0); k++) {
        b.append(x.owed(i, k)).append(' ');
      }
      b.append(x.drawn(i, 0)).append(' ').append(x.drawn(i, 1)).append(' ').append(x.drawn(i, 2));
    }
    b.append("| ").append(x.fault()).append(' ').append(x.stopped()).append(' ');
    return b.append(x.hiccups()).toString();
  }

  /** A call on a town of its own is refused by a code, is counted as that, and changes nothing. */
  private static void refused(String call, int code, ToLongFunction<BlessLoan> on) {
    BlessLoan x = town();
    int[] counted = countsOf(x);
    String was = stateOf(x);
    due(call, on.applyAsLong(x), code);
    due("status() behind " + call, x.status(), code);
    counted[code < -3 ? -code - 2 : -code - 1]++;
    int[] now = countsOf(x);
    for (int i = 0; i < 5; i++) {
      due("count(" + (7 + i) + ") behind " + call, now[i], counted[i]);
    }
    due("all behind " + call, stateOf(x), was);
  }

  private static int[] countsOf(BlessLoan x) {
    int[] counts = new int[5];
    for (int i = 0; i < 5; i++) {
      counts[i] = x.count(7 + i);
    }
    return counts;
  }

  /** A call on a town of its own is answered without any change, as it is asked of nobody. */
  private static void asked(String call, long answer, ToLongFunction<BlessLoan> on) {
    BlessLoan x = town();
    int[] counted = countsOf(x);
    int status = x.status();
    String was = stateOf(x);
    due(call, on.applyAsLong(x), answer);
    due("status() behind " + call, x.status(), status);
    int[] now = countsOf(x);
    for (int i = 0; i < 5; i++) {
      due("count(" + (7 + i) + ") behind " + call, now[i], counted[i]);
    }
    due("all behind " + call, stateOf(x), was);
  }

  // ---- promises 1 to 10

  private static void newObject() {
    of("A town without people.");
    BlessLoan x = new BlessLoan();
    int[] counts = {0, 0, 0, 0, 0, 0, 0, 0, 0, 0, 0, 0, NONE, 0, 0};
    for (int what = 0; what < 15; what++) {
      due("count(" + what + ")", x.count(what), counts[what]);
    }
    for (int place = 0; place < 25; place++) {
      due("at(" + place + ", 1)", x.at(place, 1), 0);
    }
    due("of(0, 0)", x.of(0, 0), NONE);
    due("owed(0, 1)", x.owed(0, 1), NONE);
    due("net(0)", x.net(0), -100000);
    due("hiccups()", x.hiccups(), 0);
    due("fault()", x.fault(), NONE);
    due("stopped()", x.stopped(), NONE);
    due("ring(-1)", x.ring(NONE), NONE);
    due("stand(0, 0)", x.stand(0, 0), NONE);
    due("rests(-1)", x.rests(NONE), 1);
    due("masks(0)", x.masks(0), 0);
    due("masks(1)", x.masks(1), 0);
    due("can(0)", x.can(0), NONE);
    due("compare(-1)", x.compare(NONE), 0);
    due("drawn(0, 0)", x.drawn(0, 0), NONE);
    due("status()", x.status(), 0);
    due("forget()", x.forget(), 0);
    due("back(0)", x.back(0), -2);
    due("clear()", x.clear(), -3);
    due("undo()", x.undo(), -3);
    due("orders()", orders(x, "pass"), 1);
    due("pass()", x.pass(), 2);
    due("hours(0, 60)", x.hours(0, 60), 0);
    due("drawn(0, 0)", x.drawn(0, 0), NONE);
    of("The constants");
    due("NONE", BlessLoan.NONE, -1);
  }

  private static void dust() {
    of("DUST of a PLACE: what it was. -1.");
    for (int place : new int[] {-1, 25, LEAST, MOST}) {
      refused("dust(" + place + ", 1)", -1, x -> x.dust(place, 1));
    }
    for (int dust : new int[] {-1, 10, LEAST, MOST}) {
      refused("dust(0, " + dust + ")", -1, x -> x.dust(0, dust));
    }
    BlessLoan x = new BlessLoan();
    due("dust(0, 0)", x.dust(0, 0), 1);
    due("dust(24, 9)", x.dust(24, 9), 1);
    due("dust(0, 9)", x.dust(0, 9), 0);
    due("dust(24, 9), the same again", x.dust(24, 9), 9);
    due("at(23, 0)", x.at(23, 0), 1);
  }

  private static void at() {
    of("Of a PLACE DUST (what 0), how many people are there (1). NONE.");
    for (int place : new int[] {-1, 25, LEAST, MOST}) {
      asked("at(" + place + ", 0)", NONE, x -> x.at(place, 0));
      asked("at(" + place + ", 1)", NONE, x -> x.at(place, 1));
    }
    for (int what : NOT_0_1) {
      asked("at(0, " + what + ")", NONE, x -> x.at(0, what));
    }
    asked("at(24, 1)", 1, x -> x.at(24, 1));
    asked("at(0, 1), left by a step", 0, x -> x.at(0, 1));
    asked("at(3, 0)", 7, x -> x.at(3, 0));
  }

  private static void person() {
    of("A PERSON: the number. -1; -5.");
    for (int off : new int[] {-1, 100, LEAST, MOST}) {
      refused("person(" + off + ", 1, 1, 1)", -1, x -> x.person(off, 1, 1, 1));
      refused("person(1, " + off + ", 1, 1)", -1, x -> x.person(1, off, 1, 1));
      refused("person(1, 1, " + off + ", 1)", -1, x -> x.person(1, 1, off, 1));
      refused("person(1, 1, 1, " + off + ")", -1, x -> x.person(1, 1, 1, off));
    }
    refused("person(25, 1, 1, 1)", -1, x -> x.person(25, 1, 1, 1));
    refused("person(1, 1, 10, 1)", -1, x -> x.person(1, 1, 10, 1));
    refused("person(1, 1, 1, 10)", -1, x -> x.person(1, 1, 1, 10));
    BlessLoan x = eight();
    due("a ninth", x.person(0, 0, 0, 0), -5);
    due("status()", x.status(), -5);
    due("count(10)", x.count(10), 1);
    due("count(0)", x.count(0), 8);
    x = town();
    x.image(1);
    x.person(1, 1, 1, 1);
    x.lend(4, 0, 9);
    x.mask(4, 1);
    x.back(1);
    due("the number again", x.person(9, 8, 7, 6), 4);
    due("nothing is left of who went: owed(4, 0)", x.owed(4, 0), 0);
    due("nothing is left of who went: masked", x.of(4, 4), 0);
  }

  private static void ofPerson() {
    of("who would bless it now (7; NONE: nobody). NONE.");
    for (int what = 0; what < 8; what++) {
      int w = what;
      for (int person : OFF) {
        asked("of(" + person + ", " + what + ")", NONE, x -> x.of(person, w));
      }
      asked("of(-1, " + what + ")", NONE, x -> x.of(-1, w));
    }
    for (int what : new int[] {-1, 8, LEAST, MOST}) {
      asked("of(0, " + what + ")", NONE, x -> x.of(0, what));
    }
    asked("of(2, 4)", 1, x -> x.of(2, 4));
    asked("of(2, 5)", 0, x -> x.of(2, 5));
    asked("of(3, 7)", NONE, x -> x.of(3, 7));
  }

  private static void mask() {
    of("One is MASKED (1) or not (0): what it was. -1; -2.");
    for (int is : NOT_0_1) {
      refused("mask(0, " + is + ")", -1, x -> x.mask(0, is));
      refused("mask(9, " + is + ")", -1, x -> x.mask(9, is));
    }
    for (int person : OFF) {
      refused("mask(" + person + ", 0)", -2, x -> x.mask(person, 0));
      refused("mask(" + person + ", 1)", -2, x -> x.mask(person, 1));
    }
    refused("mask(-1, 1)", -2, x -> x.mask(-1, 1));
    BlessLoan x = pair();
    due("not masked, not masked", x.mask(1, 0), 0);
    due("not masked, masked", x.mask(1, 1), 0);
    due("masked, masked", x.mask(1, 1), 1);
    due("count(1)", x.count(1), 1);
    due("masked, not masked", x.mask(1, 0), 1);
    due("count(1)", x.count(1), 0);
  }

  private static void owedAndLend() {
    of("OWED by one to another one. NONE (itself, too).");
    for (int person : OFF) {
      asked("owed(" + person + ", 0)", NONE, x -> x.owed(person, 0));
      asked("owed(0, " + person + ")", NONE, x -> x.owed(0, person));
    }
    for (int person = -1; person < 9; person++) {
      int p = person;
      asked("owed(" + p + ", " + p + ")", NONE, x -> x.owed(p, p));
    }
    of("So much is OWED by one to another one: what it was. -1 (itself, too); -2.");
    for (int value : new int[] {-1, 100, LEAST, MOST}) {
      refused("lend(0, 1, " + value + ")", -1, x -> x.lend(0, 1, value));
      refused("lend(9, 1, " + value + ")", -1, x -> x.lend(9, 1, value));
    }
    for (int person = -1; person < 9; person++) {
      int p = person;
      refused("lend(" + p + ", " + p + ", 1)", -1, x -> x.lend(p, p, 1));
    }
    for (int person : OFF) {
      refused("lend(" + person + ", 0, 1)", -2, x -> x.lend(person, 0, 1));
      refused("lend(0, " + person + ", 1)", -2, x -> x.lend(0, person, 1));
    }
    BlessLoan x = town();
    due("lend(0, 3, 0)", x.lend(0, 3, 0), 0);
    due("lend(3, 0, 0)", x.lend(3, 0, 0), 99);
    due("lend(0, 3, 99)", x.lend(0, 3, 99), 0);
  }

  private static void netAndTerms() {
    of("OWED to a PERSON less what it OWES, of all together. -100,000 without such.");
    for (int person : OFF) {
      asked("net(" + person + ")", -100000, x -> x.net(person));
    }
    asked("net(-1)", -100000, x -> x.net(-1));
    BlessLoan x = eight();
    for (int i = 1; i < 8; i++) {
      x.lend(i, 0, 99);
    }
    due("owed by all", x.net(0), 693);
    for (int i = 1; i < 8; i++) {
      x.lend(0, i, 99);
    }
    due("as much both ways", x.net(0), 0);
    for (int i = 1; i < 8; i++) {
      x.lend(i, 0, 0);
    }
    due("owing all", x.net(0), -693);
    of("A TERM: what it was. -1.");
    for (int off : NOT_0_1) {
      refused("terms(" + off + ", 0)", -1, y -> y.terms(off, 0));
    }
    for (int off : new int[] {-1, 10000, LEAST, MOST}) {
      refused("terms(0, " + off + ")", -1, y -> y.terms(0, off));
      refused("terms(1, " + off + ")", -1, y -> y.terms(1, off));
    }
    refused("terms(1, 10)", -1, y -> y.terms(1, 10));
    due("terms(0, 9999)", x.terms(0, 9999), 0);
    due("terms(0, 9999)", x.terms(0, 9999), 9999);
    due("terms(1, 9)", x.terms(1, 9), 0);
    due("terms(1, 0)", x.terms(1, 0), 9);
  }

  // ---- promises 11 to 18: the tape

  private static void feed() {
    of("Twenty bytes come behind the TAPE, four of each number, the highest first");
    BlessLoan x = new BlessLoan();
    due("feed", x.feed(0x01020304, 0x05060708, 0x090A0909, 0x0B0C0908, 0x17630001), 20);
    due("row()", x.row(), 5);
    int[][] want = {{1, 2, 3, 4}, {5, 6, 7, 8}, {9, 10, 9, 9}, {11, 12, 9, 8}, {23, 99, 0, 1}};
    for (int i = 0; i < 5; i++) {
      for (int what = 0; what < 4; what++) {
        due("of(" + i + ", " + what + ")", x.of(i, what), want[i][what]);
      }
    }
    x.feed(-1, LEAST, MOST, 0, 0x00FFFFFF);
    due("bytes above 127 are no places", x.row(), 1);
    due("hiccups()", x.hiccups(), 4);
    of("NONE, if there would be more than 400");
    for (int i = 1; i <= 20; i++) {
      due("feed " + i, x.feed(0, 0, 0, 0, 0), 20 * i);
    }
    due("feed 21", x.feed(1, 1, 1, 1, 1), NONE);
    due("count(6)", x.count(6), 400);
    x.end(381);
    due("401", x.feed(1, 1, 1, 1, 1), NONE);
    due("count(6)", x.count(6), 381);
    x.end(380);
    due("400", x.feed(1, 1, 1, 1, 1), 400);
    due("no call of these is refused", x.count(7) + x.count(10) + x.count(11), 0);
  }

  private static void end() {
    of("The TAPE has its first n bytes alone: n. NONE, if it has not so many, or n is below 0.");
    BlessLoan x = new BlessLoan();
    due("end(0) of none", x.end(0), 0);
    due("end(1) of none", x.end(1), NONE);
    x.feed(0x01010101, 0x02020202, 0x03030303, 0x04040404, 0x05050505);
    due("end(20)", x.end(20), 20);
    due("end(21)", x.end(21), NONE);
    due("end(-1)", x.end(-1), NONE);
    due("end(LEAST)", x.end(LEAST), NONE);
    due("end(MOST)", x.end(MOST), NONE);
    due("count(6)", x.count(6), 20);
    due("end(4)", x.end(4), 4);
    due("end(5): they are gone", x.end(5), NONE);
    x.feed(0x07070707, 0, 0, 0, 0);
    x.end(8);
    due("row()", x.row(), 2);
    due("the new ones stand behind the first n", x.of(1, 0), 7);
    due("status()", x.status(), 0);
  }

  private static void rowAndHiccups() {
    of("A ROW, the TAPE is empty then: how many people came. -6 the TAPE is empty.");
    BlessLoan x = new BlessLoan();
    due("row() of nothing", x.row(), -6);
    due("status()", x.status(), -6);
    due("count(11)", x.count(11), 1);
    due("row()", row(x, "\1\1\1\1\2"), 1);
    due("count(6)", x.count(6), 0);
    due("row() again", x.row(), -6);
    due("count(0)", x.count(0), 1);
    due("nobody is no refusal", row(x, "\377"), 0);
    due("status()", x.status(), 0);
    of("the latest row() had that was not REFUSED (0 ahead of any)");
    BlessLoan y = new BlessLoan();
    due("hiccups() ahead of any", y.hiccups(), 0);
    y.row();
    due("hiccups() behind a refused one", y.hiccups(), 0);
    row(y, "\0\0\0");
    due("hiccups()", y.hiccups(), 1);
    y.row();
    due("hiccups() behind a refused one", y.hiccups(), 1);
    y.person(99, 0, 0, 0);
    due("hiccups() behind a refused person()", y.hiccups(), 1);
    row(y, "\0\0\0\0");
    due("hiccups() of none", y.hiccups(), 0);
  }

  private static void law() {
    of("The TAPE, which is empty then, becomes a LAW: its number.");
    BlessLoan x = new BlessLoan();
    for (int i = 0; i < 6; i++) {
      due("law " + i, law(x, "hears " + i), i);
      due("count(6)", x.count(6), 0);
    }
    of("-5 (ahead of reading it; the TAPE is empty then, too)");
    orders(x, "pass x");
    due("fault()", x.fault(), 5);
    due("a seventh", law(x, "bars"), -5);
    due("count(6)", x.count(6), 0);
    due("fault() is not of what was not read", x.fault(), 5);
    due("a seventh that is none", law(x, "bars bars bars"), -5);
    due("fault() is not of what was not read", x.fault(), 5);
    due("a seventh of nothing", x.law(), -5);
    due("count(4)", x.count(4), 6);
    due("count(10)", x.count(10), 3);
    due("count(11)", x.count(11), 1);
    of("-6 (blanks alone: FAULT at the end)");
    BlessLoan y = new BlessLoan();
    due("law() of nothing", y.law(), -6);
    due("fault()", y.fault(), 0);
    due("law() of blanks", law(y, "     "), -6);
    due("fault()", y.fault(), 5);
    due("law() of what is none", law(y, "bars if x"), -6);
    due("count(6)", y.count(6), 0);
    due("count(4)", y.count(4), 0);
    due("count(11)", y.count(11), 3);
    due("the first number is not lost", law(y, "bars"), 0);
  }

  private static void orders() {
    of("ORDERS, the TAPE is empty then: how many were run. -3 one can't be; -6 (as for law()).");
    BlessLoan x = pair();
    due("orders() of nothing", x.orders(), -6);
    due("fault()", x.fault(), 0);
    due("orders() of blanks", orders(x, "   "), -6);
    due("fault()", x.fault(), 3);
    due("count(6)", x.count(6), 0);
    due("status()", x.status(), -6);
    due("none were run", orders(x, "pass if 1=2"), 0);
    due("status()", x.status(), 0);
    due("one can't be", orders(x, "pass; sneeze 2"), -3);
    due("status()", x.status(), -3);
    due("count(6)", x.count(6), 0);
    due("count(13)", x.count(13), 0);
    due("a fault behind what could be run", orders(x, "pass; pass x"), -6);
    due("count(13)", x.count(13), 0);
    due("some of them", orders(x, "pass; pass if 1=2; pass times 3"), 4);
    for (int i = 0; i < 6; i++) {
      law(x, "bars");
    }
    due("no room for laws is no matter", orders(x, "pass"), 1);
  }

  private static void faultAndStopped() {
    of("FAULT of the latest law(), orders() that read a TEXT: its place; NONE without.");
    BlessLoan x = pair();
    due("ahead of any", x.fault(), NONE);
    law(x, "bars bars");
    due("of a law()", x.fault(), 5);
    row(x, "\0\0\0\0");
    due("row() reads none", x.fault(), 5);
    orders(x, "pass; pass pass");
    due("of orders()", x.fault(), 11);
    orders(x, "sneeze 9");
    due("orders that can't be run can be read", x.fault(), NONE);
    law(x, "");
    due("of nothing", x.fault(), 0);
    law(x, "bars");
    due("without", x.fault(), NONE);
    of("Which CLAUSE of the latest orders() could not be. NONE.");
    BlessLoan y = pair();
    due("ahead of any", y.stopped(), NONE);
    for (int clause = 0; clause < 12; clause++) {
      due("orders()", orders(y, "pass;".repeat(clause) + "sneeze 9"), -3);
      due("stopped() by " + clause, y.stopped(), clause);
    }
    y.sneeze(9);
    law(y, "x");
    due("others do not change it", y.stopped(), 11);
    y.orders();
    due("orders() that can't be read", y.stopped(), NONE);
    orders(y, "pass times 3; step 0 to at 0+1 times 9");
    due("not the first time of it", y.stopped(), 1);
    orders(y, "pass");
    due("all could be", y.stopped(), NONE);
  }

  // ---- promises 19 to 26: what is done

  private static void forceAndAsks() {
    of("A LAW is in FORCE (NONE: none): which was. -2.");
    for (int law : new int[] {-2, 2, 5, 6, LEAST, MOST}) {
      refused("force(" + law + ")", -2, x -> x.force(law));
    }
    BlessLoan x = town();
    due("force(1)", x.force(1), 0);
    due("force(1) again", x.force(1), 1);
    due("force(-1)", x.force(NONE), 1);
    due("force(-1) again", x.force(NONE), NONE);
    due("status()", x.status(), 0);
    due("count(12)", x.count(12), NONE);
    of("whether the second one is BARRED from blessing the first one (1: 1, 0). NONE (itself, too).");
    for (int what = 0; what < 2; what++) {
      int w = what;
      for (int person : OFF) {
        asked("asks(" + person + ", 0, " + what + ")", NONE, y -> y.asks(person, 0, w));
        asked("asks(0, " + person + ", " + what + ")", NONE, y -> y.asks(0, person, w));
      }
      for (int person = -1; person < 9; person++) {
        int p = person;
        asked("asks(" + p + ", " + p + ", " + what + ")", NONE, y -> y.asks(p, p, w));
      }
    }
    for (int what : NOT_0_1) {
      asked("asks(0, 1, " + what + ")", NONE, y -> y.asks(0, 1, what));
    }
    asked("asks(0, 1, 0)", 4, y -> y.asks(0, 1, 0));
    asked("asks(0, 2, 1): masked, not barred", 0, y -> y.asks(0, 2, 1));
  }

  private static void step() {
    of("To STEP: the PLACE in which one was. -1; -2; -3.");
    for (int place : new int[] {-1, 25, LEAST, MOST}) {
      refused("step(0, " + place + ")", -1, x -> x.step(0, place));
      refused("step(9, " + place + ")", -1, x -> x.step(9, place));
    }
    for (int person : OFF) {
      refused("step(" + person + ", 0)", -2, x -> x.step(person, 0));
    }
    refused("step(-1, 0)", -2, x -> x.step(-1, 0));
    refused("step(0, 5), where it is", -3, x -> x.step(0, 5));
    refused("step(0, 4), the number before", -3, x -> x.step(0, 4));
    refused("step(0, 11), across", -3, x -> x.step(0, 11));
    refused("step(0, 15), two off", -3, x -> x.step(0, 15));
    refused("step(3, 20), round the edge", -3, x -> x.step(3, 20));
    BlessLoan x = town();
    due("step(0, 0)", x.step(0, 0), 5);
    due("step(3, 19)", x.step(3, 19), 24);
    due("a masked one", x.step(2, 1), 6);
  }

  private static void sneeze() {
    of("One sneezes: who blesses; 100: nobody. -2.");
    for (int person : OFF) {
      refused("sneeze(" + person + ")", -2, x -> x.sneeze(person));
    }
    refused("sneeze(-1)", -2, x -> x.sneeze(-1));
    refused("sneeze(100)", -2, x -> x.sneeze(100));
    BlessLoan x = town();
    due("nobody", x.sneeze(3), 100);
    due("status()", x.status(), 0);
    due("a masked one sneezes", x.sneeze(2), 1);
    x.force(NONE);
    x.person(24, 0, 0, 0);
    due("0 blesses", pair().sneeze(1), 0);
    due("the seventh", sneezeByTheLast(), 7);
  }

  private static int sneezeByTheLast() {
    BlessLoan x = eight();
    inForce(x, "bars if person < 7");
    return x.sneeze(0);
  }

  private static void forgive() {
    of("To FORGIVE: how much. -2; -3 nothing is OWED (itself, too).");
    for (int person : OFF) {
      refused("forgive(" + person + ", 0)", -2, x -> x.forgive(person, 0));
      refused("forgive(0, " + person + ")", -2, x -> x.forgive(0, person));
      refused("forgive(" + person + ", itself)", -2, x -> x.forgive(person, person));
    }
    refused("forgive(-1, -1)", -2, x -> x.forgive(-1, -1));
    for (int person = 0; person < 4; person++) {
      int p = person;
      refused("forgive(" + p + ", " + p + ")", -3, x -> x.forgive(p, p));
    }
    refused("forgive(1, 0)", -3, x -> x.forgive(1, 0));
    BlessLoan x = town();
    due("forgive(3, 0)", x.forgive(3, 0), 99);
    due("forgive(3, 0) again", x.forgive(3, 0), -3);
  }

  private static void clearAndPass() {
    of("To CLEAR a RING: by how much. -3 there is none.");
    BlessLoan x = town();
    due("clear()", x.clear(), 3);
    due("owed(0, 1)", x.owed(0, 1), 2);
    due("owed(1, 2)", x.owed(1, 2), 0);
    due("owed(2, 0)", x.owed(2, 0), 1);
    due("owed(3, 0), which is not of it", x.owed(3, 0), 99);
    due("clear() again", x.clear(), -3);
    due("status()", x.status(), -3);
    BlessLoan y = pair();
    y.lend(0, 1, 99);
    due("one way alone", y.clear(), -3);
    y.lend(1, 0, 99);
    due("both ways", y.clear(), 99);
    due("count(2)", y.count(2), 0);
    of("A minute: the MINUTE. -3.");
    x.terms(0, 9998);
    due("pass()", x.pass(), 9999);
    due("pass() again", x.pass(), -3);
    due("status()", x.status(), -3);
    due("count(5)", x.count(5), 1);
  }

  private static void undo() {
    of("(by ORDERS, too; 16 are kept) is undone: 0 .. 4. -3 there is none");
    BlessLoan x = town();
    x.terms(1, 0);
    String was = stateOf(x);
    x.sneeze(0);
    x.sneeze(3);
    x.clear();
    x.forgive(3, 0);
    due("orders()", orders(x, "step 0 to 0; sneeze 2; forgive 2 by 0; pass"), 4);
    due("count(5)", x.count(5), 8);
    int[] kinds = {4, 2, 1, 0, 2, 3, 1, 1};
    for (int kind : kinds) {
      due("undo()", x.undo(), kind);
    }
    due("undo() of none", x.undo(), -3);
    due("status()", x.status(), -3);
    x.feed(MOST, 0, LEAST, 1, -1);
    law(x, "bars bars");
    orders(x, "pass;sneeze 9");
    law(x, "bars bars");
    x.feed(0, 0, 0, 0, 0);
    due("all is as it was", stateOf(x), was);
    undoneAtTheEdges();
    sixteen();
  }

  private static void undoneAtTheEdges() {
    BlessLoan x = pair();
    x.lend(0, 1, 98);
    x.sneeze(0);
    due("99 at most", x.owed(0, 1), 99);
    x.undo();
    due("a debt that came to 99", x.owed(0, 1), 98);
    x.lend(0, 1, 99);
    x.sneeze(0);
    x.undo();
    due("a debt that stayed 99", x.owed(0, 1), 99);
    x.lend(1, 0, 1);
    x.sneeze(0);
    due("owed(1, 0)", x.owed(1, 0), 0);
    x.undo();
    due("a debt that came to 0", x.owed(1, 0), 1);
    due("owed(0, 1)", x.owed(0, 1), 99);
    x.clear();
    due("owed(0, 1)", x.owed(0, 1), 98);
    x.undo();
    due("a ring of two", x.owed(0, 1) * 100 + x.owed(1, 0), 9901);
    x.terms(0, 9998);
    x.pass();
    x.undo();
    due("minute 9,999", x.count(13), 9998);
    due("an undone one is no more", x.undo(), -3);
  }

  private static void sixteen() {
    BlessLoan x = pair();
    x.step(0, 11);
    for (int i = 0; i < 15; i++) {
      x.pass();
    }
    due("16", x.count(5), 16);
    x.sneeze(0);
    due("17", x.count(5), 16);
    due("undo()", x.undo(), 1);
    for (int i = 0; i < 15; i++) {
      due("undo() " + i, x.undo(), 4);
    }
    due("the step is kept no more", x.undo(), -3);
    due("of(0, 0)", x.of(0, 0), 11);
    due("orders()", orders(x, "pass times 20; step 0 to 12; pass times 15"), 36);
    due("count(5)", x.count(5), 16);
    for (int i = 0; i < 15; i++) {
      x.undo();
    }
    due("the step is the oldest", x.undo(), 0);
    due("count(13)", x.count(13), 20);
    due("undo()", x.undo(), -3);
  }

  private static void whatEndsUndoing() {
    of("dust(), person(), mask(), lend(), terms(), row() that was not REFUSED can be undone)");
    ends("dust()", 0, x -> x.dust(0, 1));
    ends("person()", 0, x -> x.person(0, 0, 0, 0));
    ends("mask()", 0, x -> x.mask(0, 0));
    ends("lend()", 0, x -> x.lend(0, 1, 5));
    ends("terms()", 0, x -> x.terms(1, 4));
    ends("row()", 0, x -> row(x, "\0\0\0\0"));
    ends("row() of a hiccup", 0, x -> row(x, "\0"));
    ends("back()", 0, x -> x.back(0));
    ends("dust(25, 0)", 2, x -> x.dust(25, 0));
    ends("person(0, 0, 0, 10)", 2, x -> x.person(0, 0, 0, 10));
    ends("mask(4, 0)", 2, x -> x.mask(4, 0));
    ends("lend(1, 1, 0)", 2, x -> x.lend(1, 1, 0));
    ends("terms(2, 0)", 2, x -> x.terms(2, 0));
    ends("row() of nothing", 2, x -> row(x, ""));
    ends("back(1)", 2, x -> x.back(1));
    ends("law()", 2, x -> law(x, "bars"));
    ends("force()", 2, x -> x.force(1));
    ends("seen()", 2, x -> x.seen(0, 1));
    ends("forget()", 2, x -> x.forget());
    ends("image()", 2, x -> x.image(1));
    ends("hours()", 2, x -> x.hours(1, 60));
    ends("step() refused", 2, x -> x.step(0, 24));
    ends("sneeze() refused", 2, x -> x.sneeze(4));
    ends("forgive() refused", 2, x -> x.forgive(0, 0));
    ends("orders() of none", 2, x -> orders(x, "pass if 1=2"));
    ends("orders() refused", 2, x -> orders(x, "pass times 20; sneeze 9"));
    ends("a sneeze that nobody blesses", 3, x -> x.sneeze(3));
  }

  private static void ends(String call, int left, ToLongFunction<BlessLoan> on) {
    BlessLoan x = town();
    on.applyAsLong(x);
    due("count(5) behind " + call, x.count(5), left);
    due("undo() behind " + call, x.undo(), left == 0 ? -3 : left == 2 ? 4 : 1);
  }

  // ---- promises 27 to 38: what is asked

  private static void ring() {
    of("The shortest RING: how many people (i NONE), the i-th. NONE.");
    asked("ring(-1)", 3, x -> x.ring(NONE));
    for (int i = 0; i < 3; i++) {
      int k = i;
      asked("ring(" + i + ")", i, x -> x.ring(k));
    }
    for (int i : new int[] {3, 7, 8, -2, LEAST, MOST}) {
      asked("ring(" + i + ")", NONE, x -> x.ring(i));
    }
    BlessLoan x = pair();
    x.lend(0, 1, 1);
    for (int i = -1; i < 3; i++) {
      due("no ring: ring(" + i + ")", x.ring(i), NONE);
    }
    BlessLoan y = eight();
    for (int i = 0; i < 8; i++) {
      y.lend(i, (i + 5) % 8, 1);
    }
    due("all eight", y.ring(NONE), 8);
    due("the last one", y.ring(7), 3);
    due("ring(8)", y.ring(8), NONE);
  }

  private static void gainAndStand() {
    of("GAIN of a PERSON in a PLACE. NONE.");
    for (int place : new int[] {-1, 25, LEAST, MOST}) {
      asked("gain(0, " + place + ")", NONE, x -> x.gain(0, place));
    }
    for (int person : OFF) {
      asked("gain(" + person + ", 0)", NONE, x -> x.gain(person, 0));
      asked("stand(" + person + ", 0)", NONE, x -> x.stand(person, 0));
      asked("stand(" + person + ", 1)", NONE, x -> x.stand(person, 1));
    }
    asked("gain(-1, 0)", NONE, x -> x.gain(-1, 0));
    asked("gain of a masked one", 0, x -> x.gain(2, 0));
    asked("gain of 1 where 0, 3 are blessed by it", 20, x -> x.gain(1, 1));
    of("To STAND: the PLACE (what 0), GAIN there (1). NONE.");
    for (int what : NOT_0_1) {
      asked("stand(0, " + what + ")", NONE, x -> x.stand(0, what));
    }
    asked("stand(-1, 0)", NONE, x -> x.stand(-1, 0));
    asked("stand(2, 0), masked", 0, x -> x.stand(2, 0));
    asked("stand(2, 1), masked", 0, x -> x.stand(2, 1));
  }

  private static void restsAndRound() {
    of("the PLACE of a PERSON then. NONE (not in 50).");
    for (int person : OFF) {
      asked("rests(" + person + ")", NONE, x -> x.rests(person));
      asked("round(" + person + ", -1)", NONE, x -> x.round(person, NONE));
      asked("round(" + person + ", 0)", NONE, x -> x.round(person, 0));
    }
    asked("rests(2), masked", 6, x -> x.rests(2));
    of("A ROUND: how many steps (i NONE), the i-th PERSON. NONE.");
    asked("round(-1, -1)", NONE, x -> x.round(-1, NONE));
    asked("round(3, -1)", 7, x -> x.round(3, NONE));
    asked("round(3, 0)", 0, x -> x.round(3, 0));
    for (int i : new int[] {1, 7, 8, -2, LEAST, MOST}) {
      asked("round(3, " + i + ")", NONE, x -> x.round(3, i));
    }
    BlessLoan x = pair();
    due("who owes nobody", x.round(0, NONE), 0);
    due("who owes nobody", x.round(0, 0), NONE);
  }

  private static void masks() {
    of("MASKS: how many (what 0), who, as bits (1). NONE.");
    for (int what : NOT_0_1) {
      asked("masks(" + what + ")", NONE, x -> x.masks(what));
    }
    BlessLoan x = eight();
    inForce(x, "bars if not person = 7");
    due("the last one", x.masks(1), 128);
    due("the last one", x.masks(0), 1);
    x.mask(7, 1);
    due("nobody more", x.masks(0), 0);
    due("nobody more", x.masks(1), 0);
  }

  private static void seen() {
    of("One SEEN (by NONE: by nobody): how many there are. -1 (itself, too); -2; -5.");
    for (int person = 0; person < 9; person++) {
      int p = person;
      refused("seen(" + p + ", " + p + ")", -1, x -> x.seen(p, p));
    }
    for (int person : OFF) {
      refused("seen(" + person + ", 0)", -2, x -> x.seen(person, 0));
      refused("seen(" + person + ", -1)", -2, x -> x.seen(person, NONE));
      refused("seen(0, " + person + ")", -2, x -> x.seen(0, person));
    }
    refused("seen(-1, 0)", -2, x -> x.seen(-1, 0));
    BlessLoan x = town();
    due("seen(3, 2)", x.seen(3, 2), 3);
    due("the same again", x.seen(3, 2), 4);
    for (int i = 5; i <= 8; i++) {
      due("seen(3, -1)", x.seen(3, NONE), i);
    }
    due("a ninth", x.seen(3, 2), -5);
    due("status()", x.status(), -5);
    due("count(3)", x.count(3), 8);
    of("SEEN are none then: how many there were.");
    due("forget()", x.forget(), 8);
    due("forget() again", x.forget(), 0);
    due("status()", x.status(), -5);
    due("can(0)", x.can(0), ALL_PLACES);
    due("seen(3, 2)", x.seen(3, 2), 1);
  }

  private static void canAndListen() {
    of("Where one CAN have stood: PLACES, as bits. NONE.");
    for (int person : OFF) {
      asked("can(" + person + ")", NONE, x -> x.can(person));
      asked("listen(" + person + ", 0)", NONE, x -> x.listen(person, 0));
      asked("listen(" + person + ", 1)", NONE, x -> x.listen(person, 1));
    }
    asked("can(-1)", NONE, x -> x.can(-1));
    BlessLoan x = town();
    x.seen(0, 2);
    due("blessed by a masked one: nowhere", x.can(1), 0);
    of("To LISTEN for: the PERSON (what 0), how many PLACES are left at most (1). NONE (nowhere).");
    due("nowhere", x.listen(1, 0), NONE);
    due("nowhere", x.listen(1, 1), NONE);
    x.forget();
    for (int what : NOT_0_1) {
      due("listen(0, " + what + ")", x.listen(0, what), NONE);
    }
    BlessLoan y = new BlessLoan();
    y.person(24, 0, 0, 0);
    due("one alone", y.listen(0, 0), 0);
    due("one alone", y.listen(0, 1), 25);
    BlessLoan z = eight();
    inForce(z, "hears 0; bars if not other = 6");
    due("the one sneeze that tells anything", z.listen(7, 0), 0);
    z.force(NONE);
    inForce(z, "hears 0; bars if not (person = 7 and other = 6)");
    due("the one sneeze that tells anything", z.listen(7, 0), 6);
    due("in 24 places nobody blesses", z.listen(7, 1), 24);
  }

  private static void oftenAndCompare() {
    of("SO OFTEN, k 0 .. 20, n minutes 0 .. 60. NONE.");
    for (int person : OFF) {
      asked("often(" + person + ", 1, 1)", NONE, x -> x.often(person, 1, 1));
    }
    asked("often(-1, 0, 0)", NONE, x -> x.often(-1, 0, 0));
    for (int k : new int[] {-1, 21, LEAST, MOST}) {
      asked("often(0, " + k + ", 1)", NONE, x -> x.often(0, k, 1));
    }
    for (int n : new int[] {-1, 61, LEAST, MOST}) {
      asked("often(0, 0, " + n + ")", NONE, x -> x.often(0, 0, n));
    }
    asked("often(0, 0, 0)", 1000000000000L, x -> x.often(0, 0, 0));
    asked("often(0, 1, 1)", 500000000000L, x -> x.often(0, 1, 1));
    asked("often(0, 20, 0)", 0, x -> x.often(0, 20, 0));
    asked("often(0, 20, 60) is some", 1, x -> Long.signum(x.often(0, 20, 60)));
    asked("often(2, 1, 60), masked", 0, x -> x.often(2, 1, 60));
    of("COMPARED. NONE (no such LAW).");
    for (int law : new int[] {-2, 2, 5, 6, LEAST, MOST}) {
      asked("compare(" + law + ")", NONE, x -> x.compare(law));
    }
    asked("compare(0)", 40, x -> x.compare(0));
  }

  // ---- promises 39 to 44

  private static void hoursAndDrawn() {
    of("HOURS, kept as the latest: how many sneezes there were. -1.");
    for (int seed : new int[] {-1, 1000001, LEAST, MOST}) {
      refused("hours(" + seed + ", 1)", -1, x -> x.hours(seed, 1));
    }
    for (int n : new int[] {0, -1, 61, LEAST, MOST}) {
      refused("hours(0, " + n + ")", -1, x -> x.hours(0, n));
    }
    BlessLoan x = town();
    due("hours(0, 1): draws of 5, 9, 0, 3, 2 is masked", x.hours(0, 1), 1);
    int[] places = {6, 2, 11, 24};
    for (int i = 0; i < 4; i++) {
      due("drawn(" + i + ", 0)", x.drawn(i, 0), places[i]);
    }
    x.hours(0, 61);
    due("a refused one is not kept", x.drawn(2, 0), 11);
    of("Behind the latest HOURS the PLACE (what 0), what is OWED to (1), by (2) PERSON k");
    for (int k : OFF) {
      for (int what = 0; what < 3; what++) {
        int w = what;
        asked("drawn(" + k + ", " + what + ")", NONE, y -> y.drawn(k, w));
      }
    }
    asked("drawn(-1, 0)", NONE, y -> y.drawn(-1, 0));
    for (int what : new int[] {-1, 3, LEAST, MOST}) {
      asked("drawn(0, " + what + ")", NONE, y -> y.drawn(0, what));
    }
    BlessLoan y = town();
    y.person(0, 0, 0, 0);
    due("who came later", y.drawn(4, 0), NONE);
    y.terms(0, 9999);
    y.hours(0, 1);
    due("owed to 0", y.drawn(0, 1), 103);
    due("owed by 0", y.drawn(0, 2), 5);
    due("who is there now", y.drawn(4, 0), 0);
    y.back(0);
    due("who went is there still in the latest hours", y.drawn(4, 0), 0);
  }

  private static void imageAndBack() {
    of("IMAGE k is kept: 0; -1.");
    for (int k : new int[] {-1, 2, LEAST, MOST}) {
      refused("image(" + k + ")", -1, x -> x.image(k));
      refused("back(" + k + ")", -1, x -> x.back(k));
    }
    of("BACK to IMAGE k: 0. -1; -2 it was not kept.");
    refused("back(1)", -2, x -> x.back(1));
    BlessLoan x = new BlessLoan();
    due("back(0)", x.back(0), -2);
    due("image(0) of nobody", x.image(0), 0);
    for (int i = 0; i < 8; i++) {
      x.person(i, i, i, i);
    }
    for (int i = 0; i < 6; i++) {
      law(x, "hears " + i);
    }
    x.force(5);
    due("image(1) of all", x.image(1), 0);
    due("back(0)", x.back(0), 0);
    due("nobody", x.count(0), 0);
    due("no law", x.count(4), 0);
    due("none in force", x.count(12), NONE);
    due("force(0)", x.force(0), -2);
    due("a first law again", law(x, "bars"), 0);
    due("back(1)", x.back(1), 0);
    due("eight", x.count(0), 8);
    due("six laws", x.count(4), 6);
    due("of(7, 6) by the one in force", x.of(7, 6), 5);
    x.force(0);
    due("of(7, 6) by the first one", x.of(7, 6), 0);
  }

  private static void count() {
    of("NONE for others.");
    for (int what : new int[] {-1, 15, 16, LEAST, MOST}) {
      asked("count(" + what + ")", NONE, x -> x.count(what));
    }
    of("7 .. 11 how many calls were REFUSED by -1, -2, -3, -5, -6 (IMAGES do not keep that)");
    BlessLoan x = town();
    x.image(1);
    x.dust(25, 0);
    x.sneeze(4);
    x.forgive(0, 0);
    for (int i = 0; i < 5; i++) {
      x.person(0, 0, 0, 0);
    }
    x.law();
    int[] was = countsOf(x);
    x.back(1);
    int[] now = countsOf(x);
    for (int i = 0; i < 5; i++) {
      due("count(" + (7 + i) + ") behind back()", now[i], was[i]);
    }
    int[] want = {1, 1, 2, 1, 2};
    x.end(0);
    x.row();
    want[4]++;
    for (int i = 0; i < 5; i++) {
      due("count(" + (7 + i) + ")", x.count(7 + i), want[i]);
    }
    of("2 OWED of all together");
    BlessLoan y = eight();
    for (int i = 0; i < 56; i++) {
      y.lend(i / 7, (i / 7 + 1 + i % 7) % 8, 99);
    }
    due("the most there can be", y.count(2), 56 * 99);
    for (int i = 0; i < 8; i++) {
      y.mask(i, 1);
    }
    due("1 MASKED ones", y.count(1), 8);
  }

  private static void status() {
    of("was REFUSED by; 0 if it was not, or ahead of any.");
    due("ahead of any", new BlessLoan().status(), 0);
    told("dust", -1, x -> x.dust(25, 0), x -> x.dust(24, 0));
    told("person", -1, x -> x.person(25, 0, 0, 0), x -> x.person(24, 0, 0, 0));
    told("mask", -2, x -> x.mask(4, 0), x -> x.mask(3, 0));
    told("lend", -1, x -> x.lend(0, 0, 0), x -> x.lend(0, 1, 0));
    told("terms", -1, x -> x.terms(2, 0), x -> x.terms(1, 0));
    told("row", -6, x -> row(x, ""), x -> row(x, "\0"));
    told("law", -6, x -> law(x, ""), x -> law(x, "bars"));
    told("orders", -3, x -> orders(x, "sneeze 4"), x -> orders(x, "sneeze 3"));
    told("orders", -6, x -> orders(x, "sneeze"), x -> orders(x, "sneeze 4 if 1=2"));
    told("force", -2, x -> x.force(2), x -> x.force(NONE));
    told("step", -3, x -> x.step(0, 6 + 6), x -> x.step(0, 6));
    told("sneeze", -2, x -> x.sneeze(4), x -> x.sneeze(3));
    told("forgive", -3, x -> x.forgive(1, 0), x -> x.forgive(0, 1));
    told("clear", -3, x -> noRing(x), x -> x.clear());
    told("pass", -3, x -> lastMinute(x), x -> x.pass());
    told("undo", -3, x -> noneUndone(x), x -> x.undo());
    told("seen", -1, x -> x.seen(1, 1), x -> x.seen(1, NONE));
    told("hours", -1, x -> x.hours(0, 0), x -> x.hours(0, 1));
    told("image", -1, x -> x.image(2), x -> x.image(1));
    told("back", -2, x -> x.back(1), x -> x.back(0));
  }

  private static long noRing(BlessLoan x) {
    x.lend(0, 1, 0);
    return x.clear();
  }

  private static long lastMinute(BlessLoan x) {
    x.terms(0, 9999);
    return x.pass();
  }

  private static long noneUndone(BlessLoan x) {
    x.dust(0, 0);
    return x.undo();
  }

  /** A refused call is told till one that is not, whatever is asked between. */
  private static void told(String name, int code, ToLongFunction<BlessLoan> wrong,
      ToLongFunction<BlessLoan> right) {
    BlessLoan x = town();
    due(name + " refused", wrong.applyAsLong(x), code);
    due("status() behind " + name, x.status(), code);
    askAll(x);
    due("status() behind what is asked", x.status(), code);
    BlessLoan y = town();
    y.dust(25, 0);
    due("status() ahead of " + name, y.status(), -1);
    due(name + " not refused", right.applyAsLong(y) >= NONE ? 1 : 0, 1);
    due("status() behind " + name, y.status(), 0);
    askAll(y);
    due("status() behind what is asked", y.status(), 0);
  }

  /** All calls that are not of those that status() tells, wrongly. */
  private static void askAll(BlessLoan x) {
    x.at(25, 0);
    x.of(9, 0);
    x.owed(0, 0);
    x.net(9);
    x.end(401);
    for (int i = 0; i < 21; i++) {
      x.feed(0, 0, 0, 0, 0);
    }
    x.hiccups();
    x.fault();
    x.stopped();
    x.asks(0, 0, 0);
    x.ring(9);
    x.gain(9, 0);
    x.stand(9, 0);
    x.rests(9);
    x.round(9, 0);
    x.masks(2);
    x.forget();
    x.can(9);
    x.listen(9, 0);
    x.often(9, 0, 0);
    x.compare(9);
    x.drawn(9, 9);
    x.count(99);
  }

  public static void main(String[] args) {
    Runnable[] promises = {
        EdgeTest::newObject, EdgeTest::dust, EdgeTest::at, EdgeTest::person, EdgeTest::ofPerson,
        EdgeTest::mask, EdgeTest::owedAndLend, EdgeTest::netAndTerms, EdgeTest::feed,
        EdgeTest::end, EdgeTest::rowAndHiccups, EdgeTest::law, EdgeTest::orders,
        EdgeTest::faultAndStopped, EdgeTest::forceAndAsks, EdgeTest::step, EdgeTest::sneeze,
        EdgeTest::forgive, EdgeTest::clearAndPass, EdgeTest::undo, EdgeTest::whatEndsUndoing,
        EdgeTest::ring, EdgeTest::gainAndStand, EdgeTest::restsAndRound, EdgeTest::masks,
        EdgeTest::seen, EdgeTest::canAndListen, EdgeTest::oftenAndCompare,
        EdgeTest::hoursAndDrawn, EdgeTest::imageAndBack, EdgeTest::count, EdgeTest::status};
    for (Runnable promise : promises) {
      promise.run();
    }
    close("the edges of the promises hold");
  }
}
