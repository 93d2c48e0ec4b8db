/** The sentences of "Terms" I, III, IV that name a boundary case, each with a test of its own. */
public final class TermsTest extends Checks {
  private static final int[] OFF_PLACES = {-1, 25, LEAST, MOST};

  // ---- I: what there is

  private static void places() {
    of("PLACES 0 .. 24");
    for (int place : OFF_PLACES) {
      BlessLoan x = pair();
      due("dust(" + place + ", 1)", x.dust(place, 1), -1);
      due("at(" + place + ", 0)", x.at(place, 0), NONE);
      due("at(" + place + ", 1)", x.at(place, 1), NONE);
      due("person(" + place + ", 1, 1, 1)", x.person(place, 1, 1, 1), -1);
      due("step(0, " + place + ")", x.step(0, place), -1);
      due("gain(0, " + place + ")", x.gain(0, place), NONE);
    }
    BlessLoan x = new BlessLoan();
    for (int place = 0; place < 25; place += 24) {
      due("dust(" + place + ", 1)", x.dust(place, 1), 1);
      due("person(" + place + ", 1, 1, 1)", x.person(place, 1, 1, 1), place / 24);
      due("at(" + place + ", 1)", x.at(place, 1), 1);
      due("gain(0, " + place + ") is told", x.gain(0, place) >= 0 ? 1 : 0, 1);
    }
  }

  private static void far() {
    of("FAR from each other: |x| and |y|");
    for (int one = 0; one < 25; one++) {
      for (int other = 0; other < 25; other++) {
        BlessLoan x = new BlessLoan();
        x.person(one, 0, 0, 0);
        x.person(other, 0, 0, 0);
        inForce(x, "owes far");
        int want = Math.abs(one % 5 - other % 5) + Math.abs(one / 5 - other / 5);
        due("from " + one + " to " + other, x.asks(0, 1, 0), want);
      }
    }
  }

  private static void dust() {
    of("DUST 0 .. 9 (1 at first)");
    BlessLoan x = new BlessLoan();
    for (int place = 0; place < 25; place++) {
      due("at(" + place + ", 0)", x.at(place, 0), 1);
    }
    due("dust(7, 0)", x.dust(7, 0), 1);
    due("dust(7, -1)", x.dust(7, -1), -1);
    due("dust(7, 9)", x.dust(7, 9), 0);
    due("dust(7, 10)", x.dust(7, 10), -1);
    due("dust(7, LEAST)", x.dust(7, LEAST), -1);
    due("dust(7, MOST)", x.dust(7, MOST), -1);
    due("at(7, 0)", x.at(7, 0), 9);
  }

  private static void people() {
    of("PEOPLE 0 .. 7 (8 at most)");
    BlessLoan x = new BlessLoan();
    for (int i = 0; i < 8; i++) {
      due("of(" + i + ", 0) ahead of it", x.of(i, 0), NONE);
      due("person " + i, x.person(i, i, i, i), i);
      due("of(" + i + ", 0)", x.of(i, 0), i);
    }
    due("a ninth", x.person(0, 0, 0, 0), -5);
    due("a ninth of a row", row(x, "\0\0\0\0"), 0);
    due("of(8, 0)", x.of(8, 0), NONE);
    due("count(0)", x.count(0), 8);
    of("a PLACE (more than one may be in it)");
    BlessLoan y = eight();
    due("at(12, 1)", y.at(12, 1), 8);
    due("a step to where others are", pair().step(0, 13), 12);
  }

  private static void traits() {
    of("AGE 0 .. 99, EARS 0 .. 9, COLD 0 .. 9");
    int[] most = {24, 99, 9, 9};
    for (int trait = 0; trait < 4; trait++) {
      for (int value : new int[] {-1, 0, most[trait], most[trait] + 1, LEAST, MOST}) {
        BlessLoan x = new BlessLoan();
        int[] a = {3, 3, 3, 3};
        a[trait] = value;
        boolean can = value == 0 || value == most[trait];
        due("person with " + trait + " " + value, x.person(a[0], a[1], a[2], a[3]), can ? 0 : -1);
        due("of(0, " + trait + ")", x.of(0, trait), can ? value : NONE);
        due("count(0)", x.count(0), can ? 1 : 0);
      }
    }
    of("MASKED or not (at first)");
    BlessLoan x = pair();
    row(x, "\1\1\1\1");
    due("by person()", x.of(1, 4), 0);
    due("by row()", x.of(2, 4), 0);
    due("count(1)", x.count(1), 0);
  }

  private static void owed() {
    of("OWED 0 .. 99: by one PERSON to another one (0 at first)");
    BlessLoan x = eight();
    for (int by = 0; by < 8; by++) {
      for (int to = 0; to < 8; to++) {
        due("owed(" + by + ", " + to + ")", x.owed(by, to), by == to ? NONE : 0);
      }
    }
    due("lend(7, 0, 99)", x.lend(7, 0, 99), 0);
    due("lend(7, 0, 100)", x.lend(7, 0, 100), -1);
    due("lend(7, 0, -1)", x.lend(7, 0, -1), -1);
    due("lend(7, 0, MOST)", x.lend(7, 0, MOST), -1);
    due("lend(7, 0, LEAST)", x.lend(7, 0, LEAST), -1);
    due("owed(7, 0)", x.owed(7, 0), 99);
    due("owed(0, 7)", x.owed(0, 7), 0);
    due("lend(7, 0, 0)", x.lend(7, 0, 0), 99);
    due("owed(7, 0)", x.owed(7, 0), 0);
  }

  private static void seen() {
    of("SEEN, 8 at most: one sneezed and was blessed by another one, or by nobody");
    BlessLoan x = pair();
    for (int i = 1; i <= 8; i++) {
      due("seen " + i, x.seen(1, i % 2 == 0 ? 0 : NONE), i);
    }
    due("a ninth", x.seen(1, 0), -5);
    due("a ninth by nobody", x.seen(1, NONE), -5);
    due("count(3)", x.count(3), 8);
    due("forget()", x.forget(), 8);
    due("there is room again", x.seen(1, 0), 1);
  }

  private static void terms() {
    of("TERMS: 0 MINUTE 0 .. 9,999 (0 at first), 1 MOOD 0 .. 9 (0)");
    int[] most = {9999, 9};
    for (int what = 0; what < 2; what++) {
      BlessLoan x = new BlessLoan();
      due("at first", x.count(13 + what), 0);
      due("the most", x.terms(what, most[what]), 0);
      due("one more", x.terms(what, most[what] + 1), -1);
      due("below 0", x.terms(what, -1), -1);
      due("MOST", x.terms(what, MOST), -1);
      due("LEAST", x.terms(what, LEAST), -1);
      due("count(" + (13 + what) + ")", x.count(13 + what), most[what]);
      due("the other one", x.count(14 - what), 0);
      due("0", x.terms(what, 0), most[what]);
    }
    for (int what : new int[] {-1, 2, LEAST, MOST}) {
      due("terms(" + what + ", 0)", new BlessLoan().terms(what, 0), -1);
    }
  }

  private static void refusedInOrder() {
    of("The first of these in that order.");
    BlessLoan x = eight();
    for (int i = 0; i < 8; i++) {
      x.seen(0, 1);
    }
    due("mask: -1, -2", x.mask(9, 2), -1);
    due("lend: -1, -2", x.lend(9, 0, 100), -1);
    due("lend: itself, -2", x.lend(9, 9, 5), -1);
    due("person: -1, -5", x.person(25, 0, 0, 0), -1);
    due("step: -1, -2", x.step(9, 25), -1);
    due("step: -1, -3", x.step(0, 25), -1);
    due("step: -2, -3", x.step(9, 12), -2);
    due("forgive: -2, -3", x.forgive(0, 9), -2);
    due("forgive: -2, itself", x.forgive(9, 9), -2);
    due("seen: itself, -2, -5", x.seen(9, 9), -1);
    due("seen: itself, -5", x.seen(0, 0), -1);
    due("seen: -2, -5", x.seen(9, 0), -2);
    due("seen: by -2, -5", x.seen(0, 9), -2);
    for (int i = 0; i < 6; i++) {
      law(x, "bars");
    }
    due("law: -5, -6", law(x, "no law"), -5);
    int[] want = {8, 5, 0, 1, 0};
    for (int i = 0; i < 5; i++) {
      due("count(" + (7 + i) + ")", x.count(7 + i), want[i]);
    }
  }

  // ---- III: what happens

  private static void blessings() {
    of("the one of all others who are not MASKED, HEAR it and are not BARRED who is nearest");
    BlessLoan x = new BlessLoan();
    x.person(0, 0, 9, 0);
    due("no others", x.of(0, 7), NONE);
    due("sneeze(0)", x.sneeze(0), 100);
    x.person(24, 0, 7, 0);
    due("one too far by one", x.of(0, 7), NONE);
    x.person(24, 0, 8, 0);
    due("one just near enough", x.of(0, 7), 2);
    x.person(0, 0, 0, 0);
    due("one without ears in the same place", x.of(0, 7), 3);
    x.mask(3, 1);
    due("that one masked", x.of(0, 7), 2);
    x.mask(3, 0);
    inForce(x, "bars if person=3");
    due("that one barred", x.of(0, 7), 2);
    due("its own sneeze", x.of(3, 7), 0);
    of("the eldest of alike ones, then the lowest; by nobody without such");
    BlessLoan y = new BlessLoan();
    y.person(12, 99, 9, 0);
    y.person(7, 10, 9, 0);
    y.person(11, 10, 9, 0);
    due("the lowest", y.of(0, 7), 1);
    y.person(13, 11, 9, 0);
    due("the eldest", y.of(0, 7), 3);
    y.person(17, 11, 9, 0);
    due("the lowest of the eldest", y.of(0, 7), 3);
    y.person(22, 99, 9, 0);
    due("an elder one farther off", y.of(0, 7), 3);
    for (int i = 1; i < 6; i++) {
      y.mask(i, 1);
    }
    due("nobody", y.of(0, 7), NONE);
  }

  private static void debts() {
    of("Who blesses, if it OWES the one who sneezed, OWES that one less by 1");
    BlessLoan x = pair();
    x.lend(1, 0, 1);
    x.sneeze(0);
    due("owed(1, 0)", x.owed(1, 0), 0);
    due("owed(0, 1)", x.owed(0, 1), 0);
    x.lend(1, 0, 99);
    x.lend(0, 1, 99);
    x.sneeze(0);
    due("owed(1, 0)", x.owed(1, 0), 98);
    due("owed(0, 1)", x.owed(0, 1), 99);
    of("else the one who sneezed OWES it more by what is OWED (99 at most)");
    for (int was = 96; was <= 99; was++) {
      x.lend(1, 0, 0);
      x.lend(0, 1, was);
      x.sneeze(0);
      due("owed(0, 1) from " + was, x.owed(0, 1), Math.min(99, was + 2));
    }
    inForce(x, "owes 9");
    x.lend(0, 1, 91);
    x.sneeze(0);
    due("owed(0, 1) from 91", x.owed(0, 1), 99);
    inForce(x, "owes 0");
    x.lend(0, 1, 0);
    due("blessed for nothing", x.sneeze(0), 1);
    due("owed(0, 1)", x.owed(0, 1), 0);
  }

  private static void steps() {
    of("To STEP: to a PLACE 1 FAR.");
    for (int from = 0; from < 25; from++) {
      for (int to = 0; to < 25; to++) {
        BlessLoan x = new BlessLoan();
        x.person(from, 0, 0, 0);
        int far = Math.abs(from % 5 - to % 5) + Math.abs(from / 5 - to / 5);
        due("step from " + from + " to " + to, x.step(0, to), far == 1 ? from : -3);
        due("of(0, 0)", x.of(0, 0), far == 1 ? to : from);
      }
    }
    of("To FORGIVE: nothing is OWED by one to the other any more.");
    BlessLoan x = pair();
    x.lend(0, 1, 1);
    x.lend(1, 0, 99);
    due("forgive(0, 1)", x.forgive(0, 1), 1);
    due("owed(0, 1)", x.owed(0, 1), 0);
    due("owed(1, 0)", x.owed(1, 0), 99);
  }

  private static void rings() {
    of("To CLEAR a RING: people, none twice, of whom each OWES the next, the last one the first");
    BlessLoan x = four();
    x.lend(0, 1, 1);
    x.lend(1, 2, 1);
    x.lend(2, 3, 1);
    due("a row is no ring", x.ring(NONE), NONE);
    x.lend(3, 1, 99);
    due("it need not begin with 0", x.ring(NONE), 3);
    due("ring(0)", x.ring(0), 1);
    x.lend(3, 1, 0);
    x.lend(3, 0, 99);
    due("all four", x.ring(NONE), 4);
    of("of the shortest RING (the first as a row that begins with its lowest PERSON)");
    x.lend(3, 2, 50);
    due("two are shorter", x.ring(NONE), 2);
    due("ring(0)", x.ring(0), 2);
    due("ring(1)", x.ring(1), 3);
    x.lend(2, 1, 5);
    due("the first of two", x.ring(0), 1);
    due("the first of two", x.ring(1), 2);
    BlessLoan y = eight();
    y.lend(0, 5, 1);
    y.lend(5, 1, 1);
    y.lend(1, 0, 1);
    y.lend(0, 4, 1);
    y.lend(4, 7, 1);
    y.lend(7, 0, 1);
    due("the first as a row: 0 4 7", y.ring(1), 4);
    due("the first as a row: 0 4 7", y.ring(2), 7);
    y.lend(4, 2, 1);
    y.lend(2, 0, 1);
    due("the first as a row: 0 4 2", y.ring(2), 2);
    of("each OWES the next less by what is the least of these");
    BlessLoan z = four();
    z.lend(0, 1, 99);
    z.lend(1, 2, 99);
    z.lend(2, 0, 98);
    due("clear()", z.clear(), 98);
    due("undo()", z.undo(), 3);
    due("owed(2, 0)", z.owed(2, 0), 98);
    due("clear()", z.clear(), 98);
    due("owed(0, 1)", z.owed(0, 1), 1);
    due("owed(1, 2)", z.owed(1, 2), 1);
    due("owed(2, 0)", z.owed(2, 0), 0);
    z.lend(2, 0, 99);
    z.lend(0, 1, 99);
    z.lend(1, 2, 99);
    due("all alike", z.clear(), 99);
    due("count(2)", z.count(2), 0);
    ringsUndone();
  }

  private static void ringsUndone() {
    BlessLoan x = four();
    x.lend(1, 2, 7);
    x.lend(2, 3, 5);
    x.lend(3, 1, 6);
    due("a ring without 0", x.clear(), 5);
    due("undo()", x.undo(), 3);
    due("owed(1, 2)", x.owed(1, 2), 7);
    due("owed(2, 3)", x.owed(2, 3), 5);
    due("owed(3, 1)", x.owed(3, 1), 6);
    BlessLoan y = eight();
    for (int i = 0; i < 8; i++) {
      y.lend(i, (i + 3) % 8, 10 + i);
    }
    due("a ring of all eight", y.clear(), 10);
    due("a minute behind it", y.pass(), 1);
    due("undo()", y.undo(), 4);
    due("undo()", y.undo(), 3);
    for (int i = 0; i < 8; i++) {
      due("owed(" + i + ", " + (i + 3) % 8 + ")", y.owed(i, (i + 3) % 8), 10 + i);
    }
    due("count(2)", y.count(2), 108);
  }

  private static void minutes() {
    of("A minute: it is the next MINUTE (at 9,999 it can't be).");
    BlessLoan x = pair();
    x.terms(0, 9997);
    due("pass()", x.pass(), 9998);
    due("pass()", x.pass(), 9999);
    due("pass()", x.pass(), -3);
    due("pass() by orders", orders(x, "pass"), -3);
    due("count(13)", x.count(13), 9999);
    due("undo()", x.undo(), 4);
    due("pass()", x.pass(), 9999);
  }

  // ---- III: on paper

  private static void gains() {
    of("GAIN of a PERSON in a PLACE, all others where they are: of all others whom it would bless");
    BlessLoan x = new BlessLoan();
    x.person(0, 0, 8, 9);
    due("no others", x.gain(0, 0), 0);
    x.person(24, 0, 0, 3);
    due("from the other corner", x.gain(0, 0), 8);
    due("in the same place", x.gain(0, 24), 8);
    due("the other one where 0 is", x.gain(1, 0), 20);
    due("the other one beside it", x.gain(1, 1), 0);
    x.dust(24, 9);
    due("ten of ten at most", x.gain(0, 0), 20);
    inForce(x, "owes 9");
    due("nine at most", x.gain(0, 0), 90);
    inForce(x, "owes 0");
    due("nothing is owed", x.gain(0, 0), 0);
    of("together (debts aside)");
    x.force(NONE);
    x.lend(0, 1, 99);
    x.lend(1, 0, 99);
    due("debts aside", x.gain(0, 0), 20);
    of("To STAND: the PLACE of the greatest GAIN; the lowest.");
    due("the lowest of all", x.stand(0, 0), 0);
    due("the only one", x.stand(1, 0), 0);
    due("its gain", x.stand(1, 1), 20);
    inForce(x, "hears 0");
    due("the last place", x.stand(0, 0), 24);
    x.mask(0, 1);
    due("0 everywhere", x.stand(0, 0), 0);
    due("0 everywhere", x.stand(0, 1), 0);
  }

  private static void alikeOnPaper() {
    of("the eldest of alike ones, then the lowest");
    BlessLoan x = new BlessLoan();
    x.person(11, 50, 9, 0);
    x.person(13, 50, 9, 0);
    x.person(12, 50, 9, 0);
    due("the lower one, as far as the other one", x.gain(0, 11), 2);
    due("the higher one, as far as the other one", x.gain(1, 13), 0);
    due("the higher one, nearer", x.gain(1, 12), 4);
    due("between both", x.gain(2, 12), 4);
    due("in a place with the lower one", x.gain(2, 13), 2);
    x.seen(2, 0);
    int beside = 1 << 7 | 1 << 11 | 1 << 12 | 1 << 13 | 1 << 17;
    due("where the lower one can have stood", x.can(0), beside);
    x.forget();
    x.seen(2, 1);
    due("where the higher one can have stood", x.can(1), 1 << 12);
    BlessLoan y = new BlessLoan();
    y.person(11, 50, 9, 0);
    y.person(13, 51, 9, 0);
    y.person(12, 50, 9, 0);
    due("the younger one", y.gain(0, 11), 0);
    due("the elder one", y.gain(1, 13), 2);
  }

  private static void onPaper() {
    of("(On paper:)");
    for (int i = 0; i < 10; i++) {
      BlessLoan x = fourAndLaw();
      String was = townOf(x);
      askOnPaper(x, i);
      due("all behind question " + i, townOf(x), was);
      BlessLoan y = fourAndLaw();
      askOnPaper(y, i);
      due("who blesses 0 by orders behind it", orders(y, "sneeze 0; pass if latest=1"), 2);
      askOnPaper(y, i);
      due("who blesses 2 behind it", y.sneeze(2), 1);
      askOnPaper(y, i);
      due("of(2, 7) behind it", y.of(2, 7), 1);
      askOnPaper(y, i);
      due("asks(0, 1, 1) behind it", y.asks(0, 1, 1), 0);
    }
  }

  private static BlessLoan fourAndLaw() {
    BlessLoan x = four();
    law(x, "bars");
    x.seen(0, 1);
    return x;
  }

  private static int askOnPaper(BlessLoan x, int question) {
    switch (question) {
      case 0: return x.gain(1, 24);
      case 1: return x.stand(1, 0);
      case 2: return x.rests(1);
      case 3: return x.round(1, 0);
      case 4: return x.masks(1);
      case 5: return x.can(1);
      case 6: return x.listen(1, 0);
      case 7: return x.compare(0);
      case 8: return x.hours(4, 60);
      default: return x.hours(4, 61);
    }
  }

  /** Each goes where the next one is, the last one a step on from the first one, till place 0. */
  private static BlessLoan slowRow(int people, int start) {
    BlessLoan x = new BlessLoan();
    for (int i = 0; i < people; i++) {
      x.person(start, 0, 0, 0);
    }
    inForce(x, "hears 20;sneezes 10;owes 9-far;owes 5 if person=0 and place>0;"
        + "owes 9 if person=0 and place>0 and far=1;owes 0 if person=0 and far>1;"
        + "bars if not (other=person+1 or person=" + (people - 1) + " and other=0)");
    return x;
  }

  private static void rest() {
    of("if that is more than where they are, till nobody goes in a round");
    BlessLoan x = pairIn(24, 23);
    due("nobody goes for no more", x.rests(NONE), 1);
    due("rests(0)", x.rests(0), 24);
    due("rests(1)", x.rests(1), 23);
    due("at once, as they are there", slowRow(7, 0).rests(NONE), 1);
    due("a step of seven people", slowRow(7, 1).rests(NONE), 8);
    BlessLoan y = pairIn(10, 20);
    y.dust(14, 8);
    y.dust(16, 9);
    inForce(y, "hears 20; sneezes 1; bars if not dust=8+person");
    due("one goes as far on as the other one back", y.rests(NONE), 2);
    due("rests(0)", y.rests(0), 14);
    due("rests(1)", y.rests(1), 16);
    of("(50 rounds at most)");
    BlessLoan fifty = slowRow(7, 24);
    due("in 50 rounds", fifty.rests(NONE), 50);
    for (int i = 0; i < 7; i++) {
      due("rests(" + i + ") in 50 rounds", fifty.rests(i), 0);
    }
    due("44 rounds", slowRow(8, 18).rests(NONE), 44);
    BlessLoan more = slowRow(8, 19);
    due("in 51 rounds", more.rests(NONE), NONE);
    due("rests(0) in 51 rounds", more.rests(0), NONE);
    due("rests(7) in 51 rounds", more.rests(7), NONE);
    due("of(7, 0), as it is on paper", more.of(7, 0), 19);
  }

  private static void round() {
    of("A ROUND from where one is through the PLACES of all whom it OWES, the fewest steps");
    BlessLoan x = new BlessLoan();
    int[] places = {12, 0, 4, 20, 24, 2, 10, 14};
    for (int place : places) {
      x.person(place, 0, 0, 0);
    }
    due("nobody", x.round(0, NONE), 0);
    due("nobody", x.round(0, 0), NONE);
    for (int i = 1; i < 8; i++) {
      x.lend(0, i, 1);
    }
    due("all seven", x.round(0, NONE), 16);
    int[] row = {3, 6, 1, 5, 2, 7, 4};
    for (int i = 0; i < 7; i++) {
      due("all seven, " + i, x.round(0, i), row[i]);
    }
    due("all seven, 7", x.round(0, 7), NONE);
    BlessLoan full = new BlessLoan();
    for (int i = 0; i < 8; i++) {
      full.person(3 * i, 0, 0, 0);
    }
    for (int i = 1; i < 8; i++) {
      full.lend(i, 0, 99);
    }
    due("whom all others owe", full.round(0, NONE), 0);
    due("whom all others owe", full.round(0, 0), NONE);
    for (int i = 1; i < 8; i++) {
      due("one debt of many, steps of " + i, full.round(i, NONE), 3 * i % 5 + 3 * i / 5);
      due("one debt of many, to whom by " + i, full.round(i, 0), 0);
      due("one debt of many, no more by " + i, full.round(i, 1), NONE);
    }
    of("the first as a row of people");
    BlessLoan y = eight();
    for (int i = 7; i > 0; i--) {
      y.lend(0, i, 1);
    }
    due("all in one place", y.round(0, NONE), 0);
    for (int i = 0; i < 7; i++) {
      due("all in one place, " + i, y.round(0, i), i + 1);
    }
  }

  private static void masks() {
    of("MASKS: the fewest people MASKED more so that GAINS of all are 0; the lowest as bits.");
    due("nobody there", new BlessLoan().masks(0), 0);
    BlessLoan x = eight();
    due("all but one of eight", x.masks(0), 7);
    due("the lowest", x.masks(1), 127);
    x.mask(0, 1);
    due("one is masked already", x.masks(0), 6);
    due("who: not that one", x.masks(1), 126);
    for (int i = 1; i < 7; i++) {
      x.mask(i, 1);
    }
    due("all but one are masked", x.masks(0), 0);
    due("who", x.masks(1), 0);
    BlessLoan y = four();
    inForce(y, "bars if not (person=1 and other>1 or person=2 and other=3); hears 20");
    due("the one who blesses two, or who sneezes", y.masks(0), 2);
    due("the lowest of two", y.masks(1), 6);
    inForce(y, "bars if not person=3; hears 20");
    due("the one who blesses all", y.masks(0), 1);
    due("who", y.masks(1), 8);
    inForce(y, "sneezes 0");
    due("nobody sneezes", y.masks(0), 0);
  }

  private static void stoodAndListened() {
    of("Where one CAN have stood: PLACES by which (all others where they are) each one SEEN");
    BlessLoan x = pairIn(12, 0);
    due("nothing is seen: everywhere", x.can(0), ALL_PLACES);
    x.seen(1, 0);
    due("it hears 9 far: everywhere", x.can(0), ALL_PLACES);
    x.seen(1, NONE);
    due("both can't be: nowhere", x.can(0), 0);
    BlessLoan y = new BlessLoan();
    y.person(12, 0, 0, 0);
    y.person(24, 0, 0, 0);
    y.seen(1, 0);
    due("in the last place", y.can(0), 1 << 24);
    y.forget();
    y.seen(1, NONE);
    due("everywhere but there", y.can(0), ALL_PLACES & ~(1 << 24));
    of("the most of these PLACES by which one and the same would bless it (or nobody)");
    y.forget();
    due("24 of 25 do not hear", y.listen(0, 1), 24);
    due("its own sneeze, or the other one's: the lowest", y.listen(0, 0), 0);
    y.seen(1, 0);
    due("one place is left", y.listen(0, 1), 1);
    due("the lowest", y.listen(0, 0), 0);
    y.forget();
    due("all are left again", y.listen(0, 1), 24);
    due("the lowest again", y.listen(0, 0), 0);
    y.seen(1, 0);
    y.seen(1, NONE);
    due("nowhere", y.listen(0, 0), NONE);
    due("nowhere", y.listen(0, 1), NONE);
    BlessLoan z = new BlessLoan();
    z.person(0, 0, 0, 0);
    z.person(0, 0, 1, 0);
    z.person(24, 0, 9, 0);
    z.mask(2, 1);
    due("the one sought is blessed as far as 1 hears", z.listen(2, 1), 22);
    due("the sneeze of the one sought, too", z.listen(2, 0), 2);
  }

  private static void often() {
    of("the chance, of 1,000,000,000,000 parts, that a PERSON sneezes k times or more in n minutes");
    BlessLoan x = pair();
    long whole = 1000000000000L;
    due("0 times in no minute", x.often(0, 0, 0), whole);
    due("once in no minute", x.often(0, 1, 0), 0);
    due("0 times in 60", x.often(0, 0, 60), whole);
    due("more often than minutes", x.often(0, 13, 12), 0);
    due("as often as minutes", x.often(0, 12, 12), 16777216);
    due("once in 12", x.often(0, 1, 12), whole - 2176782336L);
    due("11 in 12", x.often(0, 11, 12), 16777216 + 12L * 6 * 4194304);
    inForce(x, "sneezes 0");
    due("never", x.often(0, 1, 60), 0);
    due("never, 0 times", x.often(0, 0, 60), whole);
    inForce(x, "sneezes 10");
    due("always: 20 in 20", x.often(0, 20, 20), whole);
    due("always: 20 in 19", x.often(0, 20, 19), 0);
    due("always: 20 in 60", x.often(0, 20, 60), whole);
    of("each part is cut");
    inForce(x, "sneezes 1");
    due("12 in 12", x.often(0, 12, 12), 1);
    due("13 in 13", x.often(0, 13, 13), 0);
    due("once in 13: a part less than 1 is none", x.often(0, 1, 13), cutOnce(13));
    due("once in 60", x.often(0, 1, 60), cutOnce(60));
  }

  /** Once or more in so many minutes in one of ten: what has not sneezed is cut each minute. */
  private static long cutOnce(int minutes) {
    long none = 1000000000000L;
    long come = 0;
    for (int i = 0; i < minutes; i++) {
      come += none / 10;
      none = none * 9 / 10;
    }
    return come;
  }

  private static void compared() {
    of("COMPARED: by a LAW in place of that in FORCE (NONE: none): GAINS of all together.");
    due("nobody", new BlessLoan().compare(NONE), 0);
    BlessLoan x = eight();
    due("none", x.compare(NONE), 8 * 6 * 2);
    inForce(x, "sneezes 10; owes 9");
    law(x, "bars");
    due("the most", x.compare(0), 720);
    due("none", x.compare(NONE), 96);
    due("nobody may bless", x.compare(1), 0);
    due("no such", x.compare(2), NONE);
    due("the one in force stays", x.count(12), 0);
  }

  // ---- IV: hours, rows, images

  private static void hours() {
    of("n minutes 1 .. 60");
    BlessLoan x = pair();
    inForce(x, "sneezes 10");
    due("hours(0, 0)", x.hours(0, 0), -1);
    due("hours(0, -1)", x.hours(0, -1), -1);
    due("hours(0, 1)", x.hours(0, 1), 2);
    due("hours(0, 60)", x.hours(0, 60), 120);
    due("hours(0, 61)", x.hours(0, 61), -1);
    due("hours(0, MOST)", x.hours(0, MOST), -1);
    due("hours(0, LEAST)", x.hours(0, LEAST), -1);
    of("s is the SEED (0 .. 1,000,000)");
    due("hours(-1, 1)", x.hours(-1, 1), -1);
    due("hours(1000000, 1)", x.hours(1000000, 1), 2);
    due("hours(1000001, 1)", x.hours(1000001, 1), -1);
    due("hours(MOST, 1)", x.hours(MOST, 1), -1);
    due("hours(LEAST, 1)", x.hours(LEAST, 1), -1);
    of("s becomes (s times 1103 and 12345) modulo 1,000,003, it is s modulo m");
    for (int seed : new int[] {0, 1, 895, 896, 999999, 1000000}) {
      for (int chance = 0; chance <= 10; chance++) {
        BlessLoan y = new BlessLoan();
        y.person(12, 0, 0, 0);
        inForce(y, "sneezes " + chance);
        int[] want = drawn(seed, 12, chance, 60);
        due("sneezes of " + seed + " by " + chance, y.hours(seed, 60), want[0]);
        due("place by " + seed, y.drawn(0, 0), want[1]);
      }
    }
    of("(at MINUTE 9,999 it ends)");
    x.terms(0, 9998);
    due("a minute is left", x.hours(3, 60), 2);
    x.terms(0, 9939);
    due("sixty are left", x.hours(3, 60), 120);
    x.terms(0, 9999);
    due("none is left", x.hours(3, 60), 0);
    due("nobody has gone", x.drawn(0, 0), 12);
    of("then it STEPS up (0: y less), right, down, left, if that PLACE is there");
    for (int place : new int[] {0, 2, 4, 10, 14, 20, 22, 24}) {
      for (int seed = 0; seed < 8; seed++) {
        BlessLoan y = new BlessLoan();
        y.person(place, 0, 0, 0);
        y.hours(seed, 1);
        due("a step from " + place + " by " + seed, y.drawn(0, 0), drawn(seed, place, 0, 1)[1]);
      }
    }
  }

  /** How often one alone sneezes, and where it is then. */
  private static int[] drawn(int seed, int place, int chance, int minutes) {
    long s = seed;
    int sneezes = 0;
    int x = place % 5;
    int y = place / 5;
    for (int i = 0; i < minutes; i++) {
      s = (s * 1103 + 12345) % 1000003;
      sneezes += s % 10 < chance ? 1 : 0;
      s = (s * 1103 + 12345) % 1000003;
      int way = (int) (s % 4);
      x = Math.max(0, Math.min(4, x + (way == 1 ? 1 : way == 3 ? -1 : 0)));
      y = Math.max(0, Math.min(4, y + (way == 2 ? 1 : way == 0 ? -1 : 0)));
    }
    return new int[] {sneezes, 5 * y + x};
  }

  private static void rows() {
    of("one that can't be, one within which the TAPE ends, one for which there is no room");
    String[] cannot = {"\31\0\0\0", "\0\144\0\0", "\0\0\12\0", "\0\0\0\12", "\377\0\0\0",
        "\0\377\0\0", "\0\0\377\0", "\0\0\0\377", "\200\0\0\0", "\0", "\0\0", "\0\0\0"};
    for (String bytes : cannot) {
      BlessLoan x = new BlessLoan();
      due("row()", row(x, bytes), 0);
      due("status()", x.status(), 0);
      due("hiccups()", x.hiccups(), 1);
      due("count(0)", x.count(0), 0);
    }
    BlessLoan x = new BlessLoan();
    due("the most of each", row(x, "\30\143\11\11"), 1);
    due("the least of each", row(x, "\0\0\0\0"), 1);
    due("one behind a hiccup", row(x, "\31\0\0\0" + "\1\2\3\4" + "\0\0"), 1);
    due("hiccups()", x.hiccups(), 2);
    due("of(2, 0)", x.of(2, 0), 1);
    due("six for five", row(x, "\0\0\0\0".repeat(6)), 5);
    due("hiccups()", x.hiccups(), 1);
    due("all of a hundred", row(x, "\0\0\0\0".repeat(100)), 0);
    due("hiccups()", x.hiccups(), 100);
    due("a hundred for eight", row(new BlessLoan(), "\0\0\0\0".repeat(100)), 8);
  }

  private static void images() {
    of("IMAGES 0, 1 keep all but the TAPE, FAULT, HICCUPS, where ORDERS stopped");
    BlessLoan x = four();
    x.image(0);
    x.image(1);
    x.feed(0, 0, 0, 0, 0);
    row(x, "\0");
    due("a hiccup", x.hiccups(), 1);
    orders(x, "pass;sneeze 9");
    law(x, "bars bars");
    x.feed(0, 0, 0, 0, 0);
    x.back(0);
    due("the tape", x.count(6), 20);
    due("the fault", x.fault(), 5);
    due("hiccups()", x.hiccups(), 1);
    due("stopped()", x.stopped(), 1);
    of("what can be undone (nothing, behind back()), the latest HOURS");
    x.pass();
    x.image(1);
    due("image() leaves what can be undone", x.count(5), 1);
    x.terms(0, 9999);
    x.hours(1, 1);
    x.pass();
    x.step(0, 5);
    x.back(1);
    due("count(5)", x.count(5), 0);
    due("undo()", x.undo(), -3);
    due("the minute stays", x.count(13), 1);
    due("drawn(0, 0)", x.drawn(0, 0), 0);
    of("BACK to one all that it keeps is as it was then (IMAGES stay)");
    x.dust(0, 9);
    x.back(0);
    due("image 0 is without the minute", x.count(13), 0);
    due("back(1) again", x.back(1), 0);
    due("image 1 is with it", x.count(13), 1);
    due("at(0, 0)", x.at(0, 0), 1);
    due("back(0) again", x.back(0), 0);
    due("count(13)", x.count(13), 0);
    due("a refused back()", x.back(2), -1);
    x.pass();
    x.back(2);
    due("a refused back() leaves what can be undone", x.count(5), 1);
  }

  public static void main(String[] args) {
    Runnable[] sentences = {
        TermsTest::places, TermsTest::far, TermsTest::dust, TermsTest::people, TermsTest::traits,
        TermsTest::owed, TermsTest::seen, TermsTest::terms, TermsTest::refusedInOrder,
        TermsTest::blessings, TermsTest::debts, TermsTest::steps, TermsTest::rings,
        TermsTest::minutes, TermsTest::gains, TermsTest::alikeOnPaper, TermsTest::onPaper,
        TermsTest::rest, TermsTest::round, TermsTest::masks, TermsTest::stoodAndListened,
        TermsTest::often, TermsTest::compared, TermsTest::hours, TermsTest::rows,
        TermsTest::images};
    for (Runnable sentence : sentences) {
      sentence.run();
    }
    close("the edges of the terms hold");
  }
}
