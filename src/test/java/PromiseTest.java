/** For each promise of the document ordinary inputs, the edges it names, and wrong inputs. */
public final class PromiseTest extends Checks {
  private static void promise1() {
    BlessLoan x = new BlessLoan();
    for (int what = 0; what <= 11; what++) {
      due("count(" + what + ")", x.count(what), 0);
    }
    due("count(12)", x.count(12), NONE);
    due("count(13)", x.count(13), 0);
    due("count(14)", x.count(14), 0);
    due("at(24, 0)", x.at(24, 0), 1);
    due("at(24, 1)", x.at(24, 1), 0);
    due("fault()", x.fault(), NONE);
    due("stopped()", x.stopped(), NONE);
    due("status()", x.status(), 0);
  }

  private static void promise2() {
    BlessLoan x = new BlessLoan();
    due("dust(0, 9)", x.dust(0, 9), 1);
    due("dust(0, 0)", x.dust(0, 0), 9);
    due("dust(24, 5)", x.dust(24, 5), 1);
    due("at(24, 0)", x.at(24, 0), 5);
    due("dust(25, 1)", x.dust(25, 1), -1);
    due("dust(-1, 1)", x.dust(-1, 1), -1);
    due("dust(3, 10)", x.dust(3, 10), -1);
    due("dust(3, -1)", x.dust(3, -1), -1);
    due("at(3, 0)", x.at(3, 0), 1);
    due("count(7)", x.count(7), 4);
  }

  private static void promise3() {
    BlessLoan x = four();
    x.person(24, 1, 1, 1);
    due("at(24, 1)", x.at(24, 1), 2);
    due("at(2, 1)", x.at(2, 1), 0);
    due("at(2, 2)", x.at(2, 2), NONE);
    due("at(2, -1)", x.at(2, -1), NONE);
    due("at(-1, 0)", x.at(-1, 0), NONE);
    due("at(25, 1)", x.at(25, 1), NONE);
    due("count(7)", x.count(7), 0);
  }

  private static void promise4() {
    BlessLoan x = new BlessLoan();
    due("person(-1, 0, 0, 0)", x.person(-1, 0, 0, 0), -1);
    due("person(0, -1, 0, 0)", x.person(0, -1, 0, 0), -1);
    due("person(0, 0, -1, 0)", x.person(0, 0, -1, 0), -1);
    due("person(0, 0, 0, -1)", x.person(0, 0, 0, -1), -1);
    due("person(0, 0, 0, 10)", x.person(0, 0, 0, 10), -1);
    for (int i = 0; i < 8; i++) {
      due("person " + i, x.person(24, 99, 9, 9), i);
    }
    due("a ninth", x.person(0, 0, 0, 0), -5);
    due("a ninth that can't be", x.person(0, 100, 0, 0), -1);
    due("count(0)", x.count(0), 8);
    due("count(10)", x.count(10), 1);
  }

  private static void promise5() {
    BlessLoan x = four();
    int[] want = {6, 50, 1, 5, 0, 6, 1, 1};
    for (int what = 0; what < 8; what++) {
      due("of(2, " + what + ")", x.of(2, what), want[what]);
    }
    due("of(2, 8)", x.of(2, 8), NONE);
    due("of(2, -1)", x.of(2, -1), NONE);
    due("of(4, 0)", x.of(4, 0), NONE);
    due("of(-1, 0)", x.of(-1, 0), NONE);
    x.dust(6, 9);
    due("10 at most", x.of(2, 5), 10);
    x.mask(2, 1);
    due("of(2, 4)", x.of(2, 4), 1);
    due("of(2, 5)", x.of(2, 5), 0);
    due("a masked one is blessed", x.of(2, 7), 1);
    due("a masked one does not bless", x.of(1, 7), 0);
    blessers();
    lawsAsked();
  }

  private static void blessers() {
    BlessLoan x = new BlessLoan();
    x.person(12, 0, 0, 0);
    due("nobody is there", x.of(0, 7), NONE);
    x.person(14, 50, 1, 0);
    due("it is too far", x.of(0, 7), NONE);
    x.person(10, 50, 2, 0);
    due("just heard", x.of(0, 7), 2);
    x.person(22, 50, 9, 0);
    due("the lowest of alike ones", x.of(0, 7), 2);
    x.person(2, 51, 9, 0);
    due("the eldest", x.of(0, 7), 4);
    x.person(11, 1, 9, 0);
    due("the nearest", x.of(0, 7), 5);
    x.person(12, 1, 0, 0);
    due("in the same place", x.of(0, 7), 6);
  }

  private static void lawsAsked() {
    BlessLoan x = pair();
    inForce(x, "sneezes 11 if person = 0; sneezes 0-5 if person = 1; hears 30 if person = 0;"
        + "hears 0-1 if person = 1");
    due("10 at most", x.of(0, 5), 10);
    due("0 at least", x.of(1, 5), 0);
    due("20 at most", x.of(0, 6), 20);
    due("0 at least", x.of(1, 6), 0);
    due("1 hears nothing", x.of(0, 7), NONE);
    due("0 hears", x.of(1, 7), 0);
    inForce(x, "sneezes 3; sneezes 4; sneezes 5 if 1 = 2; sneezes 6 / 0; sneezes 7 if 1 / 0 = 0");
    due("the last that holds", x.of(0, 5), 4);
    inForce(x, "sneezes 5 if other = 0-1 and far = 0-1; hears 7 if other + far = 0-2");
    due("without other, far", x.of(0, 5), 5);
    due("without other, far", x.of(1, 6), 7);
    inForce(x, "bars if far < 2 and person = 1 and other = 0");
    due("barred", x.of(0, 7), NONE);
    due("not barred", x.of(1, 7), 0);
    inForce(x, "owes 3");
    due("dust and cold without", x.of(0, 5), 4);
    due("ears without", x.of(1, 6), 5);
  }

  private static void promise6() {
    BlessLoan x = four();
    due("mask(0, 1)", x.mask(0, 1), 0);
    due("mask(0, 1)", x.mask(0, 1), 1);
    due("mask(0, 0)", x.mask(0, 0), 1);
    due("mask(0, 2)", x.mask(0, 2), -1);
    due("mask(9, -1)", x.mask(9, -1), -1);
    due("mask(4, 1)", x.mask(4, 1), -2);
    due("mask(-1, 1)", x.mask(-1, 1), -2);
    due("count(1)", x.count(1), 0);
  }

  private static void promise7() {
    BlessLoan x = four();
    x.lend(2, 3, 99);
    due("owed(2, 3)", x.owed(2, 3), 99);
    due("owed(3, 2)", x.owed(3, 2), 0);
    due("owed(2, 2)", x.owed(2, 2), NONE);
    due("owed(2, 4)", x.owed(2, 4), NONE);
    due("owed(-1, 2)", x.owed(-1, 2), NONE);
  }

  private static void promise8() {
    BlessLoan x = four();
    due("lend(0, 1, 99)", x.lend(0, 1, 99), 0);
    due("lend(0, 1, 0)", x.lend(0, 1, 0), 99);
    due("lend(0, 1, 100)", x.lend(0, 1, 100), -1);
    due("lend(0, 1, -1)", x.lend(0, 1, -1), -1);
    due("lend(1, 1, 1)", x.lend(1, 1, 1), -1);
    due("lend(0, 4, 1)", x.lend(0, 4, 1), -2);
    due("lend(-1, 0, 1)", x.lend(-1, 0, 1), -2);
    due("lend(9, 9, 1)", x.lend(9, 9, 1), -1);
  }

  private static void promise9() {
    BlessLoan x = four();
    x.lend(0, 1, 10);
    x.lend(2, 1, 20);
    x.lend(1, 3, 7);
    due("net(1)", x.net(1), 23);
    due("net(0)", x.net(0), -10);
    due("net(4)", x.net(4), -100000);
    due("net(-1)", x.net(-1), -100000);
  }

  private static void promise10() {
    BlessLoan x = new BlessLoan();
    due("terms(0, 9999)", x.terms(0, 9999), 0);
    due("terms(0, 0)", x.terms(0, 0), 9999);
    due("terms(1, 9)", x.terms(1, 9), 0);
    due("terms(1, 10)", x.terms(1, 10), -1);
    due("terms(1, -1)", x.terms(1, -1), -1);
    due("terms(0, 10000)", x.terms(0, 10000), -1);
    due("terms(0, -1)", x.terms(0, -1), -1);
    due("terms(-1, 0)", x.terms(-1, 0), -1);
    due("terms(2, 0)", x.terms(2, 0), -1);
    due("count(14)", x.count(14), 9);
  }

  private static void promise11() {
    BlessLoan x = new BlessLoan();
    for (int i = 1; i <= 20; i++) {
      due("feed", x.feed(0, 0, 0, 0, 0), 20 * i);
    }
    due("a feed more", x.feed(0, 0, 0, 0, 0), NONE);
    due("status()", x.status(), 0);
    x.end(381);
    due("there would be 401", x.feed(0, 0, 0, 0, 0), NONE);
    x.end(380);
    due("there are 400", x.feed(0, 0, 0, 0, 0), 400);
    x.end(0);
    x.feed(0x18630909, 0x19000000, 0, 0xFF000000, 0);
    due("row(), the highest byte first", x.row(), 3);
    due("of(0, 0)", x.of(0, 0), 24);
    due("of(0, 1)", x.of(0, 1), 99);
    due("hiccups()", x.hiccups(), 2);
  }

  private static void promise12() {
    BlessLoan x = new BlessLoan();
    due("end(0)", x.end(0), 0);
    due("end(1)", x.end(1), NONE);
    x.feed(1, 2, 3, 4, 5);
    due("end(21)", x.end(21), NONE);
    due("end(-1)", x.end(-1), NONE);
    due("end(20)", x.end(20), 20);
    due("end(3)", x.end(3), 3);
    due("end(4)", x.end(4), NONE);
    due("count(6)", x.count(6), 3);
    due("status()", x.status(), 0);
  }

  private static void promise13() {
    BlessLoan x = new BlessLoan();
    due("row() of nothing", x.row(), -6);
    put(x, "\030\143\011\011" + "\031\000\000\000" + "\000\144\000\000" + "\000\000\012\000"
        + "\000\000\000\012" + "\001\002\003\004" + "\001\002\003");
    due("row()", x.row(), 2);
    due("hiccups()", x.hiccups(), 5);
    due("count(6)", x.count(6), 0);
    due("of(1, 0)", x.of(1, 0), 1);
    due("of(1, 1)", x.of(1, 1), 2);
    due("of(1, 2)", x.of(1, 2), 3);
    due("of(1, 3)", x.of(1, 3), 4);
    put(x, "\001\001\001\001".repeat(8));
    due("row() with room for six", x.row(), 6);
    due("hiccups()", x.hiccups(), 2);
    put(x, "\001");
    due("row() of a hiccup", x.row(), 0);
    due("status()", x.status(), 0);
  }

  private static void promise14() {
    BlessLoan x = new BlessLoan();
    due("hiccups()", x.hiccups(), 0);
    put(x, "\001\001\001\001\001");
    x.row();
    due("hiccups()", x.hiccups(), 1);
    x.row();
    due("hiccups() behind a refused row()", x.hiccups(), 1);
    put(x, "\001\001\001\001");
    x.row();
    due("hiccups()", x.hiccups(), 0);
  }

  private static void promise15() {
    BlessLoan x = new BlessLoan();
    due("law() of nothing", x.law(), -6);
    due("law() of blanks", law(x, "   "), -6);
    due("fault()", x.fault(), 3);
    for (int i = 0; i < 6; i++) {
      due("law " + i, law(x, "bars"), i);
    }
    due("fault()", x.fault(), NONE);
    due("a seventh law", law(x, "bars bars"), -5);
    due("count(6)", x.count(6), 0);
    due("fault() of no reading", x.fault(), NONE);
    due("count(4)", x.count(4), 6);
    due("a law of nothing without room", x.law(), -5);
    sums();
    tests();
  }

  private static void sums() {
    sum("1 + 2 * 3", 7);
    sum("9 - 3 - 2", 4);
    sum("9 - [3 - 2]", 8);
    sum("[1 + 2] * 3", 9);
    sum("17 / 5 * 2", 6);
    sum("0 - 7 / 2 + 9", 6);
    sum("[0 - 7] / 2 + 9", 6);
    sum("[0 - 7] % 2 + 5", 4);
    sum("7 % [0 - 4] + 2", 5);
    sum("person", 1);
    sum("place", 10);
    sum("place - 9", 4);
    sum("dust", 1);
    sum("age / 4", 5);
    sum("ears", 5);
    sum("cold", 7);
    sum("far + 4", 3);
    sum("other + 6", 5);
    sum("minute / 10", 7);
    sum("mood", 6);
    sum("00000000000000000000007", 7);
    sum("1000 - 995", 5);
    sum("2;sneezes1000*1000*1000-1000*1000*1000+6", 6);
    sum("2;sneezes 1000*1000*1000+1-1000*1000*1000", 2);
    sum("2;sneezes 0-1000*1000*1000-1+1000*1000*1000", 2);
    sum("2;sneezes 5 / 0", 2);
    sum("2;sneezes 5 % [1 - 1]", 2);
    sum("[[[[[[[[5]]]]]]]]", 5);
  }

  private static void tests() {
    test("1 < 2", 9);
    test("2 < 2", 0);
    test("3 > 2", 9);
    test("2 > 2", 0);
    test("2 = 2", 9);
    test("1 = 2", 0);
    test("not 1 = 2", 9);
    test("not not 1 = 2", 0);
    test("not 1 = 2 and 1 = 2", 0);
    test("not (1 = 2 and 1 = 2)", 9);
    test("1 = 1 or 1 = 2 and 1 = 2", 9);
    test("(1 = 1 or 1 = 2) and 1 = 2", 0);
    test("1 = 2 and 1 = 2 or 1 = 1", 9);
    test("1 = 1 or 1 / 0 = 1", 9);
    test("1 = 2 or 1 / 0 = 1", 0);
    test("not (1 = 2 and 1 / 0 = 1)", 9);
    test("not (1 = 1 and 1 / 0 = 1)", 0);
    test("1 / 0 = 1 or 1 = 1", 0);
    test("not 1 / 0 = 1", 0);
    test("1 = 2 and 1 / 0 = 1 or 1 = 1", 9);
  }

  private static void promise16() {
    BlessLoan x = pair();
    due("orders() of nothing", x.orders(), -6);
    due("orders() of blanks", orders(x, "  "), -6);
    due("two steps", orders(x, "step 0 to at 0 + 1 times 2"), 2);
    due("of(0, 0)", x.of(0, 0), 14);
    due("count(6)", x.count(6), 0);
    due("a step too far is none at all", orders(x, "pass times 3; step 0 to at 0 - 1 times 5"), -3);
    due("of(0, 0)", x.of(0, 0), 14);
    due("count(13)", x.count(13), 0);
    due("stopped()", x.stopped(), 1);
    due("count(9)", x.count(9), 1);
    due("count(8)", x.count(8), 0);
    due("no such person", orders(x, "sneeze 2"), -3);
    due("nothing is owed", orders(x, "forgive 0 by 1"), -3);
    due("no such place", orders(x, "step 0 to 25"), -3);
    due("a broken sum", orders(x, "sneeze 1 / 0"), -3);
    due("a broken second sum", orders(x, "step 0 to 1 / 0"), -3);
    due("a broken test", orders(x, "sneeze 1 / 0 if 1 / 0 = 1"), 0);
    due("a test that is not so", orders(x, "sneeze 9 times 20 if 1 > 2"), 0);
    orderWords();
    ordersThatFill();
  }

  private static void orderWords() {
    BlessLoan x = pair();
    due("done", orders(x, "pass times 20 if done < 7"), 7);
    due("minute", orders(x, "pass times 20 if minute < 9"), 2);
    due("latest: none", orders(x, "pass if latest = 0-1"), 1);
    due("latest", orders(x, "sneeze 0; pass if latest = 1; sneeze 1; pass if latest = 0"), 4);
    due("owed(0, 1)", x.owed(0, 1), 1);
    due("at", orders(x, "pass if at 0 = 12 and at 1 = 13 and at 2 = 0-1"), 1);
    x.lend(0, 1, 30);
    x.lend(1, 0, 40);
    due("owed, owes", orders(x, "pass if owed 0 = 40 and owes 0 = 30 and owed 7 + owes 7 = 0"), 1);
    due("who owes, to whom", orders(x, "forgive 0 by 1"), 1);
    due("owed(0, 1)", x.owed(0, 1), 0);
    due("owed(1, 0)", x.owed(1, 0), 40);
    x.mask(1, 1);
    x.mask(0, 1);
    due("latest: nobody", orders(x, "sneeze 0; pass if latest = 0-1"), 2);
    x.terms(0, 9998);
    due("a minute too many", orders(x, "pass times 2"), -3);
    due("count(13)", x.count(13), 9998);
  }

  private static void ordersThatFill() {
    BlessLoan x = pair();
    x.step(0, 11);
    for (int i = 0; i < 15; i++) {
      x.pass();
    }
    due("many, then one that can't be", orders(x, "pass times 20; sneeze 5"), -3);
    due("count(5)", x.count(5), 16);
    for (int i = 0; i < 15; i++) {
      due("undo()", x.undo(), 4);
    }
    due("the oldest is there still", x.undo(), 0);
    due("of(0, 0)", x.of(0, 0), 12);
  }

  private static void promise17() {
    BlessLoan x = new BlessLoan();
    law(x, "hears");
    due("fault()", x.fault(), 5);
    orders(x, "pass");
    due("fault()", x.fault(), NONE);
    lawFaults();
    limitFaults();
    orderFaults();
  }

  private static void lawFaults() {
    faultOfLaw("bars;bars", NONE);
    faultOfLaw("  bars  ", NONE);
    faultOfLaw("sneezes2if2<3", NONE);
    faultOfLaw("bars;", 5);
    faultOfLaw("bars ;  ", 8);
    faultOfLaw(";bars", 0);
    faultOfLaw("bars bars", 5);
    faultOfLaw("Bars", 0);
    faultOfLaw("barsif1=1", 0);
    faultOfLaw("bars if", 7);
    faultOfLaw("bars if 1", 9);
    faultOfLaw("bars if 1 +", 11);
    faultOfLaw("bars if 1 < 2 < 3", 14);
    faultOfLaw("bars if 1 == 1", 11);
    faultOfLaw("bars if (1 = 1", 14);
    faultOfLaw("bars if (1 = 1]", 14);
    faultOfLaw("bars if [1 = 1]", 11);
    faultOfLaw("bars if (1) = 1", 10);
    faultOfLaw("bars if [1 + 2] = 3", NONE);
    faultOfLaw("bars if not", 11);
    faultOfLaw("bars if 1 = 1 or", 16);
    faultOfLaw("bars if 1 = 1 and or", 18);
    faultOfLaw("bars if 1 = 1 if 2 = 2", 14);
    faultOfLaw("sneezes if 1 = 1", 8);
    faultOfLaw("sneezes -1", 8);
    faultOfLaw("sneezes (1)", 8);
    faultOfLaw("sneezes 1000", NONE);
    faultOfLaw("sneezes 1001", 8);
    faultOfLaw("sneezes 99999999999999999999", 8);
    faultOfLaw("sneezes done", 8);
    faultOfLaw("sneezes agee", 8);
    faultOfLaw("sneezes ag", 8);
    faultOfLaw("sneezes 1\t", 9);
    faultOfLaw("sneezes 1 times 2", 10);
    faultOfLaw("pass", 0);
    faultOfLaw("bars \000", 5);
    faultOfLaw("bars \377", 5);
  }

  private static void limitFaults() {
    faultOfLaw("bars;".repeat(11) + "bars", NONE);
    faultOfLaw("bars;".repeat(12) + "bars", 60);
    faultOfLaw("bars;".repeat(12) + "  x", 62);
    faultOfLaw("bars;".repeat(12), 60);
    faultOfLaw("hears " + "1+".repeat(49) + "1", NONE);
    faultOfLaw("hears " + "1+".repeat(49) + "age;", 110 - 1 - 3 + 2);
    faultOfLaw("hears " + "1+".repeat(50) + "1", 106);
    faultOfLaw("hears " + "1+".repeat(49) + "1;hears [age]", 113);
    faultOfLaw("hears " + "1+".repeat(50) + "x", 106);
    faultOfLaw("hears [[[[[[[[1]]]]]]]]", NONE);
    faultOfLaw("hears [[[[[[[[[1]]]]]]]]]", 14);
    faultOfLaw("bars if (((([[[[1]]]]=1))))", NONE);
    faultOfLaw("bars if (((([[[[[1]]]]]=1))))", 16);
    faultOfLaw("bars if (((((((((1=1)))))))))", 16);
    faultOfLaw("hears [[[[[[[[1]]]]]]]]+[[[[[[[[1]]]]]]]]", NONE);
    faultOfLaw("bars if " + "not ".repeat(97) + "1=1", NONE);
    faultOfOrders("pass;".repeat(12) + "pass", 60);
    faultOfOrders("pass if " + "at 1+".repeat(48) + "1=1", NONE);
    faultOfOrders("pass if " + "at 1+".repeat(49) + "1=1", 8 + 245 + 2);
    faultOfOrders("pass times 20 if " + "1+".repeat(48) + "1=owed7", NONE);
    faultOfOrders("sneeze [[[[[[[[[1", 15);
  }

  private static void orderFaults() {
    faultOfOrders("pass times 1", NONE);
    faultOfOrders("pass times 20", NONE);
    faultOfOrders("pass times 0", 11);
    faultOfOrders("pass times 21", 11);
    faultOfOrders("pass times", 10);
    faultOfOrders("pass times minute", 11);
    faultOfOrders("pass if 1 = 1 times 2", 14);
    faultOfOrders("pass 1", 5);
    faultOfOrders("step 1", 6);
    faultOfOrders("step to 1", 5);
    faultOfOrders("step 1 by 2", 7);
    faultOfOrders("step 1 to", 9);
    faultOfOrders("forgive 1 to 2", 10);
    faultOfOrders("sneeze at 8", 10);
    faultOfOrders("sneeze at at 1", 10);
    faultOfOrders("sneeze owes", 11);
    faultOfOrders("sneeze owed 07", NONE);
    faultOfOrders("sneeze age", 7);
    faultOfOrders("sneezes 1", 0);
    faultOfOrders("bars", 0);
    faultOfOrders("", 0);
  }

  private static void promise18() {
    BlessLoan x = pair();
    due("stopped()", x.stopped(), NONE);
    orders(x, "pass;pass;sneeze 9");
    due("stopped()", x.stopped(), 2);
    law(x, "bars bars");
    due("stopped() behind a law()", x.stopped(), 2);
    orders(x, "pass pass");
    due("stopped() behind a text that can't be", x.stopped(), NONE);
    orders(x, "step 1 to 1");
    due("stopped()", x.stopped(), 0);
    orders(x, "pass");
    due("stopped()", x.stopped(), NONE);
  }

  private static void promise19() {
    BlessLoan x = pair();
    due("force(-1)", x.force(-1), NONE);
    due("status()", x.status(), 0);
    due("force(0)", x.force(0), -2);
    due("force(-2)", x.force(-2), -2);
    law(x, "sneezes 1");
    law(x, "sneezes 2");
    due("force(1)", x.force(1), NONE);
    due("of(0, 5)", x.of(0, 5), 2);
    due("force(0)", x.force(0), 1);
    due("of(0, 5)", x.of(0, 5), 1);
    due("force(2)", x.force(2), -2);
    due("count(12)", x.count(12), 0);
    due("force(-1)", x.force(-1), 0);
    due("of(0, 5)", x.of(0, 5), 4);
    due("count(7)", x.count(7), 0);
  }

  private static void promise20() {
    BlessLoan x = four();
    due("asks(0, 1, 0)", x.asks(0, 1, 0), 2);
    due("asks(0, 1, 1)", x.asks(0, 1, 1), 0);
    inForce(x, "owes person * 2 + other * 3 + far; bars if person = 3 and other = 1 and far = 7");
    due("owes of the one who sneezes", x.asks(0, 1, 0), 4);
    due("owes the other way", x.asks(1, 0, 0), 3);
    due("9 at most", x.asks(0, 3, 0), 9);
    due("bars of the one who would bless", x.asks(1, 3, 1), 1);
    due("bars the other way", x.asks(3, 1, 1), 0);
    inForce(x, "owes 0 - 4; bars if place = 1 and age = 50 and cold = 0 and ears = 4");
    due("0 at least", x.asks(0, 1, 0), 0);
    due("its own place", x.asks(0, 1, 1), 1);
    due("asks(0, 0, 0)", x.asks(0, 0, 0), NONE);
    due("asks(0, 4, 0)", x.asks(0, 4, 0), NONE);
    due("asks(-1, 0, 1)", x.asks(-1, 0, 1), NONE);
    due("asks(0, 1, 2)", x.asks(0, 1, 2), NONE);
    due("asks(0, 1, -1)", x.asks(0, 1, -1), NONE);
  }

  private static void promise21() {
    BlessLoan x = four();
    due("step(2, 1)", x.step(2, 1), 6);
    due("step(2, 2)", x.step(2, 2), 1);
    due("step(2, 7)", x.step(2, 7), 2);
    due("step(2, 6)", x.step(2, 6), 7);
    due("to where it is", x.step(2, 6), -3);
    due("across", x.step(2, 12), -3);
    due("a place that can't be", x.step(9, 25), -1);
    due("a place that can't be", x.step(0, -1), -1);
    due("nobody", x.step(4, 0), -2);
    x.person(4, 1, 1, 1);
    due("not round the edge", x.step(4, 5), -3);
    due("of(4, 0)", x.of(4, 0), 4);
  }

  private static void promise22() {
    BlessLoan x = pair();
    due("sneeze(0)", x.sneeze(0), 1);
    due("owed(0, 1)", x.owed(0, 1), 2);
    due("sneeze(1)", x.sneeze(1), 0);
    due("owed(0, 1)", x.owed(0, 1), 1);
    due("owed(1, 0)", x.owed(1, 0), 0);
    x.sneeze(1);
    due("the last one of a debt", x.owed(0, 1), 0);
    due("nothing new for it", x.owed(1, 0), 0);
    x.lend(0, 1, 98);
    x.sneeze(0);
    due("99 at most", x.owed(0, 1), 99);
    x.lend(0, 1, 5);
    x.lend(1, 0, 3);
    x.sneeze(0);
    due("what is owed back goes first", x.owed(1, 0), 2);
    due("owed(0, 1)", x.owed(0, 1), 5);
    inForce(x, "owes 7");
    x.lend(1, 0, 0);
    x.sneeze(0);
    due("owed(0, 1)", x.owed(0, 1), 12);
    x.mask(1, 1);
    due("nobody", x.sneeze(0), 100);
    due("a masked one sneezes all the same", x.sneeze(1), 0);
    due("sneeze(2)", x.sneeze(2), -2);
    due("sneeze(-1)", x.sneeze(-1), -2);
  }

  private static void promise23() {
    BlessLoan x = pair();
    x.lend(0, 1, 33);
    due("the other way nothing is owed", x.forgive(1, 0), -3);
    due("forgive(0, 1)", x.forgive(0, 1), 33);
    due("owed(0, 1)", x.owed(0, 1), 0);
    due("again", x.forgive(0, 1), -3);
    due("itself", x.forgive(0, 0), -3);
    due("nobody", x.forgive(0, 2), -2);
    due("nobody", x.forgive(-1, 0), -2);
    due("nobody itself", x.forgive(5, 5), -2);
  }

  private static void promise24() {
    BlessLoan x = four();
    due("no ring", x.clear(), -3);
    x.lend(0, 1, 9);
    x.lend(1, 2, 4);
    x.lend(2, 0, 6);
    x.lend(0, 3, 5);
    x.lend(3, 0, 50);
    due("the shortest", x.clear(), 5);
    due("owed(3, 0)", x.owed(3, 0), 45);
    due("owed(0, 1)", x.owed(0, 1), 9);
    due("the other one", x.clear(), 4);
    due("owed(0, 1)", x.owed(0, 1), 5);
    due("owed(1, 2)", x.owed(1, 2), 0);
    due("owed(2, 0)", x.owed(2, 0), 2);
    due("no more", x.clear(), -3);
    due("undo()", x.undo(), 3);
    due("owed(1, 2)", x.owed(1, 2), 4);
    due("owed(2, 0)", x.owed(2, 0), 6);
  }

  private static void promise25() {
    BlessLoan x = new BlessLoan();
    due("pass()", x.pass(), 1);
    due("pass()", x.pass(), 2);
    x.terms(0, 9998);
    due("pass()", x.pass(), 9999);
    due("pass()", x.pass(), -3);
    due("count(13)", x.count(13), 9999);
  }

  private static void promise26() {
    BlessLoan x = pair();
    due("nothing", x.undo(), -3);
    x.step(0, 11);
    x.sneeze(0);
    x.forgive(0, 1);
    x.pass();
    x.step(0, 25);
    due("count(5)", x.count(5), 4);
    due("undo()", x.undo(), 4);
    due("count(13)", x.count(13), 0);
    due("undo()", x.undo(), 2);
    due("owed(0, 1)", x.owed(0, 1), 2);
    due("undo()", x.undo(), 1);
    due("owed(0, 1)", x.owed(0, 1), 0);
    due("undo()", x.undo(), 0);
    due("of(0, 0)", x.of(0, 0), 12);
    due("nothing", x.undo(), -3);
    for (int i = 0; i < 17; i++) {
      x.pass();
    }
    due("16 are kept", x.count(5), 16);
    for (int i = 0; i < 16; i++) {
      due("undo()", x.undo(), 4);
    }
    due("nothing", x.undo(), -3);
    due("count(13)", x.count(13), 1);
    whatEndsUndoing();
  }

  private static void whatEndsUndoing() {
    for (int i = 0; i < 14; i++) {
      BlessLoan x = pair();
      x.pass();
      int kept = i < 6 ? 0 : 1;
      int[] answers = {i == 0 ? x.dust(0, 1) : 0, i == 1 ? x.person(0, 0, 0, 0) : 0,
          i == 2 ? x.mask(0, 0) : 0, i == 3 ? x.lend(0, 1, 0) : 0, i == 4 ? x.terms(1, 0) : 0};
      due("answers", answers.length, 5);
      if (i == 5) {
        put(x, "x");
        x.row();
      }
      refusedOrElse(x, i);
      due("count(5) behind " + i, x.count(5), kept);
    }
  }

  private static void refusedOrElse(BlessLoan x, int i) {
    switch (i) {
      case 6: x.dust(25, 0); break;
      case 7: x.person(0, 0, 0, 10); break;
      case 8: x.mask(2, 0); break;
      case 9: x.lend(0, 2, 0); break;
      case 10: x.terms(0, 10000); break;
      case 11: x.row(); break;
      case 12: law(x, "bars"); x.force(0); break;
      case 13: x.seen(0, 1); x.forget(); x.image(0); x.hours(1, 1); break;
      default: break;
    }
  }

  private static void promise27() {
    BlessLoan x = four();
    due("ring(-1)", x.ring(-1), NONE);
    due("ring(0)", x.ring(0), NONE);
    x.lend(3, 1, 1);
    x.lend(1, 2, 1);
    x.lend(2, 3, 1);
    due("ring(-1)", x.ring(-1), 3);
    due("ring(0)", x.ring(0), 1);
    due("ring(1)", x.ring(1), 2);
    due("ring(2)", x.ring(2), 3);
    due("ring(3)", x.ring(3), NONE);
    due("ring(-2)", x.ring(-2), NONE);
    x.lend(2, 1, 1);
    x.lend(3, 2, 1);
    due("ring(-1)", x.ring(-1), 2);
    due("ring(0)", x.ring(0), 1);
    due("ring(1)", x.ring(1), 2);
    BlessLoan y = new BlessLoan();
    for (int i = 0; i < 8; i++) {
      y.person(0, 0, 0, 0);
    }
    for (int i = 0; i < 8; i++) {
      y.lend(i, (i + 3) % 8, 2);
    }
    due("all eight", y.ring(-1), 8);
    due("ring(1)", y.ring(1), 3);
    due("ring(7)", y.ring(7), 5);
    due("clear()", y.clear(), 2);
    due("count(2)", y.count(2), 0);
    due("undo()", y.undo(), 3);
    due("count(2)", y.count(2), 16);
    due("owed(7, 2)", y.owed(7, 2), 2);
  }

  private static void promise28() {
    BlessLoan x = four();
    due("gain(1, 1)", x.gain(1, 1), 18);
    due("gain(1, 24)", x.gain(1, 24), 2);
    due("gain(3, 0)", x.gain(3, 0), 8);
    due("of(1, 0)", x.of(1, 0), 1);
    x.mask(2, 1);
    due("one more whom it blesses, one that does not sneeze", x.gain(1, 1), 6);
    x.mask(1, 1);
    due("a masked one", x.gain(1, 1), 0);
    due("gain(4, 0)", x.gain(4, 0), NONE);
    due("gain(-1, 0)", x.gain(-1, 0), NONE);
    due("gain(0, 25)", x.gain(0, 25), NONE);
    due("gain(0, -1)", x.gain(0, -1), NONE);
    BlessLoan y = pair();
    inForce(y, "owes far + 1; hears place; bars if place = 20");
    due("by the place there", y.gain(0, 14), 16);
    due("it hears too little there", y.gain(0, 0), 0);
    due("barred there", y.gain(0, 20), 0);
    y.lend(0, 1, 50);
    due("debts aside", y.gain(0, 14), 16);
  }

  private static void promise29() {
    BlessLoan x = four();
    due("stand(1, 0)", x.stand(1, 0), 8);
    due("stand(1, 1)", x.stand(1, 1), 20);
    due("stand(1, 2)", x.stand(1, 2), NONE);
    due("stand(4, 0)", x.stand(4, 0), NONE);
    due("stand(-1, 1)", x.stand(-1, 1), NONE);
    x.mask(1, 1);
    due("a masked one", x.stand(1, 0), 0);
    due("a masked one", x.stand(1, 1), 0);
  }

  private static void promise30() {
    BlessLoan x = new BlessLoan();
    due("nobody", x.rests(-1), 1);
    due("rests(0)", x.rests(0), NONE);
    x.person(12, 0, 2, 5);
    x.person(24, 0, 2, 5);
    due("rests(-1)", x.rests(-1), 2);
    due("0 goes to the lowest that hears 1", x.rests(0), 14);
    due("1 stays", x.rests(1), 24);
    due("of(0, 0)", x.of(0, 0), 12);
    due("rests(2)", x.rests(2), NONE);
    due("rests(-2)", x.rests(-2), NONE);
    BlessLoan y = new BlessLoan();
    y.person(0, 0, 9, 0);
    y.person(4, 0, 9, 0);
    inForce(y, "sneezes 5; bars if person = 0 and far > 0 or person = 1 and far = 0");
    due("one runs after the other for ever", y.rests(-1), NONE);
    due("one runs after the other for ever", y.rests(1), NONE);
  }

  private static void promise31() {
    BlessLoan x = new BlessLoan();
    x.person(12, 0, 0, 0);
    x.person(13, 0, 0, 0);
    x.person(10, 0, 0, 0);
    x.person(14, 0, 0, 0);
    x.person(14, 0, 0, 0);
    due("owes nobody", x.round(0, -1), 0);
    due("owes nobody", x.round(0, 0), NONE);
    x.lend(0, 1, 1);
    x.lend(0, 2, 1);
    x.lend(0, 3, 1);
    x.lend(0, 4, 1);
    due("steps", x.round(0, -1), 6);
    int[] row = {1, 3, 4, 2};
    for (int i = 0; i < 4; i++) {
      due("round(0, " + i + ")", x.round(0, i), row[i]);
    }
    due("round(0, 4)", x.round(0, 4), NONE);
    due("round(0, -2)", x.round(0, -2), NONE);
    due("round(5, -1)", x.round(5, -1), NONE);
    due("round(-1, -1)", x.round(-1, -1), NONE);
    due("whom others owe", x.round(1, -1), 0);
  }

  private static void promise32() {
    BlessLoan x = four();
    due("masks(0)", x.masks(0), 3);
    due("masks(1)", x.masks(1), 7);
    due("masks(2)", x.masks(2), NONE);
    due("masks(-1)", x.masks(-1), NONE);
    x.mask(1, 1);
    due("masks(0) more", x.masks(0), 2);
    due("masks(1) more", x.masks(1), 5);
    due("count(1)", x.count(1), 1);
    BlessLoan y = pair();
    due("one is enough of two", y.masks(0), 1);
    due("the lowest", y.masks(1), 1);
    inForce(y, "bars if person = 0");
    due("who sneezes, or who blesses: the lowest", y.masks(1), 1);
    inForce(y, "owes 1");
    due("one is owed", y.masks(0), 1);
    inForce(y, "owes 0");
    due("nothing is owed", y.masks(0), 0);
    BlessLoan z = new BlessLoan();
    due("nobody", z.masks(0), 0);
    due("nobody", z.masks(1), 0);
  }

  private static void promise33() {
    BlessLoan x = pair();
    due("seen(0, 1)", x.seen(0, 1), 1);
    due("seen(0, -1)", x.seen(0, -1), 2);
    due("itself", x.seen(1, 1), -1);
    due("itself, and nobody", x.seen(7, 7), -1);
    due("nobody", x.seen(2, 0), -2);
    due("by one who is not", x.seen(0, 2), -2);
    for (int i = 3; i <= 8; i++) {
      due("seen(1, 0)", x.seen(1, 0), i);
    }
    due("a ninth", x.seen(1, 0), -5);
    due("a ninth that can't be", x.seen(1, 2), -2);
    due("count(3)", x.count(3), 8);
  }

  private static void promise34() {
    BlessLoan x = pair();
    due("forget()", x.forget(), 0);
    x.seen(0, 1);
    x.seen(9, 1);
    due("forget()", x.forget(), 1);
    due("count(3)", x.count(3), 0);
    due("status() is not its own", x.status(), -2);
  }

  private static void promise35() {
    BlessLoan x = four();
    due("nothing SEEN", x.can(0), (1 << 25) - 1);
    x.seen(0, 1);
    due("can(1)", x.can(1), 1154559);
    x.seen(3, 1);
    due("can(1)", x.can(1), 1118480);
    due("of(1, 0)", x.of(1, 0), 1);
    x.seen(3, -1);
    due("nowhere", x.can(1), 0);
    due("can(4)", x.can(4), NONE);
    due("can(-1)", x.can(-1), NONE);
    BlessLoan y = new BlessLoan();
    y.person(12, 0, 9, 0);
    y.person(13, 0, 4, 0);
    y.mask(0, 1);
    y.seen(1, -1);
    due("one masked", y.can(0), (1 << 25) - 1);
    y.seen(0, 1);
    due("its own sneeze, heard by 1", y.can(0), (1 << 25) - 1 & ~1 & ~(1 << 20));
    BlessLoan z = new BlessLoan();
    z.person(0, 0, 1, 0);
    z.person(24, 0, 0, 0);
    z.seen(1, 0);
    due("its own sneeze, heard by 0", z.can(1), 1 | 1 << 1 | 1 << 5);
  }

  private static void promise36() {
    BlessLoan x = four();
    x.seen(0, 1);
    x.seen(3, 1);
    due("listen(1, 0)", x.listen(1, 0), 2);
    due("listen(1, 1)", x.listen(1, 1), 3);
    due("listen(1, 2)", x.listen(1, 2), NONE);
    due("listen(4, 0)", x.listen(4, 0), NONE);
    due("listen(-1, 1)", x.listen(-1, 1), NONE);
    x.seen(3, -1);
    due("nowhere", x.listen(1, 0), NONE);
    due("nowhere", x.listen(1, 1), NONE);
    BlessLoan y = new BlessLoan();
    y.person(0, 0, 0, 0);
    due("nobody else", y.listen(0, 0), 0);
    due("nobody else", y.listen(0, 1), 25);
    y.person(12, 0, 1, 0);
    due("the one sought, too", y.listen(0, 0), 0);
    due("five of 25 are heard by 1", y.listen(0, 1), 20);
    BlessLoan z = new BlessLoan();
    z.person(6, 0, 0, 0);
    z.person(18, 0, 0, 0);
    z.person(12, 0, 1, 0);
    due("the lowest of alike ones", z.listen(2, 0), 0);
    due("five of 25 hear 0", z.listen(2, 1), 20);
  }

  private static void promise37() {
    BlessLoan x = four();
    due("often(0, 0, 60)", x.often(0, 0, 60), 1000000000000L);
    due("often(0, 0, 0)", x.often(0, 0, 0), 1000000000000L);
    due("often(0, 1, 0)", x.often(0, 1, 0), 0);
    due("often(0, 1, 1)", x.often(0, 1, 1), 300000000000L);
    due("often(0, 3, 5)", x.often(0, 3, 5), 163080000000L);
    due("often(1, 12, 12)", x.often(1, 12, 12), 1);
    due("often(1, 13, 13)", x.often(1, 13, 13), 0);
    due("often(0, 21, 1)", x.often(0, 21, 1), NONE);
    due("often(0, -1, 1)", x.often(0, -1, 1), NONE);
    due("often(0, 1, 61)", x.often(0, 1, 61), NONE);
    due("often(0, 1, -1)", x.often(0, 1, -1), NONE);
    due("often(4, 1, 1)", x.often(4, 1, 1), NONE);
    x.mask(0, 1);
    due("a masked one", x.often(0, 1, 60), 0);
    inForce(x, "sneezes 10");
    due("always", x.often(1, 20, 20), 1000000000000L);
    due("always", x.often(1, 20, 19), 0);
  }

  private static void promise38() {
    BlessLoan x = four();
    due("compare(-1)", x.compare(-1), 20);
    due("compare(0)", x.compare(0), NONE);
    due("compare(-2)", x.compare(-2), NONE);
    inForce(x, "owes 1");
    law(x, "owes 3; sneezes 2");
    due("compare(0)", x.compare(0), 10);
    due("compare(1)", x.compare(1), 18);
    due("compare(-1)", x.compare(-1), 20);
    due("compare(2)", x.compare(2), NONE);
    BlessLoan y = pair();
    due("0 blesses 1, 1 blesses 0", y.compare(-1), 16 + 8);
    due("count(12)", x.count(12), 0);
  }

  private static void promise39() {
    BlessLoan x = new BlessLoan();
    due("hours(0, 0)", x.hours(0, 0), -1);
    due("hours(0, 61)", x.hours(0, 61), -1);
    due("hours(-1, 1)", x.hours(-1, 1), -1);
    due("hours(1000001, 1)", x.hours(1000001, 1), -1);
    due("hours(1000000, 60)", x.hours(1000000, 60), 0);
    x = pair();
    inForce(x, "sneezes 10");
    due("two a minute", x.hours(7, 60), 120);
    due("on paper", x.count(13) + x.count(2) + x.count(5), 0);
    x.terms(0, 9990);
    due("it ends at 9,999", x.hours(7, 60), 18);
    x.terms(0, 9999);
    due("it ends at once", x.hours(7, 60), 0);
    x.terms(0, 0);
    inForce(x, "sneezes 10 if minute = 2");
    due("minutes pass on paper", x.hours(7, 60), 2 + sneezesWithoutMinuteTwo());
    walks();
  }

  /** Where the draws lead somebody who never sneezes, and what is owed by one who always does. */
  private static void walks() {
    for (int seed = 0; seed < 40; seed++) {
      BlessLoan x = new BlessLoan();
      x.person(seed % 25, 0, 9, 0);
      x.person(12, 0, 9, 0);
      inForce(x, "sneezes 10 * person; owes 1; hears 20");
      due("sneezes", x.hours(seed, 30), 30);
      int[] want = walkOf(seed, seed % 25, 12, 30);
      due("0 goes by seed " + seed, x.drawn(0, 0), want[0]);
      due("1 goes by seed " + seed, x.drawn(1, 0), want[1]);
      due("0 blesses 1", x.drawn(0, 1), 30);
      due("1 owes", x.drawn(1, 2), 30);
    }
  }

  private static int[] walkOf(int seed, int one, int other, int minutes) {
    long s = seed;
    int[] x = {one % 5, other % 5};
    int[] y = {one / 5, other / 5};
    for (int i = 0; i < 2 * minutes; i++) {
      s = ((s * 1103 + 12345) % 1000003 * 1103 + 12345) % 1000003;
      int p = i % 2;
      int way = (int) (s % 4);
      y[p] = Math.max(0, Math.min(4, y[p] + (way == 0 ? -1 : way == 2 ? 1 : 0)));
      x[p] = Math.max(0, Math.min(4, x[p] + (way == 1 ? 1 : way == 3 ? -1 : 0)));
    }
    return new int[] {5 * y[0] + x[0], 5 * y[1] + x[1]};
  }

  /** The same draws by hand for the pair: of dust and cold in all minutes but the one numbered 2. */
  private static int sneezesWithoutMinuteTwo() {
    long s = 7;
    int[] place = {12, 13};
    int[] cold = {3, 7};
    int sneezes = 0;
    for (int m = 0; m < 60; m++) {
      for (int p = 0; p < 2; p++) {
        s = (s * 1103 + 12345) % 1000003;
        if (m != 2 && s % 10 < 1 + cold[p]) {
          sneezes++;
        }
        s = (s * 1103 + 12345) % 1000003;
        place[p] += s % 4 == 0 ? -5 : 0;
      }
    }
    return sneezes;
  }

  private static void promise40() {
    BlessLoan x = four();
    due("ahead of any", x.drawn(0, 0), NONE);
    due("hours(5, 1)", x.hours(5, 1), 2);
    due("drawn(2, 0)", x.drawn(2, 0), 11);
    x.hours(5, 61);
    due("a refused one is not kept", x.drawn(2, 0), 11);
    due("drawn(2, 3)", x.drawn(2, 3), NONE);
    due("drawn(2, -1)", x.drawn(2, -1), NONE);
    due("drawn(-1, 0)", x.drawn(-1, 0), NONE);
    x.person(0, 0, 0, 0);
    due("one who came behind it", x.drawn(4, 0), NONE);
    x.lend(0, 3, 12);
    due("kept as it was", x.drawn(3, 1), 0);
    x.terms(0, 9999);
    x.hours(5, 1);
    due("drawn(4, 0)", x.drawn(4, 0), 0);
    due("drawn(3, 1)", x.drawn(3, 1), 12);
    due("drawn(0, 2)", x.drawn(0, 2), 12);
  }

  private static void promise41() {
    BlessLoan x = pair();
    due("image(-1)", x.image(-1), -1);
    due("image(2)", x.image(2), -1);
    due("image(1)", x.image(1), 0);
    due("back(0)", x.back(0), -2);
    x.dust(0, 7);
    due("image(1) again", x.image(1), 0);
    x.dust(0, 8);
    x.back(1);
    due("the later one is kept", x.at(0, 0), 7);
  }

  private static void promise42() {
    BlessLoan x = pair();
    due("back(2)", x.back(2), -1);
    due("back(-1)", x.back(-1), -1);
    due("back(0)", x.back(0), -2);
    x.lend(0, 1, 4);
    x.seen(0, 1);
    inForce(x, "sneezes 1");
    x.image(0);
    changeAll(x);
    x.pass();
    due("back(0)", x.back(0), 0);
    int[] want = {2, 0, 4, 1, 1, 0, 3, 2, 2, 2, 0, 2, 0, 0, 0};
    for (int what = 0; what < 15; what++) {
      due("count(" + what + ")", x.count(what), want[what]);
    }
    due("at(3, 0)", x.at(3, 0), 1);
    due("of(0, 5)", x.of(0, 5), 1);
    due("of(0, 0)", x.of(0, 0), 12);
    due("hiccups()", x.hiccups(), 1);
    due("fault()", x.fault(), 0);
    due("stopped()", x.stopped(), 0);
    due("drawn(2, 0)", x.drawn(2, 0) >= 0 ? 1 : 0, 1);
    due("undo()", x.undo(), -3);
    changeAll(x);
    x.back(0);
    due("images stay", x.count(2), 4);
    due("of(0, 5)", x.of(0, 5), 1);
  }

  private static void changeAll(BlessLoan x) {
    x.dust(3, 9);
    x.step(0, 11);
    put(x, "\001\001\001\001\001");
    x.row();
    x.mask(0, 1);
    x.lend(1, 0, 40);
    x.forget();
    x.terms(0, 50);
    x.terms(1, 5);
    inForce(x, "sneezes 9");
    x.hours(3, 2);
    orders(x, "sneeze 7");
    law(x, "x");
    x.mask(7, 1);
    orders(x, "sneeze 7");
    law(x, "x");
    due("count(11) and so on", x.status(), -6);
    x.mask(0, 0);
    put(x, "abc");
  }

  private static void promise43() {
    BlessLoan x = four();
    x.mask(0, 1);
    x.mask(2, 1);
    x.lend(0, 1, 3);
    x.lend(1, 2, 4);
    x.seen(0, 1);
    inForce(x, "bars");
    x.terms(0, 100);
    x.terms(1, 7);
    x.pass();
    x.feed(0, 0, 0, 0, 0);
    x.dust(25, 0);
    x.sneeze(9);
    x.sneeze(9);
    x.clear();
    for (int i = 0; i < 5; i++) {
      x.person(0, 0, 0, 0);
    }
    x.end(0);
    x.row();
    x.law();
    x.feed(0, 0, 0, 0, 0);
    int[] want = {8, 2, 7, 1, 1, 0, 20, 1, 2, 1, 1, 2, 0, 101, 7};
    for (int what = 0; what < 15; what++) {
      due("count(" + what + ")", x.count(what), want[what]);
    }
    due("count(15)", x.count(15), NONE);
    due("count(-1)", x.count(-1), NONE);
  }

  private static void promise44() {
    BlessLoan x = pair();
    x.lend(0, 0, 1);
    due("status()", x.status(), -1);
    x.of(9, 9);
    x.feed(0, 0, 0, 0, 0);
    x.end(99);
    x.gain(9, 9);
    x.forget();
    x.drawn(9, 9);
    due("others do not change it", x.status(), -1);
    x.end(0);
    x.force(-1);
    due("force", x.status(), 0);
    x.force(3);
    due("force", x.status(), -2);
    x.pass();
    due("pass", x.status(), 0);
    x.clear();
    due("clear", x.status(), -3);
    x.orders();
    due("orders", x.status(), -6);
    x.orders();
    x.undo();
    due("undo", x.status(), 0);
    x.back(1);
    due("back", x.status(), -2);
    x.image(1);
    due("image", x.status(), 0);
    x.hours(0, 0);
    due("hours", x.status(), -1);
    x.seen(0, 1);
    due("seen", x.status(), 0);
    for (int i = 0; i < 8; i++) {
      x.seen(0, 1);
    }
    due("seen", x.status(), -5);
    x.terms(0, 5);
    due("terms", x.status(), 0);
  }

  private static void all() {
    Runnable[] promises = {
        PromiseTest::promise1, PromiseTest::promise2, PromiseTest::promise3, PromiseTest::promise4,
        PromiseTest::promise5, PromiseTest::promise6, PromiseTest::promise7, PromiseTest::promise8,
        PromiseTest::promise9, PromiseTest::promise10, PromiseTest::promise11,
        PromiseTest::promise12, PromiseTest::promise13, PromiseTest::promise14,
        PromiseTest::promise15, PromiseTest::promise16, PromiseTest::promise17,
        PromiseTest::promise18, PromiseTest::promise19, PromiseTest::promise20,
        PromiseTest::promise21, PromiseTest::promise22, PromiseTest::promise23,
        PromiseTest::promise24, PromiseTest::promise25, PromiseTest::promise26,
        PromiseTest::promise27, PromiseTest::promise28, PromiseTest::promise29,
        PromiseTest::promise30, PromiseTest::promise31, PromiseTest::promise32,
        PromiseTest::promise33, PromiseTest::promise34, PromiseTest::promise35,
        PromiseTest::promise36, PromiseTest::promise37, PromiseTest::promise38,
        PromiseTest::promise39, PromiseTest::promise40, PromiseTest::promise41,
        PromiseTest::promise42, PromiseTest::promise43, PromiseTest::promise44};
    for (int i = 0; i < promises.length; i++) {
      of("promise " + (i + 1));
      promises[i].run();
    }
  }

  public static void main(String[] args) {
    all();
    close("all promises hold");
  }
}
