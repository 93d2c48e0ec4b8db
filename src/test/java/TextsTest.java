/** The sentences of "Terms" II that name a boundary case: texts, laws, orders. */
public final class TextsTest extends Checks {
  // ---- II: texts

  private static void tape() {
    of("TEXTS are on a TAPE of at most 400 bytes.");
    String longest = " ".repeat(192) + "bars if 1 = 1" + " ".repeat(195);
    due("it is as long", longest.length(), 400);
    faultOfLaw(longest, NONE);
    faultOfLaw(" ".repeat(396) + "bars", NONE);
    faultOfLaw(" ".repeat(396) + "barx", 396);
    faultOfLaw(" ".repeat(395) + "bars;", 400);
    faultOfLaw(" ".repeat(400), 400);
    faultOfOrders(" ".repeat(396) + "pass", NONE);
    faultOfOrders(" ".repeat(399) + "p", 399);
    faultOfLaw("sneezes " + "0".repeat(391) + "9", NONE);
    faultOfLaw("sneezes " + "9".repeat(392), 8);
    faultOfLaw("b".repeat(400), 0);
    faultOfLaw("bars if " + "(".repeat(392), 16);
    faultOfLaw("bars if " + "not ".repeat(98), 400);
    BlessLoan x = pair();
    put(x, "bars;bars;bars;bars;");
    x.end(14);
    due("no byte behind the end is read", x.law(), 0);
  }

  private static void tokens() {
    of("TOKENS: longest rows of letters a .. z, of digits, single other bytes");
    faultOfLaw("bars1", 4);
    faultOfLaw("barsif", 0);
    faultOfLaw("bars if1=1or2=2and3=3", NONE);
    faultOfLaw("bars if not1=1", NONE);
    faultOfLaw("bars ifnot 1=1", 5);
    faultOfLaw("hears 1 2", 8);
    faultOfLaw("hears 12 0", 9);
    faultOfLaw("bars if 1 > = 1", 12);
    faultOfLaw("bars if 1 >= 1", 11);
    faultOfLaw("hears[1]+[2]", NONE);
    for (char sign : new char[] {'A', 'B', 'Z', '`', '{', '@', '/', ':', '_', 0, 9, 10, 31, 33,
        127, 128, 160, 255}) {
      faultOfLaw("bars" + sign, 4);
      faultOfLaw(sign + "bars", 0);
      faultOfLaw("ba" + sign + "rs", 0);
      faultOfLaw("hears 1" + sign, sign == '/' ? 8 : 7);
    }
    of("any blanks (32) between");
    faultOfLaw("   bars   if   1   =   1   ;   bars   ", NONE);
    faultOfLaw("ba rs", 0);
    faultOfLaw("hears 1 0", 8);
    faultOfLaw("   x", 3);
  }

  private static void clauses() {
    of("CLAUSE {\";\" CLAUSE}, 12 at most (FAULT at the 13th's first TOKEN)");
    faultOfLaw("bars;".repeat(11) + "bars", NONE);
    faultOfLaw("bars;".repeat(12) + "bars", 60);
    faultOfLaw("bars;".repeat(12) + "   bars if", 63);
    faultOfLaw("bars;".repeat(12) + ";", 60);
    faultOfLaw("bars;".repeat(12), 60);
    faultOfLaw("bars;".repeat(12) + "  ", 62);
    faultOfOrders("pass;".repeat(11) + "pass", NONE);
    faultOfOrders("pass;".repeat(12) + "pass", 60);
    faultOfLaw("bars;;bars", 5);
    faultOfLaw(";", 0);
    BlessLoan x = pair();
    inForce(x, "hears 1;".repeat(11) + "sneezes 9");
    due("the twelfth is asked", x.of(0, 5), 9);
    due("the twelfth is run", orders(x, "pass;".repeat(11) + "step 0 to 11"), 12);
    due("of(0, 0)", x.of(0, 0), 11);
    orders(x, "pass;".repeat(11) + "step 0 to 13");
    due("the twelfth can't be", x.stopped(), 11);
  }

  private static void tests() {
    of("TEST: BOTH {\"or\" BOTH}. BOTH: PLAIN {\"and\" PLAIN}.");
    test("1=2 and 1=1 or 1=1", 9);
    test("1=1 or 1=1 and 1=2", 9);
    test("1=2 or 1=2 or 1=2 or 1=1", 9);
    test("1=1 and 1=1 and 1=1 and 1=2", 0);
    test("1=2 or 1=1 and 1=2", 0);
    test("(1=1 or 1=1) and 1=2", 0);
    faultOfLaw("bars if or 1=1", 8);
    faultOfLaw("bars if and 1=1", 8);
    faultOfLaw("bars if not and 1=1", 12);
    faultOfLaw("bars if 1=1 or or 1=1", 15);
    faultOfLaw("bars if 1=1 and", 15);
    faultOfLaw("bars if ()", 9);
    of("PLAIN: \"not\" PLAIN");
    test("not 1=1 or 1=1", 9);
    test("not 1=2 and not 1=2", 9);
    test("not not not 1=2", 9);
    test("not 1<2", 0);
    test("not 2>1", 0);
    test("not 1=1", 0);
    test("not 2<1", 9);
    test("not 1>2", 9);
    test("not (1=1 and 1=2)", 9);
    faultOfLaw("bars if 1=1 not", 12);
    faultOfLaw("bars if 1=not 1", 10);
    of("SUM (\"<\" | \">\" | \"=\") SUM");
    test("1<2", 9);
    test("2<2", 0);
    test("3<2", 0);
    test("1>2", 0);
    test("2>2", 0);
    test("3>2", 9);
    test("1=2", 0);
    test("2=2", 9);
    test("3=2", 0);
    test("0-3<0-2", 9);
    test("[1+1]*2=2+2", 9);
    faultOfLaw("bars if <1", 8);
    faultOfLaw("bars if 1<", 10);
    faultOfLaw("bars if 1=1=1", 11);
  }

  private static void sums() {
    of("SUM: TERM {(\"+\" | \"-\") TERM}. TERM: PART {(\"*\" | \"/\" | \"%\") PART}.");
    sum("9-4-3", 2);
    sum("9-4+3", 8);
    sum("2+3*2", 8);
    sum("20-3*5", 5);
    sum("40/4/5", 2);
    sum("17%10/2", 3);
    sum("17/2%5", 3);
    sum("2*7%5", 4);
    sum("[2+3]*2", 10);
    for (char sign : new char[] {'+', '-', '*', '/', '%'}) {
      faultOfLaw("hears " + sign + "1", 6);
      faultOfLaw("hears 1+" + sign + "1", 8);
      faultOfLaw("hears 1" + sign, 8);
      faultOfLaw("hears [" + sign + "1]", 7);
    }
    faultOfLaw("hears [1", 8);
    faultOfLaw("hears [1)", 8);
    faultOfLaw("hears []", 7);
    faultOfLaw("hears 1]", 7);
    of("NUMBER (to 1,000)");
    faultOfLaw("hears 1000", NONE);
    faultOfLaw("hears 1001", 6);
    faultOfLaw("hears 1+2000", 8);
    faultOfLaw("hears 4294967297", 6);
    faultOfLaw("hears 18446744073709551617", 6);
    faultOfOrders("sneeze 1001", 7);
    faultOfOrders("sneeze 1000", NONE);
    sum("0", 0);
    sum("000001000/100", 10);
  }

  private static void limits() {
    of("50 PARTS that are NUMBERS and words (FAULT at the 51st)");
    faultOfLaw("hears " + "1+".repeat(49) + "1", NONE);
    faultOfLaw("hears " + "1+".repeat(50) + "1", 106);
    faultOfLaw("hears " + "age+".repeat(49) + "age", NONE);
    faultOfLaw("hears " + "age+".repeat(50) + "age", 206);
    faultOfLaw("hears " + "age+1+".repeat(25) + "[[1]]", 158);
    faultOfLaw("hears " + "1+".repeat(48) + "1 if 1", 108);
    faultOfLaw("hears " + "1+".repeat(47) + "1 if 1=1", NONE);
    faultOfLaw("hears " + "1+".repeat(48) + "1 if 1=1", 109);
    faultOfLaw("hears 1;".repeat(11) + "hears " + "1+".repeat(38) + "1", NONE);
    faultOfLaw("hears 1;".repeat(11) + "hears " + "1+".repeat(39) + "1", 172);
    faultOfLaw("hears " + "1+".repeat(50) + "]", 106);
    of("8 brackets of both kinds within one another (FAULT at the 9th) at most");
    faultOfLaw("hears " + "[".repeat(8) + "1" + "]".repeat(8), NONE);
    faultOfLaw("hears " + "[".repeat(9) + "1" + "]".repeat(9), 14);
    faultOfLaw("bars if " + "(".repeat(8) + "1=1" + ")".repeat(8), NONE);
    faultOfLaw("bars if " + "(".repeat(9) + "1=1" + ")".repeat(9), 16);
    faultOfLaw("bars if " + "(".repeat(7) + "[1]=1" + ")".repeat(7), NONE);
    faultOfLaw("bars if " + "(".repeat(7) + "[[1]]=1" + ")".repeat(7), 16);
    faultOfLaw("bars if (((([[[[1]]]]=[[[[1]]]]))))", NONE);
    faultOfLaw("bars if (((([[[[1]]]]=[[[[[1]]]]]))))", 26);
    faultOfLaw("hears " + "[1]+".repeat(20) + "[1]", NONE);
    faultOfLaw("hears [[[[[[[[1]]]]]]]];".repeat(2) + "hears [1]", NONE);
    faultOfOrders("pass if " + "(".repeat(9) + "1=1", 16);
    faultOfOrders("sneeze " + "[".repeat(8) + "1" + "]".repeat(8), NONE);
    sum("[".repeat(8) + "7" + "]".repeat(8), 7);
  }

  private static void limitsOfEachText() {
    of("50 PARTS .., 8 brackets .. at most: of each text, whatever was read ahead of it");
    BlessLoan x = pair();
    String fifty = "1+".repeat(48) + "1=49";
    for (int i = 0; i < 12; i++) {
      due("fifty parts as orders, " + i, orders(x, "pass if " + fifty), 1);
    }
    for (int i = 0; i < 5; i++) {
      due("a text that ends in brackets", law(x, "hears [[[[[[[[1"), -6);
      due("fault()", x.fault(), 15);
      due("a text that ends in brackets", orders(x, "pass if (((((((([1"), -6);
      due("fault()", x.fault(), 16);
      due("eight brackets, fifty parts", law(x, "sneezes 9 if ((((((([" + "1+".repeat(47)
          + "1]=48)))))))"), i);
    }
    x.force(4);
    due("the last law", x.of(0, 5), 9);
    x.force(0);
    due("the first law", x.of(0, 5), 9);
    due("twelve clauses", orders(x, "pass;".repeat(11) + "pass"), 12);
    due("one clause", orders(x, "pass"), 1);
  }

  private static void faults() {
    of("FAULT: the first TOKEN that can't go on there (the end's: the TEXT's length)");
    faultOfLaw("", 0);
    faultOfLaw(" ", 1);
    faultOfLaw("bars if", 7);
    faultOfLaw("bars if   ", 10);
    faultOfLaw("hears (1) x y z", 6);
    faultOfLaw("bars bars bars", 5);
    faultOfLaw("bars if 1 = 2 3 = 4", 14);
    faultOfOrders("step 1 to 2 to 3", 12);
    faultOfOrders("sneeze", 6);
    faultOfOrders("forgive 1 by   ", 15);
    faultOfOrders("step 1 2", 7);
  }

  private static void broken() {
    of("Beyond 1,000,000,000 either way");
    String most = "1000*1000*1000";
    sum(most + "/" + "[1000*1000*100]", 10);
    sum("[0-" + most + "]/[1000*1000*100]+15", 5);
    broken(most + "+1");
    broken("0-" + most + "-1");
    broken(most + "*1000");
    broken("[" + most + "+1]*0");
    broken("0*[" + most + "+" + most + "]");
    sum(most + "-" + most + "+4", 4);
    sum(most + "+1-1;sneezes 4", 4);
    test(most + ">999", 9);
    test(most + "+1>0", 0);
    test("not " + most + "+1>0", 0);
    of("or divided by 0 (/ cut towards 0, % what is left then)");
    broken("5/0");
    broken("5%0");
    broken("0/0");
    broken("0%[3-3]");
    broken("1/[1/2]");
    broken("5/0*0");
    sum("7/2", 3);
    sum("[0-7]/2+10", 7);
    sum("7/[0-2]+10", 7);
    sum("[0-7]/[0-2]", 3);
    sum("7%3", 1);
    sum("[0-7]%3+5", 4);
    sum("7%[0-3]", 1);
    sum("[0-7]%[0-3]+5", 4);
    sum("1/2", 0);
    sum("0/5+2", 2);
    of("(\"or\", \"and\" ask what stands behind only if it can still matter)");
    test("1=1 or 1/0=0", 9);
    test("1=2 or 1/0=0", 0);
    test("not (1=2 or 1/0=0)", 0);
    test("1/0=0 or 1=1", 0);
    test("not (1=2 and 1/0=0)", 9);
    test("not (1=1 and 1/0=0)", 0);
    test("not (1/0=0 and 1=2)", 0);
    test("1=1 or 1/0=0 or 1/0=0", 9);
    test("1=2 and 1/0=0 or 1=1", 9);
    test("1=1 or 1=1 and 1/0=0", 9);
    test("1=2 or 1=2 and 1/0=0 or 1=1", 9);
    test("(1=1 or 1/0=0) and 1=1", 9);
    test("1=2 and 1/0=0 and 1/0=0 or 1=1", 9);
  }

  // ---- II: laws

  private static void laws() {
    of("LAWS, 6 at most; one is in FORCE (NONE at first: no CLAUSE)");
    BlessLoan x = pair();
    due("count(12)", x.count(12), NONE);
    due("sneezes", x.of(1, 5), 8);
    due("hears", x.of(1, 6), 5);
    due("owes", x.asks(0, 1, 0), 2);
    due("bars", x.asks(0, 1, 1), 0);
    for (int i = 0; i < 6; i++) {
      due("law " + i, law(x, "sneezes " + i), i);
    }
    due("a seventh", law(x, "sneezes 6"), -5);
    due("none is in force by being read", x.count(12), NONE);
    due("force(5)", x.force(5), NONE);
    due("of(0, 5)", x.of(0, 5), 5);
    due("force(6)", x.force(6), -2);
    of("(other, far -1)");
    for (String kind : new String[] {"sneezes", "hears"}) {
      int what = kind.equals("sneezes") ? 5 : 6;
      BlessLoan y = pair();
      inForce(y, kind + " 7 if far=0-1 and other=0-1");
      due(kind, y.of(0, what), 7);
      due(kind, y.of(1, what), 7);
    }
  }

  private static void others() {
    of("(other: the other one of both, far: how FAR that is)");
    BlessLoan same = pairIn(7, 7);
    inForce(same, "owes 4+far; bars if far=0 and person=1");
    due("far in the same place", same.asks(0, 1, 0), 4);
    due("bars in the same place", same.asks(0, 1, 1), 1);
    due("bars the other way", same.asks(1, 0, 1), 0);
    BlessLoan corners = pairIn(0, 24);
    inForce(corners, "owes far; bars if far=8 and other=0");
    due("far between corners", corners.asks(0, 1, 0), 8);
    due("bars between corners", corners.asks(0, 1, 1), 1);
    due("bars the other way", corners.asks(1, 0, 1), 0);
    inForce(corners, "owes person*3+other*5; bars if place=24 and age=20 and cold=7 and dust=1");
    due("owes is asked of who sneezes: 0", corners.asks(0, 1, 0), 5);
    due("owes is asked of who sneezes: 1", corners.asks(1, 0, 0), 3);
    due("bars is asked of who would bless: 1", corners.asks(0, 1, 1), 1);
    due("bars is asked of who would bless: 0", corners.asks(1, 0, 1), 0);
  }

  private static void holding() {
    of("A CLAUSE HOLDS, if its \"if\" (if it has one) is so, and neither that nor its SUM is BROKEN.");
    sum("4", 4);
    sum("4 if 1=1", 4);
    sum("2; sneezes 4 if 1=2", 2);
    sum("2; sneezes 4 if 1/0=1", 2);
    sum("2; sneezes 4 if not 1/0=1", 2);
    sum("2; sneezes 1/0 if 1=1", 2);
    sum("2; sneezes 1/0", 2);
    sum("1/0", 8);
    sum("4 if 1=2", 8);
    BlessLoan x = pair();
    inForce(x, "bars if 1/0=1");
    due("a broken bars", x.asks(0, 1, 1), 0);
    inForce(x, "bars if 1=2");
    due("a bars that is not so", x.asks(0, 1, 1), 0);
    inForce(x, "hears 1/0");
    due("a broken hears", x.of(1, 6), 5);
    inForce(x, "owes 1%0");
    due("a broken owes", x.asks(0, 1, 0), 2);
    of("the last \"sneezes\" that HOLDS");
    sum("1; sneezes 2; sneezes 3", 3);
    sum("1; sneezes 2; sneezes 3 if 1=2; hears 9", 2);
    inForce(x, "hears 1; hears 2; hears 3 if 1=2; sneezes 8");
    due("hears", x.of(0, 6), 2);
    inForce(x, "owes 1; owes 3; owes 5 if 1=2; bars");
    due("owes", x.asks(0, 1, 0), 3);
  }

  private static void bounds() {
    of("0 .. 10 (else the nearest), DUST and COLD without (10 at most), 0 if MASKED");
    sum("0", 0);
    sum("0-1", 0);
    sum("0-1000*1000*1000", 0);
    sum("10", 10);
    sum("11", 10);
    sum("1000*1000*1000", 10);
    for (int dust = 0; dust < 10; dust++) {
      BlessLoan x = pair();
      x.dust(13, dust);
      due("dust " + dust + " and cold 7", x.of(1, 5), Math.min(10, dust + 7));
    }
    BlessLoan none = new BlessLoan();
    none.person(3, 0, 0, 0);
    none.dust(3, 0);
    due("without dust and cold", none.of(0, 5), 0);
    BlessLoan x = pair();
    x.mask(1, 1);
    due("a masked one", x.of(1, 5), 0);
    inForce(x, "sneezes 10");
    due("a masked one by a law", x.of(1, 5), 0);
    due("another one by it", x.of(0, 5), 10);
    of("it HEARS what is 0 .. 20 FAR at most, EARS without");
    int[] told = {0, 1, 20, 21, 1000};
    for (int value : told) {
      inForce(x, "hears " + value);
      due("hears " + value, x.of(0, 6), Math.min(20, value));
      x = pair();
    }
    inForce(x, "hears 0-3");
    due("hears 0-3", x.of(0, 6), 0);
    x.mask(0, 1);
    due("a masked one by a law", x.of(0, 6), 0);
    x.force(NONE);
    due("ears of a masked one", x.of(0, 6), 9);
    of("for a blessing 0 .. 9 are OWED, 2 without");
    for (int value : new int[] {0, 1, 9, 10, 1000}) {
      BlessLoan y = pair();
      inForce(y, "owes " + value);
      due("owes " + value, y.asks(0, 1, 0), Math.min(9, value));
      y.sneeze(0);
      due("owed(0, 1)", y.owed(0, 1), Math.min(9, value));
    }
    inForce(x, "owes 0-1");
    due("owes 0-1", x.asks(0, 1, 0), 0);
    of("one is BARRED from blessing, if \"bars\" HOLDS");
    inForce(x, "bars; bars if 1=2; bars if 1/0=1");
    due("the first one holds", x.asks(0, 1, 1), 1);
    inForce(x, "bars if person=1");
    due("1 is barred", x.asks(0, 1, 1), 1);
    due("0 is not", x.asks(1, 0, 1), 0);
    due("nobody blesses", x.sneeze(0), 100);
  }

  // ---- II: orders

  private static void times() {
    of("TIMES: a NUMBER 1 .. 20");
    faultOfOrders("pass times 0", 11);
    faultOfOrders("pass times 000", 11);
    faultOfOrders("pass times 21", 11);
    faultOfOrders("pass times 1000", 11);
    faultOfOrders("pass times 9999999999", 11);
    faultOfOrders("pass times 1", NONE);
    faultOfOrders("pass times 0020", NONE);
    faultOfOrders("pass times done", 11);
    faultOfOrders("pass times [2]", 11);
    faultOfOrders("pass times 1+1", 12);
    faultOfOrders("pass times 2 times 2", 13);
    faultOfOrders("pass if 1=1 times 2", 12);
    BlessLoan x = pair();
    due("once without", orders(x, "pass"), 1);
    due("times 1", orders(x, "pass times 1"), 1);
    due("times 20", orders(x, "pass times 20"), 20);
    due("count(13)", x.count(13), 22);
    due("all there can be", orders(x, "pass times 20;".repeat(11) + "pass times 20"), 240);
    of("P: a NUMBER 0 .. 7");
    for (String word : new String[] {"at", "owed", "owes"}) {
      faultOfOrders("pass if " + word + " 0=0", NONE);
      faultOfOrders("pass if " + word + " 7=0", NONE);
      faultOfOrders("pass if " + word + " 007=0", NONE);
      faultOfOrders("pass if " + word + " 8=0", 9 + word.length());
      faultOfOrders("pass if " + word + " 1000=0", 9 + word.length());
      faultOfOrders("pass if " + word + " done=0", 9 + word.length());
      faultOfOrders("pass if " + word + "[1]=0", 8 + word.length());
      faultOfOrders("pass if " + word + "=0", 8 + word.length());
      faultOfOrders("pass if " + word, 8 + word.length());
    }
    of("P, TIMES aside, NUMBERS and words count as PARTS.");
    faultOfOrders("pass times 2 if " + "at 1+".repeat(48) + "1=1", NONE);
    faultOfOrders("pass times 2 if " + "at 1+".repeat(49) + "1=1", 263);
    faultOfOrders("pass times 2;".repeat(11) + "pass if " + "1+".repeat(48) + "1=1", NONE);
    faultOfOrders("pass times 2;".repeat(11) + "pass if " + "1+".repeat(49) + "1=at 1", 251);
  }

  private static void words() {
    of("each time its \"if\" is asked (not run, if it is not so or BROKEN), then its SUMS");
    BlessLoan x = pair();
    due("as long as it is so", orders(x, "pass times 20 if minute<3"), 3);
    due("never", orders(x, "pass times 20 if 1=2"), 0);
    due("broken", orders(x, "pass times 20 if 1/0=1"), 0);
    due("sums are not asked then", orders(x, "step 1/0 to 1/0 if 1=2; sneeze 9 if 1/0=1"), 0);
    due("sums are asked each time", orders(x, "step 0 to at 0-5 times 2"), 2);
    due("of(0, 0)", x.of(0, 0), 2);
    of("done: how many were run in this TEXT");
    due("done begins with 0", orders(x, "pass if done=0; pass if done=1; pass if done=3"), 2);
    due("done begins with 0 again", orders(x, "pass if done=0; pass if done=0"), 1);
    of("latest: who blessed the latest sneeze in it (-1: nobody, none)");
    x = pair();
    x.sneeze(0);
    due("none in it", orders(x, "pass if latest=0-1"), 1);
    due("the latest", orders(x, "sneeze 0;pass if latest=1;sneeze 1;pass if latest=0"), 4);
    due("none in a new one", orders(x, "pass if latest=0-1"), 1);
    x.mask(0, 1);
    due("nobody", orders(x, "sneeze 0;pass if latest=1;sneeze 1;pass if latest=0-1"), 4);
    due("none in it again", orders(x, "pass if latest=0-1"), 1);
    of("at: the PLACE of a PERSON (-1: no such)");
    due("at", orders(x, "pass if at 0=12 and at 1=13 and at 2=0-1 and at 7=0-1"), 1);
    of("owed, owes: to it, by it, of all together (0 without)");
    x = four();
    x.lend(0, 1, 99);
    x.lend(2, 1, 98);
    x.lend(1, 3, 7);
    due("owed", orders(x, "pass if owed 1=197 and owed 3=7 and owed 0=0 and owed 4+owed 7=0"), 1);
    due("owes", orders(x, "pass if owes 1=7 and owes 0=99 and owes 3=0 and owes 4+owes 7=0"), 1);
  }

  private static void whollyOrNot() {
    of("One that can't be (a BROKEN SUM, as step(), sneeze(), forgive(), pass() are REFUSED) ends it");
    String[] none = {"sneeze 1/0", "sneeze 1%0", "sneeze 1000*1000*1000*2", "step 1/0 to 1",
        "step 0 to 1/0", "forgive 1/0 by 1", "forgive 0 by 1/0", "step 0 to 25", "step 0 to 0-1",
        "step 2 to 1", "step 0-1 to 1", "step 0 to 12", "step 0 to 14", "sneeze 2", "sneeze 0-1",
        "forgive 0 by 0", "forgive 1 by 0", "forgive 2 by 0", "forgive 0 by 2", "pass times 3"};
    for (String order : none) {
      BlessLoan x = pair();
      x.lend(0, 1, 3);
      x.terms(0, 9996);
      x.step(0, 11);
      x.step(0, 12);
      String was = townOf(x);
      due(order, orders(x, "pass;step 1 to 14;sneeze 1;" + order), -3);
      due("stopped() by " + order, x.stopped(), 3);
      due("status() by " + order, x.status(), -3);
      due("count(9) by " + order, x.count(9), 1);
      due("count(7), count(8) by " + order, x.count(7) + x.count(8), 0);
      due("all behind " + order, townOf(x), was);
      due("the undone", x.undo(), 0);
      due("where it was", x.of(0, 0), 11);
    }
  }

  private static void brokenIsNotZero() {
    of("One that can't be (a BROKEN SUM");
    BlessLoan x = new BlessLoan();
    x.person(1, 0, 9, 0);
    x.person(1, 0, 9, 0);
    x.lend(1, 0, 3);
    due("where place 0 could be gone to", orders(x, "step 1 to 1/0"), -3);
    due("where person 0 could go", orders(x, "step 1/0 to 0"), -3);
    due("where person 0 could be forgiven to", orders(x, "forgive 1 by 1/0"), -3);
    due("where person 0 could sneeze", orders(x, "sneeze 1/0"), -3);
    x.lend(0, 1, 3);
    due("where person 0 could be forgiven", orders(x, "forgive 1/0 by 1"), -3);
    due("of(1, 0)", x.of(1, 0), 1);
    due("count(2)", x.count(2), 6);
  }

  private static void keptByRefusedOrders() {
    of("ends it: all is as it was ahead of it");
    BlessLoan x = pair();
    int[] way = {12, 11, 10, 5, 0, 1, 2, 3, 4, 9, 14, 19, 24, 23, 22, 21, 20};
    for (int i = 1; i < way.length; i++) {
      due("step(0, " + way[i] + ")", x.step(0, way[i]), way[i - 1]);
    }
    due("orders()", orders(x, "pass times 20; step 0 to 15; sneeze 0; sneeze 1/0"), -3);
    for (int i = way.length - 2; i >= 0; i--) {
      due("undo()", x.undo(), 0);
      due("of(0, 0)", x.of(0, 0), way[i]);
    }
    due("undo()", x.undo(), -3);
  }

  public static void main(String[] args) {
    Runnable[] sentences = {
        TextsTest::tape, TextsTest::tokens, TextsTest::clauses, TextsTest::tests, TextsTest::sums,
        TextsTest::limits, TextsTest::limitsOfEachText, TextsTest::faults, TextsTest::broken,
        TextsTest::laws, TextsTest::others, TextsTest::holding, TextsTest::bounds,
        TextsTest::times, TextsTest::words, TextsTest::whollyOrNot, TextsTest::brokenIsNotZero,
        TextsTest::keptByRefusedOrders};
    for (Runnable sentence : sentences) {
      sentence.run();
    }
    close("the edges of the texts hold");
  }
}
