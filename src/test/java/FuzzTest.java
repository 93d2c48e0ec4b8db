import java.lang.reflect.InvocationTargetException;
import java.lang.reflect.Method;
import java.util.ArrayList;
import java.util.List;
import java.util.Random;

/** Random runs of calls, each answer held against Model's. Seeds are fixed: each run is the same. */
public final class FuzzTest {
  private static final int RUNS = Integer.getInteger("runs", 800);
  private static final int FIRST = Integer.getInteger("first", 0);

  private final Random random;
  private final BlessLoan real = new BlessLoan();
  private final Model model = new Model();
  private final List<String> log = new ArrayList<>();
  private int calls = 0;
  private boolean wrong = false;

  private FuzzTest(long seed) {
    random = new Random(seed);
  }

  private static Method find(Class<?> type, String name) {
    for (Method m : type.getDeclaredMethods()) {
      if (m.getName().equals(name) && !java.lang.reflect.Modifier.isStatic(m.getModifiers())
          && (type != BlessLoan.class || java.lang.reflect.Modifier.isPublic(m.getModifiers()))) {
        m.setAccessible(true);
        return m;
      }
    }
    throw new IllegalStateException(name);
  }

  private static long ask(Object on, String name, Object[] args) {
    try {
      return ((Number) find(on.getClass(), name).invoke(on, args)).longValue();
    } catch (InvocationTargetException e) {
      throw new IllegalStateException(name, e.getCause());
    } catch (IllegalAccessException e) {
      throw new IllegalStateException(name, e);
    }
  }

  private long call(String name, Integer... args) {
    if (wrong || calls >= 512) {
      return 0;
    }
    calls++;
    String text = name + java.util.Arrays.toString(args);
    log.add(text);
    long due = ask(model, name, args);
    long got;
    try {
      got = ask(real, name, args);
    } catch (IllegalStateException e) {
      e.getCause().printStackTrace(System.out);
      wrong = true;
      return 0;
    }
    log.set(log.size() - 1, text + " = " + due);
    if (got != due) {
      System.out.println(String.join("\n", log));
      System.out.println("answered " + got + ", due is " + due);
      wrong = true;
    }
    return due;
  }

  private int upTo(int n) {
    return random.nextInt(n + 1);
  }

  /** Mostly 0 .. most, at times an edge or far off. */
  private int number(int most) {
    int r = upTo(40);
    if (r == 0) {
      return most + 1;
    }
    if (r == 1) {
      return -1;
    }
    if (r == 2) {
      int[] odd = {Integer.MIN_VALUE, Integer.MAX_VALUE, -2, 1 << 30, most + 7, most * 2 + 1};
      return odd[upTo(odd.length - 1)];
    }
    return upTo(most);
  }

  private int person() {
    int n = model.s.people.size();
    return upTo(12) == 0 ? number(8) : number(Math.max(0, n - 1));
  }

  // ---- texts

  private String pick(String... all) {
    return all[upTo(all.length - 1)];
  }

  private String gap() {
    return pick(" ", " ", "  ");
  }

  private String sum(boolean orders, int deep) {
    StringBuilder b = new StringBuilder(part(orders, deep));
    for (int i = upTo(6) / 3; i > 0; i--) {
      b.append(pick("+", "-", "*", "/", "%", " + ", " - ", " * ")).append(part(orders, deep));
    }
    return b.toString();
  }

  private String part(boolean orders, int deep) {
    int r = upTo(9);
    if (r < 4) {
      return "" + (upTo(9) == 0 ? upTo(1001) : upTo(9));
    }
    if (r == 4 && deep < 9) {
      return "[" + sum(orders, deep + 1) + "]";
    }
    if (orders) {
      return pick("minute", "done", "latest", "at " + upTo(7), "owed " + upTo(7), "owes" + upTo(8));
    }
    return pick("person", "place", "dust", "age", "ears", "cold", "far", "other", "minute", "mood");
  }

  private String test(boolean orders, int deep) {
    StringBuilder b = new StringBuilder(plain(orders, deep));
    for (int i = upTo(5) / 3; i > 0; i--) {
      b.append(pick(" or ", " and ")).append(plain(orders, deep));
    }
    return b.toString();
  }

  private String plain(boolean orders, int deep) {
    int r = upTo(9);
    if (r == 0) {
      return "not " + plain(orders, deep);
    }
    if (r == 1 && deep < 9) {
      return "(" + test(orders, deep + 1) + ")";
    }
    return sum(orders, deep) + pick("<", ">", "=", " < ", " > ", " = ") + sum(orders, deep);
  }

  private String lawClause() {
    String kind = pick("sneezes", "hears", "owes", "bars");
    String sum = kind.equals("bars") ? "" : gap() + sum(false, 0);
    String test = upTo(1) == 0 ? "" : gap() + "if " + test(false, 0);
    return kind + sum + test;
  }

  private String order() {
    int one = upTo(Math.max(0, model.s.people.size() - 1));
    String at = model.s.people.isEmpty() ? "0" : "at " + one;
    String who = upTo(5) == 0 ? sum(true, 0) : "" + one;
    String b = pick(
        "step " + one + " to " + at + " " + pick("+1", "-1", "+5", "-5"),
        "step " + who + " to " + at + " " + pick("+1", "-1", "+5", "-5") + "*" + sum(true, 0),
        "sneeze " + who,
        "sneeze " + one,
        "forgive " + who + " by " + upTo(7),
        "pass");
    if (upTo(3) == 0) {
      b += " times " + upTo(21);
    }
    if (upTo(1) == 0) {
      b += " if " + (upTo(2) == 0 ? test(true, 0) : "at " + one + " > 4 and at " + one + " < 20");
    }
    return b;
  }

  private String text(boolean orders) {
    StringBuilder b = new StringBuilder();
    int n = upTo(30) == 0 ? 11 + upTo(2) : 1 + upTo(4);
    for (int i = 0; i < n; i++) {
      b.append(i == 0 ? "" : pick(";", "; ", " ; "));
      b.append(n > 6 ? orders ? "pass" : "bars" : orders ? order() : lawClause());
    }
    if (upTo(25) == 0) {
      return edge(orders);
    }
    return upTo(6) == 0 ? spoil(b) : b.toString();
  }

  /** Texts about the limits of parts, brackets and "not"s. */
  private String edge(boolean orders) {
    String head = orders ? "pass if " : "bars if ";
    int deep = 7 + upTo(3);
    switch (upTo(3)) {
      case 0:
        return head + "1+".repeat(46 + upTo(3)) + "1=1";
      case 1:
        return head + "(".repeat(deep) + "1=1" + ")".repeat(deep);
      case 2:
        return head + "((" + "[".repeat(deep - 2) + "1" + "]".repeat(deep - 2) + "=1))";
      default:
        return head + "not ".repeat(90 + upTo(3)) + "1=0";
    }
  }

  private String spoil(StringBuilder b) {
    for (int i = upTo(2); i >= 0 && b.length() > 0; i--) {
      int at = upTo(b.length() - 1);
      switch (upTo(2)) {
        case 0:
          b.deleteCharAt(at);
          break;
        case 1:
          b.setCharAt(at, (char) (upTo(3) == 0 ? upTo(255) : " ;[]()+-azZ09".charAt(upTo(12))));
          break;
        default:
          b.insert(at, pick(" ", "not ", "if ", ";", "(", "]", "1001", "0"));
          break;
      }
    }
    return b.toString();
  }

  private void put(String text) {
    int[] bytes = new int[400];
    int length = Math.min(text.length(), 400);
    for (int i = 0; i < length; i++) {
      bytes[i] = text.charAt(i);
    }
    call("end", 0);
    for (int i = 0; i < length; i += 20) {
      Integer[] five = new Integer[5];
      for (int k = 0; k < 5; k++) {
        int at = i + 4 * k;
        five[k] = bytes[at] << 24 | bytes[at + 1] << 16 | bytes[at + 2] << 8 | bytes[at + 3];
      }
      call("feed", five);
    }
    call("end", length);
  }

  // ---- runs

  private void people() {
    for (int i = upTo(2) == 0 ? upTo(8) : 4 + upTo(4); i > 0; i--) {
      call("person", number(24), upTo(1) == 0 ? 30 : number(99), number(9), number(9));
    }
  }

  /** Some debts here and there, or a ring of them. */
  private void debts() {
    int n = model.s.people.size();
    List<Integer> row = new ArrayList<>();
    for (int i = 0; i < n; i++) {
      row.add(i);
    }
    java.util.Collections.shuffle(row, random);
    int length = n < 2 ? 0 : 2 + upTo(n - 2);
    boolean ring = upTo(1) == 0;
    for (int i = 0; i < length; i++) {
      call("lend", row.get(i), ring ? row.get((i + 1) % length) : upTo(n - 1), 1 + upTo(20));
    }
  }

  private void change() {
    switch (upTo(13)) {
      case 12:
      case 13:
        debts();
        break;
      case 0:
        call("dust", number(24), number(9));
        break;
      case 1:
        call("person", number(24), number(99), number(9), number(9));
        break;
      case 2:
        call("mask", person(), number(1));
        break;
      case 3:
      case 4:
        call("lend", person(), person(), upTo(2) == 0 ? 0 : number(99));
        break;
      case 5:
        call("terms", number(1), pick("a", "b").equals("a") ? number(9) : 9990 + upTo(10));
        break;
      case 6:
        StringBuilder b = new StringBuilder();
        for (int i = upTo(9); i >= 0; i--) {
          b.append((char) upTo(12));
        }
        put(b.toString());
        call("row");
        call("hiccups");
        break;
      case 7:
        call("image", number(1));
        break;
      case 8:
        call("back", number(1));
        break;
      case 9:
        call("force", number(Math.max(0, model.s.laws.size() - 1)));
        break;
      default:
        put(text(false));
        call("law");
        call("fault");
        call("force", model.s.laws.size() - 1);
        break;
    }
  }

  private void act() {
    switch (upTo(13)) {
      case 11:
        call("undo");
        break;
      case 12:
        call("clear");
        break;
      case 13:
        call("forgive", person(), person());
        break;
      case 0:
        call("step", person(), number(24));
        break;
      case 1:
      case 2:
        int p = person();
        int place = model.is(p) ? model.s.people.get(p).place : 0;
        call("step", p, place + new int[] {1, -1, 5, -5}[upTo(3)]);
        break;
      case 3:
      case 4:
        call("sneeze", person());
        break;
      case 5:
        call("forgive", person(), person());
        break;
      case 6:
        call("clear");
        break;
      case 7:
        call("pass");
        break;
      case 8:
        call("undo");
        break;
      default:
        put(text(true));
        call("orders");
        call("fault");
        call("stopped");
        break;
    }
  }

  private void ask() {
    int p = person();
    switch (upTo(19)) {
      case 0:
        call("at", number(24), number(1));
        break;
      case 1:
      case 2:
        call("of", p, number(7));
        break;
      case 3:
        call("owed", p, person());
        break;
      case 4:
        call("net", p);
        break;
      case 5:
        call("asks", p, person(), number(1));
        break;
      case 6:
        call("ring", number(3));
        call("ring", -1);
        break;
      case 7:
        call("gain", p, number(24));
        break;
      case 8:
        call("stand", p, number(1));
        break;
      case 9:
        call("rests", upTo(3) == 0 ? -1 : p);
        break;
      case 10:
        call("round", p, number(4));
        call("round", p, -1);
        break;
      case 11:
        call("masks", number(1));
        break;
      case 12:
        call("seen", p, upTo(3) == 0 ? -1 : person());
        break;
      case 13:
        int by = model.is(p) ? Model.blesser(model.s, p) : 0;
        call("seen", p, by);
        break;
      case 14:
        call("can", p);
        break;
      case 15:
        call("listen", p, number(1));
        break;
      case 16:
        call("often", p, number(20), number(60));
        break;
      case 17:
        call("compare", number(Math.max(0, model.s.laws.size() - 1)));
        break;
      case 18:
        call("hours", number(1000000), upTo(1) == 0 ? number(60) : 1 + upTo(5));
        break;
      default:
        if (upTo(3) == 0) {
          call("forget");
        }
        call("drawn", p, number(2));
        break;
    }
  }

  /** All that can be read of the state. */
  private void look() {
    for (int i = -1; i <= 15; i++) {
      call("count", i);
    }
    call("status");
    for (int p = 0; p < model.s.people.size(); p++) {
      for (int what = 0; what < 8; what++) {
        call("of", p, what);
      }
      call("net", p);
    }
  }

  private boolean run() {
    people();
    if (upTo(1) == 0) {
      debts();
    }
    for (int i = 0; i < 120 && !wrong && calls < 380; i++) {
      int r = upTo(9);
      if (r < 2) {
        change();
      } else if (r < 5) {
        act();
      } else {
        ask();
      }
      call("status");
      call("count", number(14));
    }
    look();
    return !wrong;
  }

  public static void main(String[] args) {
    for (int i = FIRST; i < FIRST + RUNS; i++) {
      if (!new FuzzTest(i).run()) {
        System.out.println("seed " + i);
        System.exit(1);
      }
    }
    System.out.println(RUNS + " random runs are as the model's");
  }
}
