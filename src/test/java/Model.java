import java.util.ArrayList;
import java.util.Arrays;
import java.util.List;

/**
 * The document once more, in its plainest and slowest form: trees for texts, snapshots for what is
 * undone, every row tried for the shortest one. FuzzTest holds BlessLoan against it.
 */
final class Model {
  static final int NONE = -1;

  static final class Broken extends Exception {
    private static final long serialVersionUID = 1L;
  }

  static final class Fault extends Exception {
    private static final long serialVersionUID = 1L;
    final int at;

    Fault(int at) {
      this.at = at;
    }
  }

  interface Env {
    long word(String name, int p);
  }

  interface Sum {
    long in(Env env) throws Broken;
  }

  interface Test {
    boolean in(Env env) throws Broken;
  }

  static final class Clause {
    String kind;
    Sum one;
    Sum two;
    int times = 1;
    Test test;
  }

  static final class Person implements Cloneable {
    int place;
    int age;
    int ears;
    int cold;
    boolean masked;

    Person copy() {
      Person p = new Person();
      p.place = place;
      p.age = age;
      p.ears = ears;
      p.cold = cold;
      p.masked = masked;
      return p;
    }
  }

  static final class State {
    int[] dust = new int[25];
    List<Person> people = new ArrayList<>();
    int[][] owed = new int[8][8];
    List<int[]> seen = new ArrayList<>();
    int minute;
    int mood;
    List<List<Clause>> laws = new ArrayList<>();
    int force = NONE;

    State copy() {
      State s = new State();
      s.dust = dust.clone();
      for (Person p : people) {
        s.people.add(p.copy());
      }
      for (int i = 0; i < 8; i++) {
        s.owed[i] = owed[i].clone();
      }
      s.seen.addAll(seen);
      s.minute = minute;
      s.mood = mood;
      s.laws.addAll(laws);
      s.force = force;
      return s;
    }
  }

  static final class Undo {
    int kind;
    State was;

    Undo(int kind, State was) {
      this.kind = kind;
      this.was = was;
    }
  }

  State s = new State();
  State[] images = new State[2];
  State hours;
  List<Undo> undos = new ArrayList<>();
  List<Integer> tape = new ArrayList<>();
  int[] refused = new int[7];
  int status;
  int fault = NONE;
  int stopped = NONE;
  int hiccups;

  Model() {
    Arrays.fill(s.dust, 1);
  }

  // ---- helpers

  int no(int code) {
    status = code;
    refused[-code]++;
    return code;
  }

  int yes(int answer) {
    status = 0;
    return answer;
  }

  boolean is(int p) {
    return 0 <= p && p < s.people.size();
  }

  static boolean in(int x, int lo, int hi) {
    return lo <= x && x <= hi;
  }

  static int far(int a, int b) {
    return Math.abs(a % 5 - b % 5) + Math.abs(a / 5 - b / 5);
  }

  static List<Clause> law(State t) {
    return t.force == NONE ? new ArrayList<>() : t.laws.get(t.force);
  }

  static Env env(State t, int person, int other) {
    return (name, p) -> {
      Person x = t.people.get(person);
      switch (name) {
        case "person": return person;
        case "place": return x.place;
        case "dust": return t.dust[x.place];
        case "age": return x.age;
        case "ears": return x.ears;
        case "cold": return x.cold;
        case "far": return other == NONE ? -1 : far(x.place, t.people.get(other).place);
        case "other": return other;
        case "minute": return t.minute;
        case "mood": return t.mood;
        default: throw new IllegalStateException(name);
      }
    };
  }

  /** Null: no clause of the kind holds. */
  static Long tells(State t, String kind, int person, int other) {
    Long told = null;
    Env env = env(t, person, other);
    for (Clause c : law(t)) {
      if (c.kind.equals(kind)) {
        try {
          if (c.test == null || c.test.in(env)) {
            told = c.one == null ? Long.valueOf(1) : Long.valueOf(c.one.in(env));
          }
        } catch (Broken e) {
          // it does not hold
        }
      }
    }
    return told;
  }

  static int clamp(long x, int hi) {
    return x < 0 ? 0 : x > hi ? hi : (int) x;
  }

  static int sneezes(State t, int p) {
    Person x = t.people.get(p);
    if (x.masked) {
      return 0;
    }
    Long told = tells(t, "sneezes", p, NONE);
    return told != null ? clamp(told, 10) : Math.min(10, t.dust[x.place] + x.cold);
  }

  static int hears(State t, int p) {
    Long told = tells(t, "hears", p, NONE);
    return told != null ? clamp(told, 20) : t.people.get(p).ears;
  }

  static int dues(State t, int sneezer, int blesser) {
    Long told = tells(t, "owes", sneezer, blesser);
    return told != null ? clamp(told, 9) : 2;
  }

  static boolean barred(State t, int blesser, int sneezer) {
    return tells(t, "bars", blesser, sneezer) != null;
  }

  static int blesser(State t, int sneezer) {
    List<Integer> may = new ArrayList<>();
    int where = t.people.get(sneezer).place;
    for (int b = 0; b < t.people.size(); b++) {
      Person x = t.people.get(b);
      if (b != sneezer && !x.masked && far(x.place, where) <= hears(t, b)
          && !barred(t, b, sneezer)) {
        may.add(b);
      }
    }
    may.sort((a, b) -> {
      Person x = t.people.get(a);
      Person y = t.people.get(b);
      int byFar = Integer.compare(far(x.place, where), far(y.place, where));
      if (byFar != 0) {
        return byFar;
      }
      int byAge = Integer.compare(y.age, x.age);
      return byAge != 0 ? byAge : Integer.compare(a, b);
    });
    return may.isEmpty() ? NONE : may.get(0);
  }

  static void bless(State t, int sneezer, int b) {
    if (b == NONE) {
      return;
    }
    if (t.owed[b][sneezer] > 0) {
      t.owed[b][sneezer] -= 1;
    } else {
      t.owed[sneezer][b] = Math.min(99, t.owed[sneezer][b] + dues(t, sneezer, b));
    }
  }

  static int owedTo(State t, int p) {
    int sum = 0;
    for (int i = 0; i < 8; i++) {
      sum += t.owed[i][p];
    }
    return sum;
  }

  static int owedBy(State t, int p) {
    return Arrays.stream(t.owed[p]).sum();
  }

  static int gain(State now, int p, int place) {
    State t = now.copy();
    t.people.get(p).place = place;
    int sum = 0;
    for (int i = 0; i < t.people.size(); i++) {
      if (i != p && blesser(t, i) == p) {
        sum += sneezes(t, i) * dues(t, i, p);
      }
    }
    return sum;
  }

  static int gains(State t) {
    int sum = 0;
    for (int p = 0; p < t.people.size(); p++) {
      sum += gain(t, p, t.people.get(p).place);
    }
    return sum;
  }

  static int best(State t, int p) {
    int best = 0;
    for (int q = 1; q < 25; q++) {
      if (gain(t, p, q) > gain(t, p, best)) {
        best = q;
      }
    }
    return best;
  }

  void did(int kind, State was) {
    undos.add(new Undo(kind, was));
    if (undos.size() > 16) {
      undos.remove(0);
    }
  }

  // ---- the face

  int dust(int place, int dust) {
    if (!in(place, 0, 24) || !in(dust, 0, 9)) {
      return no(-1);
    }
    undos.clear();
    int was = s.dust[place];
    s.dust[place] = dust;
    return yes(was);
  }

  int at(int place, int what) {
    if (!in(place, 0, 24) || !in(what, 0, 1)) {
      return NONE;
    }
    return what == 0 ? s.dust[place] : (int) s.people.stream().filter(p -> p.place == place).count();
  }

  int person(int place, int age, int ears, int cold) {
    if (!in(place, 0, 24) || !in(age, 0, 99) || !in(ears, 0, 9) || !in(cold, 0, 9)) {
      return no(-1);
    }
    if (s.people.size() == 8) {
      return no(-5);
    }
    undos.clear();
    add(place, age, ears, cold);
    return yes(s.people.size() - 1);
  }

  void add(int place, int age, int ears, int cold) {
    Person p = new Person();
    p.place = place;
    p.age = age;
    p.ears = ears;
    p.cold = cold;
    s.people.add(p);
  }

  int of(int person, int what) {
    if (!is(person)) {
      return NONE;
    }
    Person p = s.people.get(person);
    int[] all = {p.place, p.age, p.ears, p.cold, p.masked ? 1 : 0, sneezes(s, person),
        hears(s, person), blesser(s, person)};
    return in(what, 0, 7) ? all[what] : NONE;
  }

  int mask(int person, int is) {
    if (!in(is, 0, 1)) {
      return no(-1);
    }
    if (!is(person)) {
      return no(-2);
    }
    undos.clear();
    int was = s.people.get(person).masked ? 1 : 0;
    s.people.get(person).masked = is == 1;
    return yes(was);
  }

  int owed(int by, int to) {
    return is(by) && is(to) && by != to ? s.owed[by][to] : NONE;
  }

  int lend(int by, int to, int value) {
    if (by == to || !in(value, 0, 99)) {
      return no(-1);
    }
    if (!is(by) || !is(to)) {
      return no(-2);
    }
    undos.clear();
    int was = s.owed[by][to];
    s.owed[by][to] = value;
    return yes(was);
  }

  int net(int person) {
    return is(person) ? owedTo(s, person) - owedBy(s, person) : -100000;
  }

  int terms(int what, int value) {
    if (!in(what, 0, 1) || !in(value, 0, what == 0 ? 9999 : 9)) {
      return no(-1);
    }
    undos.clear();
    int was = what == 0 ? s.minute : s.mood;
    if (what == 0) {
      s.minute = value;
    } else {
      s.mood = value;
    }
    return yes(was);
  }

  int feed(int a, int b, int c, int d, int e) {
    if (tape.size() > 380) {
      return NONE;
    }
    for (int x : new int[] {a, b, c, d, e}) {
      tape.add(x >>> 24);
      tape.add(x >>> 16 & 255);
      tape.add(x >>> 8 & 255);
      tape.add(x & 255);
    }
    return tape.size();
  }

  int end(int n) {
    if (!in(n, 0, tape.size())) {
      return NONE;
    }
    while (tape.size() > n) {
      tape.remove(tape.size() - 1);
    }
    return n;
  }

  int row() {
    if (tape.isEmpty()) {
      return no(-6);
    }
    undos.clear();
    int came = 0;
    hiccups = 0;
    for (int i = 0; i < tape.size(); i += 4) {
      if (i + 4 <= tape.size() && tape.get(i) <= 24 && tape.get(i + 1) <= 99
          && tape.get(i + 2) <= 9 && tape.get(i + 3) <= 9 && s.people.size() < 8) {
        add(tape.get(i), tape.get(i + 1), tape.get(i + 2), tape.get(i + 3));
        came++;
      } else {
        hiccups++;
      }
    }
    tape.clear();
    return yes(came);
  }

  int hiccups() {
    return hiccups;
  }

  int law() {
    if (s.laws.size() == 6) {
      tape.clear();
      return no(-5);
    }
    List<Clause> read = read(false);
    if (read == null) {
      return no(-6);
    }
    s.laws.add(read);
    return yes(s.laws.size() - 1);
  }

  List<Clause> read(boolean orders) {
    StringBuilder b = new StringBuilder();
    tape.forEach(x -> b.append((char) x.intValue()));
    tape.clear();
    fault = NONE;
    try {
      return new Parse(b.toString(), orders).text();
    } catch (Fault e) {
      fault = e.at;
      return null;
    }
  }

  int orders() {
    stopped = NONE;
    List<Clause> read = read(true);
    if (read == null) {
      return no(-6);
    }
    State was = s.copy();
    List<Undo> undosWere = new ArrayList<>(undos);
    int[] refusedWere = refused.clone();
    int[] done = {0};
    int[] latest = {NONE};
    Env env = (name, p) -> {
      switch (name) {
        case "minute": return s.minute;
        case "done": return done[0];
        case "latest": return latest[0];
        case "at": return is(p) ? s.people.get(p).place : -1;
        case "owed": return is(p) ? owedTo(s, p) : 0;
        case "owes": return is(p) ? owedBy(s, p) : 0;
        default: throw new IllegalStateException(name);
      }
    };
    for (int c = 0; c < read.size(); c++) {
      for (int i = 0; i < read.get(c).times; i++) {
        if (!so(read.get(c).test, env)) {
          continue;
        }
        if (!run(read.get(c), env, latest)) {
          s = was;
          undos = undosWere;
          refused = refusedWere;
          stopped = c;
          return no(-3);
        }
        done[0]++;
      }
    }
    refused = refusedWere;
    return yes(done[0]);
  }

  static boolean so(Test test, Env env) {
    try {
      return test == null || test.in(env);
    } catch (Broken e) {
      return false;
    }
  }

  boolean run(Clause c, Env env, int[] latest) {
    try {
      int one = c.one == null ? 0 : (int) c.one.in(env);
      int two = c.two == null ? 0 : (int) c.two.in(env);
      switch (c.kind) {
        case "step": return step(one, two) >= 0;
        case "forgive": return forgive(one, two) >= 0;
        case "pass": return pass() >= 0;
        default: {
          int by = sneeze(one);
          latest[0] = by == 100 ? NONE : by;
          return by >= 0;
        }
      }
    } catch (Broken e) {
      return false;
    }
  }

  int fault() {
    return fault;
  }

  int stopped() {
    return stopped;
  }

  int force(int law) {
    if (law != NONE && !in(law, 0, s.laws.size() - 1)) {
      return no(-2);
    }
    int was = s.force;
    s.force = law;
    return yes(was);
  }

  int asks(int one, int other, int what) {
    if (one == other || !is(one) || !is(other) || !in(what, 0, 1)) {
      return NONE;
    }
    return what == 0 ? dues(s, one, other) : barred(s, other, one) ? 1 : 0;
  }

  int step(int person, int place) {
    if (!in(place, 0, 24)) {
      return no(-1);
    }
    if (!is(person)) {
      return no(-2);
    }
    int was = s.people.get(person).place;
    if (far(was, place) != 1) {
      return no(-3);
    }
    did(0, s.copy());
    s.people.get(person).place = place;
    return yes(was);
  }

  int sneeze(int person) {
    if (!is(person)) {
      return no(-2);
    }
    did(1, s.copy());
    int by = blesser(s, person);
    bless(s, person, by);
    return yes(by == NONE ? 100 : by);
  }

  int forgive(int by, int to) {
    if (!is(by) || !is(to)) {
      return no(-2);
    }
    int was = s.owed[by][to];
    if (was == 0) {
      return no(-3);
    }
    did(2, s.copy());
    s.owed[by][to] = 0;
    return yes(was);
  }

  /** All rows of people in order, the shorter ones first. */
  static List<Integer> ringOf(State t) {
    for (int length = 2; length <= t.people.size(); length++) {
      List<Integer> found = ringFrom(t, new ArrayList<>(), length);
      if (found != null) {
        return found;
      }
    }
    return new ArrayList<>();
  }

  static List<Integer> ringFrom(State t, List<Integer> row, int length) {
    if (row.size() == length) {
      for (int i = 0; i < length; i++) {
        if (t.owed[row.get(i)][row.get((i + 1) % length)] == 0 || row.get(i) < row.get(0)) {
          return null;
        }
      }
      return new ArrayList<>(row);
    }
    for (int i = 0; i < t.people.size(); i++) {
      if (!row.contains(i) && (row.isEmpty() || t.owed[row.get(row.size() - 1)][i] > 0)) {
        row.add(i);
        List<Integer> found = ringFrom(t, row, length);
        row.remove(row.size() - 1);
        if (found != null) {
          return found;
        }
      }
    }
    return null;
  }

  int clear() {
    List<Integer> ring = ringOf(s);
    if (ring.isEmpty()) {
      return no(-3);
    }
    did(3, s.copy());
    int least = 99;
    for (int i = 0; i < ring.size(); i++) {
      least = Math.min(least, s.owed[ring.get(i)][ring.get((i + 1) % ring.size())]);
    }
    for (int i = 0; i < ring.size(); i++) {
      s.owed[ring.get(i)][ring.get((i + 1) % ring.size())] -= least;
    }
    return yes(least);
  }

  int pass() {
    if (s.minute == 9999) {
      return no(-3);
    }
    did(4, s.copy());
    s.minute++;
    return yes(s.minute);
  }

  int undo() {
    if (undos.isEmpty()) {
      return no(-3);
    }
    Undo u = undos.remove(undos.size() - 1);
    for (int i = 0; i < s.people.size(); i++) {
      s.people.get(i).place = u.was.people.get(i).place;
    }
    s.owed = u.was.copy().owed;
    s.minute = u.was.minute;
    return yes(u.kind);
  }

  int ring(int i) {
    List<Integer> ring = ringOf(s);
    if (i == NONE && !ring.isEmpty()) {
      return ring.size();
    }
    return in(i, 0, ring.size() - 1) ? ring.get(i) : NONE;
  }

  int gain(int person, int place) {
    return is(person) && in(place, 0, 24) ? gain(s, person, place) : NONE;
  }

  int stand(int person, int what) {
    if (!is(person) || !in(what, 0, 1)) {
      return NONE;
    }
    int best = best(s, person);
    return what == 0 ? best : gain(s, person, best);
  }

  int rests(int person) {
    if (person != NONE && !is(person)) {
      return NONE;
    }
    State t = s.copy();
    for (int round = 1; round <= 50; round++) {
      boolean went = false;
      for (int p = 0; p < t.people.size(); p++) {
        int best = best(t, p);
        if (gain(t, p, best) > gain(t, p, t.people.get(p).place)) {
          t.people.get(p).place = best;
          went = true;
        }
      }
      if (!went) {
        return person == NONE ? round : t.people.get(person).place;
      }
    }
    return NONE;
  }

  List<Integer> bestWalk;
  int bestSteps;

  void walks(int where, List<Integer> row, List<Integer> left, int steps) {
    if (left.isEmpty()) {
      if (steps < bestSteps) {
        bestSteps = steps;
        bestWalk = new ArrayList<>(row);
      }
      return;
    }
    for (Integer next : new ArrayList<>(left)) {
      left.remove(next);
      row.add(next);
      int there = s.people.get(next).place;
      walks(there, row, left, steps + far(where, there));
      row.remove(row.size() - 1);
      left.add(next);
      left.sort(null);
    }
  }

  int round(int person, int i) {
    if (!is(person)) {
      return NONE;
    }
    List<Integer> lenders = new ArrayList<>();
    for (int p = 0; p < s.people.size(); p++) {
      if (s.owed[person][p] > 0) {
        lenders.add(p);
      }
    }
    bestSteps = Integer.MAX_VALUE;
    walks(s.people.get(person).place, new ArrayList<>(), lenders, 0);
    if (i == NONE) {
      return bestSteps;
    }
    return in(i, 0, bestWalk.size() - 1) ? bestWalk.get(i) : NONE;
  }

  int masks(int what) {
    if (!in(what, 0, 1)) {
      return NONE;
    }
    int n = s.people.size();
    for (int many = 0; many <= n; many++) {
      for (int bits = 0; bits < 1 << n; bits++) {
        if (Integer.bitCount(bits) == many && quietWith(bits)) {
          return what == 0 ? many : bits;
        }
      }
    }
    throw new IllegalStateException("all masked, and still somebody gains");
  }

  boolean quietWith(int bits) {
    State t = s.copy();
    for (int p = 0; p < t.people.size(); p++) {
      if ((bits >> p & 1) == 1) {
        if (t.people.get(p).masked) {
          return false;
        }
        t.people.get(p).masked = true;
      }
    }
    return gains(t) == 0;
  }

  int seen(int person, int by) {
    if (person == by) {
      return no(-1);
    }
    if (!is(person) || by != NONE && !is(by)) {
      return no(-2);
    }
    if (s.seen.size() == 8) {
      return no(-5);
    }
    s.seen.add(new int[] {person, by});
    return yes(s.seen.size());
  }

  int forget() {
    int were = s.seen.size();
    s.seen.clear();
    return were;
  }

  State with(int person, int place) {
    State t = s.copy();
    t.people.get(person).place = place;
    return t;
  }

  int can(int person) {
    if (!is(person)) {
      return NONE;
    }
    int bits = 0;
    for (int q = 0; q < 25; q++) {
      State t = with(person, q);
      if (s.seen.stream().allMatch(x -> blesser(t, x[0]) == x[1])) {
        bits |= 1 << q;
      }
    }
    return bits;
  }

  int listen(int person, int what) {
    int places = can(person);
    if (places == NONE || places == 0 || !in(what, 0, 1)) {
      return NONE;
    }
    int fewest = 26;
    int who = NONE;
    for (int p = 0; p < s.people.size(); p++) {
      int[] groups = new int[9];
      for (int q = 0; q < 25; q++) {
        if ((places >> q & 1) == 1) {
          groups[blesser(with(person, q), p) + 1]++;
        }
      }
      int most = Arrays.stream(groups).max().getAsInt();
      if (most < fewest) {
        fewest = most;
        who = p;
      }
    }
    return what == 0 ? who : fewest;
  }

  long often(int person, int k, int n) {
    if (!is(person) || !in(k, 0, 20) || !in(n, 0, 60)) {
      return NONE;
    }
    long p = sneezes(s, person);
    long[] now = new long[k + 1];
    now[0] = 1_000_000_000_000L;
    for (int m = 0; m < n; m++) {
      long[] next = new long[k + 1];
      for (int i = 0; i < k; i++) {
        next[i] += now[i] * (10 - p) / 10;
        next[i + 1] += now[i] * p / 10;
      }
      next[k] += now[k];
      now = next;
    }
    return now[k];
  }

  int compare(int law) {
    if (law != NONE && !in(law, 0, s.laws.size() - 1)) {
      return NONE;
    }
    State t = s.copy();
    t.force = law;
    return gains(t);
  }

  int hours(int seed, int n) {
    if (!in(seed, 0, 1000000) || !in(n, 1, 60)) {
      return no(-1);
    }
    State t = s.copy();
    long x = seed;
    int sneezes = 0;
    for (int m = 0; m < n; m++) {
      if (t.minute == 9999) {
        break;
      }
      for (int p = 0; p < t.people.size(); p++) {
        x = (x * 1103 + 12345) % 1000003;
        if (x % 10 < sneezes(t, p)) {
          sneezes++;
          bless(t, p, blesser(t, p));
        }
        x = (x * 1103 + 12345) % 1000003;
        int way = (int) (x % 4);
        Person one = t.people.get(p);
        int px = one.place % 5 + new int[] {0, 1, 0, -1}[way];
        int py = one.place / 5 + new int[] {-1, 0, 1, 0}[way];
        if (in(px, 0, 4) && in(py, 0, 4)) {
          one.place = 5 * py + px;
        }
      }
      t.minute++;
    }
    hours = t;
    return yes(sneezes);
  }

  int drawn(int k, int what) {
    if (hours == null || !in(k, 0, hours.people.size() - 1) || !in(what, 0, 2)) {
      return NONE;
    }
    return what == 0 ? hours.people.get(k).place : what == 1 ? owedTo(hours, k) : owedBy(hours, k);
  }

  int image(int k) {
    if (!in(k, 0, 1)) {
      return no(-1);
    }
    images[k] = s.copy();
    return yes(0);
  }

  int back(int k) {
    if (!in(k, 0, 1)) {
      return no(-1);
    }
    if (images[k] == null) {
      return no(-2);
    }
    s = images[k].copy();
    undos.clear();
    return yes(0);
  }

  int count(int what) {
    int owedInAll = 0;
    for (int i = 0; i < 8; i++) {
      owedInAll += owedBy(s, i);
    }
    int[] all = {s.people.size(), (int) s.people.stream().filter(p -> p.masked).count(), owedInAll,
        s.seen.size(), s.laws.size(), undos.size(), tape.size(), refused[1], refused[2], refused[3],
        refused[5], refused[6], s.force, s.minute, s.mood};
    return in(what, 0, 14) ? all[what] : NONE;
  }

  int status() {
    return status;
  }

  // ---- texts

  static final class Parse {
    final List<String> tokens = new ArrayList<>();
    final List<Integer> places = new ArrayList<>();
    final boolean orders;
    int i = 0;
    int parts = 0;

    Parse(String text, boolean orders) {
      this.orders = orders;
      java.util.regex.Matcher m =
          java.util.regex.Pattern.compile("[a-z]+|[0-9]+|[^ ]", java.util.regex.Pattern.DOTALL)
              .matcher(text);
      while (m.find()) {
        tokens.add(m.group());
        places.add(m.start());
      }
      tokens.add("");
      places.add(text.length());
    }

    String now() {
      return tokens.get(i);
    }

    Fault fault() {
      return new Fault(places.get(i));
    }

    boolean take(String token) {
      if (!now().equals(token)) {
        return false;
      }
      i++;
      return true;
    }

    void need(String token) throws Fault {
      if (!take(token)) {
        throw fault();
      }
    }

    int number(int lo, int hi) throws Fault {
      if (now().isEmpty() || !Character.isDigit(now().charAt(0))) {
        throw fault();
      }
      java.math.BigInteger x = new java.math.BigInteger(now());
      if (x.compareTo(java.math.BigInteger.valueOf(hi)) > 0
          || x.compareTo(java.math.BigInteger.valueOf(lo)) < 0) {
        throw fault();
      }
      i++;
      return x.intValue();
    }

    List<Clause> text() throws Fault {
      List<Clause> all = new ArrayList<>();
      do {
        if (all.size() == 12) {
          throw fault();
        }
        all.add(orders ? order() : lawClause());
      } while (take(";"));
      need("");
      return all;
    }

    Clause lawClause() throws Fault {
      Clause c = new Clause();
      c.kind = now();
      if (take("bars")) {
        c.one = null;
      } else if (take("sneezes") || take("hears") || take("owes")) {
        c.one = sum(0);
      } else {
        throw fault();
      }
      c.test = take("if") ? test(0) : null;
      return c;
    }

    Clause order() throws Fault {
      Clause c = new Clause();
      c.kind = now();
      if (take("step")) {
        c.one = sum(0);
        need("to");
        c.two = sum(0);
      } else if (take("forgive")) {
        c.one = sum(0);
        need("by");
        c.two = sum(0);
      } else if (take("sneeze")) {
        c.one = sum(0);
      } else {
        need("pass");
      }
      if (take("times")) {
        c.times = number(1, 20);
      }
      c.test = take("if") ? test(0) : null;
      return c;
    }

    Test test(int deep) throws Fault {
      Test a = both(deep);
      while (take("or")) {
        Test left = a;
        Test right = both(deep);
        a = e -> left.in(e) || right.in(e);
      }
      return a;
    }

    Test both(int deep) throws Fault {
      Test a = plain(deep);
      while (take("and")) {
        Test left = a;
        Test right = plain(deep);
        a = e -> left.in(e) && right.in(e);
      }
      return a;
    }

    Test plain(int deep) throws Fault {
      if (take("not")) {
        Test a = plain(deep);
        return e -> !a.in(e);
      }
      if (now().equals("(")) {
        if (deep == 8) {
          throw fault();
        }
        i++;
        Test a = test(deep + 1);
        need(")");
        return a;
      }
      Sum a = sum(deep);
      String op = now();
      if (!take("<") && !take(">") && !take("=")) {
        throw fault();
      }
      Sum b = sum(deep);
      return e -> {
        int order = Long.compare(a.in(e), b.in(e));
        return op.equals("<") ? order < 0 : op.equals(">") ? order > 0 : order == 0;
      };
    }

    static long work(long a, String op, long b) throws Broken {
      if ((op.equals("/") || op.equals("%")) && b == 0) {
        throw new Broken();
      }
      long x = op.equals("+") ? a + b : op.equals("-") ? a - b : op.equals("*") ? a * b
          : op.equals("/") ? a / b : a % b;
      if (Math.abs(x) > 1_000_000_000L) {
        throw new Broken();
      }
      return x;
    }

    Sum sum(int deep) throws Fault {
      Sum a = term(deep);
      while (now().equals("+") || now().equals("-")) {
        String op = now();
        i++;
        Sum left = a;
        Sum right = term(deep);
        a = e -> work(left.in(e), op, right.in(e));
      }
      return a;
    }

    Sum term(int deep) throws Fault {
      Sum a = part(deep);
      while (now().equals("*") || now().equals("/") || now().equals("%")) {
        String op = now();
        i++;
        Sum left = a;
        Sum right = part(deep);
        a = e -> work(left.in(e), op, right.in(e));
      }
      return a;
    }

    Sum part(int deep) throws Fault {
      if (now().equals("[")) {
        if (deep == 8) {
          throw fault();
        }
        i++;
        Sum a = sum(deep + 1);
        need("]");
        return a;
      }
      if (parts == 50) {
        throw fault();
      }
      parts++;
      if (!now().isEmpty() && Character.isDigit(now().charAt(0))) {
        int x = number(0, 1000);
        return e -> x;
      }
      List<String> words = orders
          ? List.of("minute", "done", "latest", "at", "owed", "owes")
          : List.of("person", "place", "dust", "age", "ears", "cold", "far", "other", "minute",
              "mood");
      String word = now();
      if (!words.contains(word)) {
        throw fault();
      }
      i++;
      int p = orders && words.indexOf(word) >= 3 ? number(0, 7) : 0;
      return e -> e.word(word, p);
    }
  }
}
