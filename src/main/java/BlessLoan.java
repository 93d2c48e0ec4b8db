import java.util.Arrays;

/**
 * A town in which a sneeze must be blessed by whoever is nearest, and a blessing is owed back with
 * one more. The document DOC.md numbers what each method promises.
 */
public final class BlessLoan {
  public static final int NONE = -1;

  private static final int SIDE = 5;
  private static final int PLACES = 25;
  private static final int CROWD = 8;
  private static final int TAPE = 400;
  private static final int LAWS = 6;
  private static final int SEEN = 8;
  private static final int IMAGES = 2;
  private static final int CLAUSES = 12;
  private static final int MINUTE = 0;
  private static final int MOOD = 1;
  private static final int LAST_MINUTE = 9999;
  private static final int MOST_OWED = 99;
  private static final int NOBODY = 100;

  /** What a call is refused by. */
  private static final int BAD_NUMBER = -1;
  private static final int MISSING = -2;
  private static final int CANNOT = -3;
  private static final int NO_ROOM = -5;
  private static final int BAD_TEXT = -6;

  /** The kinds of a law's clauses, in the order of LAW_KINDS. */
  private static final int SNEEZES = 0;
  private static final int HEARS = 1;
  private static final int OWES = 2;
  private static final int BARS = 3;
  private static final String LAW_KINDS = "sneezes hears owes bars";
  private static final String LAW_WORDS =
      "person place dust age ears cold far other minute mood";

  /** The kinds of orders' clauses, in the order of ORDER_KINDS. */
  private static final int STEP = 0;
  private static final int SNEEZE = 1;
  private static final int FORGIVE = 2;
  private static final int PASS = 3;
  private static final String ORDER_KINDS = "step sneeze forgive pass";
  private static final String ORDER_WORDS = "minute done latest at owed owes";
  private static final int PLAIN_WORDS = 3;

  /** What undo() answers. */
  private static final int WAS_STEP = 0;
  private static final int WAS_SNEEZE = 1;
  private static final int WAS_FORGIVE = 2;
  private static final int WAS_CLEAR = 3;
  private static final int WAS_PASS = 4;

  /** The code that a text is read into: values, then what looks at one value, then at two. */
  private static final int PUSH = 0;
  private static final int WORD = 1;
  private static final int NOT = 2;
  private static final int OR = 3;
  private static final int AND = 4;
  private static final int ADD = 5;
  private static final int SUBTRACT = 6;
  private static final int MULTIPLY = 7;
  private static final int DIVIDE = 8;
  private static final int REMAIN = 9;
  private static final int LESS = 10;
  private static final int MORE = 11;
  private static final int SAME = 12;

  private final Town town = new Town();
  private final Town saved = new Town();
  private final Town later = new Town();
  private final Town[] images = new Town[IMAGES];
  private final Reader reader = new Reader();
  private final Judge judge = new Judge(town);
  private final Past past = new Past();
  private final Past savedPast = new Past();
  private final Rings rings = new Rings();
  private final Deeds deeds = new Deeds(town, judge, past, rings);
  private final Clerk clerk = new Clerk(town, deeds);
  private final Planner planner = new Planner(judge);
  private final int[] refusals = new int[7];
  private int latestRefusal = 0;
  private int latestFault = NONE;
  private int latestStop = NONE;
  private int latestHiccups = 0;

  public BlessLoan() {}

  public int dust(int place, int dust) {
    if (!Town.isPlace(place) || dust < 0 || dust > 9) {
      return refuse(BAD_NUMBER);
    }
    int was = town.dust[place];
    town.dust[place] = dust;
    past.size = 0;
    return fine(was);
  }

  public int at(int place, int what) {
    if (!Town.isPlace(place)) {
      return NONE;
    }
    if (what == 0) {
      return town.dust[place];
    }
    return what == 1 ? town.peopleIn(place) : NONE;
  }

  public int person(int place, int age, int ears, int cold) {
    if (!Town.canBe(place, age, ears, cold)) {
      return refuse(BAD_NUMBER);
    }
    if (town.people >= CROWD) {
      return refuse(NO_ROOM);
    }
    past.size = 0;
    return fine(town.settle(place, age, ears, cold));
  }

  public int of(int person, int what) {
    if (!town.has(person)) {
      return NONE;
    }
    judge.look(town);
    switch (what) {
      case 0:
        return town.place[person];
      case 1:
        return town.age[person];
      case 2:
        return town.ears[person];
      case 3:
        return town.cold[person];
      case 4:
        return town.masked[person];
      case 5:
        return judge.chance(person);
      case 6:
        return judge.reach(person);
      case 7:
        return judge.blesser(person, 0);
      default:
        return NONE;
    }
  }

  public int mask(int person, int is) {
    if (is != 0 && is != 1) {
      return refuse(BAD_NUMBER);
    }
    if (!town.has(person)) {
      return refuse(MISSING);
    }
    int was = town.masked[person];
    town.masked[person] = is;
    past.size = 0;
    return fine(was);
  }

  public int owed(int by, int to) {
    if (!town.hasBoth(by, to)) {
      return NONE;
    }
    return town.owed[by * CROWD + to];
  }

  public int lend(int by, int to, int value) {
    if (by == to || value < 0 || value > MOST_OWED) {
      return refuse(BAD_NUMBER);
    }
    if (!town.hasBoth(by, to)) {
      return refuse(MISSING);
    }
    int was = town.owed[by * CROWD + to];
    town.owed[by * CROWD + to] = value;
    past.size = 0;
    return fine(was);
  }

  public int net(int person) {
    if (!town.has(person)) {
      return -100000;
    }
    return town.owedTo(person) - town.owedBy(person);
  }

  public int terms(int what, int value) {
    if (what != MINUTE && what != MOOD) {
      return refuse(BAD_NUMBER);
    }
    if (value < 0 || value > (what == MINUTE ? LAST_MINUTE : 9)) {
      return refuse(BAD_NUMBER);
    }
    int was = town.terms[what];
    town.terms[what] = value;
    past.size = 0;
    return fine(was);
  }

  public int feed(int a, int b, int c, int d, int e) {
    if (reader.length + 20 > TAPE) {
      return NONE;
    }
    reader.put(a);
    reader.put(b);
    reader.put(c);
    reader.put(d);
    reader.put(e);
    return reader.length;
  }

  public int end(int n) {
    if (n < 0 || n > reader.length) {
      return NONE;
    }
    reader.length = n;
    return n;
  }

  public int row() {
    if (reader.length == 0) {
      return refuse(BAD_TEXT);
    }
    int came = 0;
    int hiccuped = 0;
    for (int i = 0; i < reader.length; i += 4) {
      if (settleFrom(i)) {
        came++;
      } else {
        hiccuped++;
      }
    }
    reader.length = 0;
    latestHiccups = hiccuped;
    past.size = 0;
    return fine(came);
  }

  public int hiccups() {
    return latestHiccups;
  }

  public int law() {
    if (town.lawCount >= LAWS) {
      reader.length = 0;
      return refuse(NO_ROOM);
    }
    if (!readTape(false)) {
      return refuse(BAD_TEXT);
    }
    town.laws[town.lawCount] = reader.text.kept();
    town.lawCount++;
    return fine(town.lawCount - 1);
  }

  public int orders() {
    latestStop = NONE;
    if (!readTape(true)) {
      return refuse(BAD_TEXT);
    }
    saved.become(town);
    savedPast.become(past);
    judge.look(town);
    latestStop = clerk.execute(reader.text);
    if (latestStop != NONE) {
      town.become(saved);
      past.become(savedPast);
      return refuse(CANNOT);
    }
    return fine(clerk.done);
  }

  public int fault() {
    return latestFault;
  }

  public int stopped() {
    return latestStop;
  }

  public int force(int law) {
    if (!town.hasLawOrNone(law)) {
      return refuse(MISSING);
    }
    int was = town.inForce;
    town.inForce = law;
    return fine(was);
  }

  public int asks(int one, int other, int what) {
    if (!town.hasBoth(one, other)) {
      return NONE;
    }
    judge.look(town);
    if (what == 0) {
      return judge.dues(one, other);
    }
    if (what == 1) {
      return judge.bars(other, one) ? 1 : 0;
    }
    return NONE;
  }

  public int step(int person, int place) {
    return settled(deeds.walk(person, place));
  }

  public int sneeze(int person) {
    judge.look(town);
    return settled(deeds.letSneeze(person));
  }

  public int forgive(int by, int to) {
    return settled(deeds.release(by, to));
  }

  public int clear() {
    return settled(deeds.clearRing());
  }

  public int pass() {
    return settled(deeds.letPass());
  }

  public int undo() {
    return settled(deeds.takeBack());
  }

  public int ring(int i) {
    int length = rings.shortest(town);
    if (i == NONE) {
      return length > 0 ? length : NONE;
    }
    return i >= 0 && i < length ? rings.row[i] : NONE;
  }

  public int gain(int person, int place) {
    if (!town.has(person) || !Town.isPlace(place)) {
      return NONE;
    }
    planner.open(town);
    planner.findRivals(person);
    return planner.gainIn(person, place);
  }

  public int stand(int person, int what) {
    if (!town.has(person) || what != 0 && what != 1) {
      return NONE;
    }
    planner.open(town);
    planner.findRivals(person);
    planner.findBest(person);
    return what == 0 ? planner.bestPlace : planner.bestGain;
  }

  public int rests(int person) {
    if (person != NONE && !town.has(person)) {
      return NONE;
    }
    planner.open(town);
    int rounds = planner.roundsToRest();
    if (person == NONE || rounds == NONE) {
      return rounds;
    }
    return planner.paper.place[person];
  }

  public int round(int person, int i) {
    if (!town.has(person)) {
      return NONE;
    }
    planner.open(town);
    int steps = planner.shortestRound(person);
    if (i == NONE) {
      return steps;
    }
    return i >= 0 && i < planner.stops ? planner.walk[i] : NONE;
  }

  public int masks(int what) {
    if (what != 0 && what != 1) {
      return NONE;
    }
    planner.open(town);
    int bits = planner.fewestMasks();
    return what == 0 ? Integer.bitCount(bits) : bits;
  }

  public int seen(int person, int by) {
    if (person == by) {
      return refuse(BAD_NUMBER);
    }
    if (!town.has(person) || by != NONE && !town.has(by)) {
      return refuse(MISSING);
    }
    if (town.seenCount >= SEEN) {
      return refuse(NO_ROOM);
    }
    town.seenWho[town.seenCount] = person;
    town.seenBy[town.seenCount] = by;
    town.seenCount++;
    return fine(town.seenCount);
  }

  public int forget() {
    int were = town.seenCount;
    town.seenCount = 0;
    return were;
  }

  public int can(int person) {
    if (!town.has(person)) {
      return NONE;
    }
    planner.open(town);
    planner.findAllRivals(person);
    return planner.placesBySeen(person);
  }

  public int listen(int person, int what) {
    if (!town.has(person) || what != 0 && what != 1) {
      return NONE;
    }
    planner.open(town);
    planner.findAllRivals(person);
    int bits = planner.placesBySeen(person);
    if (bits == 0) {
      return NONE;
    }
    planner.findSneezeToHear(person, bits);
    return what == 0 ? planner.toHear : planner.mostLeft;
  }

  public long often(int person, int k, int n) {
    if (!town.has(person) || k < 0 || k > 20 || n < 0 || n > 60) {
      return NONE;
    }
    judge.look(town);
    return planner.chanceOf(judge.chance(person), k, n);
  }

  public int compare(int law) {
    if (!town.hasLawOrNone(law)) {
      return NONE;
    }
    planner.open(town);
    planner.paper.inForce = law;
    judge.look(planner.paper);
    return planner.allGains();
  }

  public int hours(int seed, int n) {
    if (seed < 0 || seed > 1000000 || n < 1 || n > 60) {
      return refuse(BAD_NUMBER);
    }
    later.become(town);
    judge.look(later);
    return fine(new Draws(seed).sneezesIn(later, judge, n));
  }

  public int drawn(int k, int what) {
    // ahead of any hours nobody is there
    if (!later.has(k)) {
      return NONE;
    }
    switch (what) {
      case 0:
        return later.place[k];
      case 1:
        return later.owedTo(k);
      case 2:
        return later.owedBy(k);
      default:
        return NONE;
    }
  }

  public int image(int k) {
    if (k < 0 || k >= IMAGES) {
      return refuse(BAD_NUMBER);
    }
    if (images[k] == null) {
      images[k] = new Town();
    }
    images[k].become(town);
    return fine(0);
  }

  public int back(int k) {
    if (k < 0 || k >= IMAGES) {
      return refuse(BAD_NUMBER);
    }
    if (images[k] == null) {
      return refuse(MISSING);
    }
    town.become(images[k]);
    past.size = 0;
    return fine(0);
  }

  public int count(int what) {
    switch (what) {
      case 0:
        return town.people;
      case 1:
        return town.maskedOnes();
      case 2:
        return town.owedInAll();
      case 3:
        return town.seenCount;
      case 4:
        return town.lawCount;
      case 5:
        return past.size;
      case 6:
        return reader.length;
      case 7:
        return refusals[-BAD_NUMBER];
      case 8:
        return refusals[-MISSING];
      case 9:
        return refusals[-CANNOT];
      case 10:
        return refusals[-NO_ROOM];
      case 11:
        return refusals[-BAD_TEXT];
      case 12:
        return town.inForce;
      case 13:
        return town.terms[MINUTE];
      case 14:
        return town.terms[MOOD];
      default:
        return NONE;
    }
  }

  public int status() {
    return latestRefusal;
  }

  private int fine(int answer) {
    latestRefusal = 0;
    return answer;
  }

  private int refuse(int code) {
    latestRefusal = code;
    int i = -code;
    if (i >= 0 && i < refusals.length) {
      refusals[i]++;
    }
    return code;
  }

  /** For answers that are below 0 only if the call was refused. */
  private int settled(int answer) {
    return answer < 0 ? refuse(answer) : fine(answer);
  }

  private boolean readTape(boolean asOrders) {
    boolean read = reader.readText(asOrders);
    latestFault = read ? NONE : reader.start;
    reader.length = 0;
    return read;
  }

  private boolean settleFrom(int i) {
    if (i < 0 || i + 4 > reader.length || town.people >= CROWD) {
      return false;
    }
    int[] tape = reader.tape;
    if (!Town.canBe(tape[i], tape[i + 1], tape[i + 2], tape[i + 3])) {
      return false;
    }
    town.settle(tape[i], tape[i + 1], tape[i + 2], tape[i + 3]);
    return true;
  }

  /** All that an image keeps; also what is thought of on paper. */
  private static final class Town {
    final int[] dust = new int[PLACES];
    final int[] place = new int[CROWD];
    final int[] age = new int[CROWD];
    final int[] ears = new int[CROWD];
    final int[] cold = new int[CROWD];
    final int[] masked = new int[CROWD];
    final int[] owed = new int[CROWD * CROWD];
    final int[] terms = new int[2];
    final int[] seenWho = new int[SEEN];
    final int[] seenBy = new int[SEEN];
    final Text[] laws = new Text[LAWS];
    int people = 0;
    int seenCount = 0;
    int lawCount = 0;
    int inForce = NONE;

    Town() {
      Arrays.fill(dust, 1);
    }

    static boolean isPlace(int place) {
      return place >= 0 && place < PLACES;
    }

    static boolean canBe(int place, int age, int ears, int cold) {
      return isPlace(place)
          && age >= 0 && age <= 99
          && ears >= 0 && ears <= 9
          && cold >= 0 && cold <= 9;
    }

    static int apart(int one, int other) {
      int x = one % SIDE - other % SIDE;
      int y = one / SIDE - other / SIDE;
      return (x < 0 ? -x : x) + (y < 0 ? -y : y);
    }

    void become(Town o) {
      System.arraycopy(o.dust, 0, dust, 0, PLACES);
      System.arraycopy(o.place, 0, place, 0, CROWD);
      System.arraycopy(o.age, 0, age, 0, CROWD);
      System.arraycopy(o.ears, 0, ears, 0, CROWD);
      System.arraycopy(o.cold, 0, cold, 0, CROWD);
      System.arraycopy(o.masked, 0, masked, 0, CROWD);
      System.arraycopy(o.owed, 0, owed, 0, CROWD * CROWD);
      System.arraycopy(o.terms, 0, terms, 0, 2);
      System.arraycopy(o.seenWho, 0, seenWho, 0, SEEN);
      System.arraycopy(o.seenBy, 0, seenBy, 0, SEEN);
      for (int i = 0; i < LAWS; i++) {
        laws[i] = o.laws[i];
      }
      people = o.people;
      seenCount = o.seenCount;
      lawCount = o.lawCount;
      inForce = o.inForce;
    }

    boolean has(int person) {
      return person >= 0 && person < people;
    }

    boolean hasBoth(int one, int other) {
      return one != other && has(one) && has(other);
    }

    boolean hasLawOrNone(int law) {
      return law >= NONE && law < lawCount;
    }

    /** The law in force; null without one. */
    Text lawInForce() {
      return inForce >= 0 && inForce < lawCount ? laws[inForce] : null;
    }

    /** The caller has looked whether there is room. */
    int settle(int where, int years, int hearing, int sniffle) {
      if (people >= CROWD) {
        return NO_ROOM;
      }
      place[people] = where;
      age[people] = years;
      ears[people] = hearing;
      cold[people] = sniffle;
      masked[people] = 0;
      people++;
      return people - 1;
    }

    int far(int one, int other) {
      return apart(place[one], place[other]);
    }

    int peopleIn(int where) {
      int sum = 0;
      for (int i = 0; i < people; i++) {
        if (place[i] == where) {
          sum++;
        }
      }
      return sum;
    }

    int maskedOnes() {
      int sum = 0;
      for (int i = 0; i < people; i++) {
        sum += masked[i];
      }
      return sum;
    }

    int owedTo(int person) {
      int sum = 0;
      for (int i = 0; i < people; i++) {
        sum += owed[i * CROWD + person];
      }
      return sum;
    }

    int owedBy(int person) {
      int sum = 0;
      for (int i = 0; i < people; i++) {
        sum += owed[person * CROWD + i];
      }
      return sum;
    }

    int owedInAll() {
      int sum = 0;
      for (int i = 0; i < people; i++) {
        sum += owedBy(i);
      }
      return sum;
    }

    /** Which debt a blessing changes: the blesser's own first, if there is one. */
    int debtOf(int sneezer, int blesser) {
      int own = blesser * CROWD + sneezer;
      return owed[own] > 0 ? own : sneezer * CROWD + blesser;
    }

    void bless(int sneezer, int blesser, int dues) {
      int debt = debtOf(sneezer, blesser);
      if (debt == blesser * CROWD + sneezer) {
        owed[debt]--;
      } else {
        owed[debt] = Math.min(MOST_OWED, owed[debt] + dues);
      }
    }
  }

  /**
   * A text as it was read. Its code has for each clause a first sum, behind it a second one, behind
   * that a test; what a clause does not have is empty there.
   */
  private static final class Text {
    final int[] op;
    final int[] arg;
    final int[] kind;
    final int[] first;
    final int[] second;
    final int[] test;
    final int[] stop;
    final int[] times;
    int size = 0;
    int clauses = 0;

    Text(int room, int clauseRoom) {
      int codes = Math.max(0, room);
      int rows = Math.max(0, clauseRoom);
      op = new int[codes];
      arg = new int[codes];
      kind = new int[rows];
      first = new int[rows];
      second = new int[rows];
      test = new int[rows];
      stop = new int[rows];
      times = new int[rows];
    }

    /** A copy that holds no more than it needs, as a law stays while the reader reads on. */
    Text kept() {
      Text copy = new Text(size, clauses);
      System.arraycopy(op, 0, copy.op, 0, size);
      System.arraycopy(arg, 0, copy.arg, 0, size);
      System.arraycopy(kind, 0, copy.kind, 0, clauses);
      System.arraycopy(first, 0, copy.first, 0, clauses);
      System.arraycopy(second, 0, copy.second, 0, clauses);
      System.arraycopy(test, 0, copy.test, 0, clauses);
      System.arraycopy(stop, 0, copy.stop, 0, clauses);
      System.arraycopy(times, 0, copy.times, 0, clauses);
      copy.size = size;
      copy.clauses = clauses;
      return copy;
    }

    int emit(int code, int value) {
      if (size >= op.length) {
        return NONE;
      }
      op[size] = code;
      arg[size] = value;
      size++;
      return size - 1;
    }

    /** An "or", an "and" jumps behind what it need not ask. */
    void landHere(int jump) {
      if (jump >= 0 && jump < size) {
        arg[jump] = size;
      }
    }
  }

  /** The tape, and how it is read as a text. Where reading fails, start is the fault. */
  private static final class Reader {
    static final int LETTERS = 0;
    static final int DIGITS = 1;
    static final int SIGN = 2;
    static final int END = 3;
    static final int PARTS = 50;
    static final int BRACKETS = 8;
    static final int MOST_NUMBER = 1000;
    static final int MOST_TIMES = 20;

    final int[] tape = new int[TAPE];
    final Text text = new Text(TAPE, CLAUSES);
    int length = 0;
    int start = 0;
    private int stop = 0;
    private int sort = END;
    private int parts = 0;
    private int brackets = 0;
    private boolean asOrders = false;

    void put(int number) {
      for (int shift = 24; shift >= 0 && length < TAPE; shift -= 8) {
        tape[length] = number >> shift & 255;
        length++;
      }
    }

    boolean readText(boolean orders) {
      asOrders = orders;
      text.size = 0;
      text.clauses = 0;
      parts = 0;
      brackets = 0;
      stop = 0;
      advance();
      for (int c = 0; c < CLAUSES; c++) {
        if (!readClause(c)) {
          return false;
        }
        text.clauses = c + 1;
        if (sort == END) {
          return true;
        }
        if (!isSign(';')) {
          return false;
        }
        advance();
      }
      return false;
    }

    private void advance() {
      start = stop;
      while (start < length && tape[start] == ' ') {
        start++;
      }
      stop = start;
      if (start >= length) {
        sort = END;
        return;
      }
      sort = sortOf(tape[start]);
      stop++;
      while (sort != SIGN && stop < length && sortOf(tape[stop]) == sort) {
        stop++;
      }
    }

    private static int sortOf(int sign) {
      if (sign >= 'a' && sign <= 'z') {
        return LETTERS;
      }
      return sign >= '0' && sign <= '9' ? DIGITS : SIGN;
    }

    private boolean isSign(char sign) {
      return sort == SIGN && tape[start] == sign;
    }

    private boolean isWord(String word) {
      return among(word) == 0;
    }

    /** Which one of words with a blank between them the token is. */
    private int among(String words) {
      int which = 0;
      int at = start;
      boolean same = sort == LETTERS;
      for (int i = 0; i < words.length(); i++) {
        char sign = words.charAt(i);
        if (sign != ' ') {
          same = same && at < stop && tape[at] == sign;
          at++;
        } else if (same && at == stop) {
          return which;
        } else {
          which++;
          at = start;
          same = sort == LETTERS;
        }
      }
      return same && at == stop ? which : NONE;
    }

    private int numberTo(int most) {
      if (sort != DIGITS) {
        return NONE;
      }
      int value = 0;
      for (int i = start; i < stop; i++) {
        value = Math.min(value * 10 + tape[i] - '0', MOST_NUMBER + 1);
      }
      return value <= most ? value : NONE;
    }

    private boolean readClause(int c) {
      int kind = among(asOrders ? ORDER_KINDS : LAW_KINDS);
      if (kind == NONE) {
        return false;
      }
      advance();
      text.kind[c] = kind;
      text.times[c] = 1;
      text.first[c] = text.size;
      text.second[c] = text.size;
      if (!(asOrders ? readOrder(c, kind) : kind == BARS || readSum())) {
        return false;
      }
      text.test[c] = text.size;
      if (isWord("if")) {
        advance();
        if (!readTest()) {
          return false;
        }
      }
      text.stop[c] = text.size;
      return true;
    }

    private boolean readOrder(int c, int kind) {
      if (kind != PASS && !readSum()) {
        return false;
      }
      text.second[c] = text.size;
      if (kind == STEP || kind == FORGIVE) {
        if (!isWord(kind == STEP ? "to" : "by")) {
          return false;
        }
        advance();
        if (!readSum()) {
          return false;
        }
      }
      return !isWord("times") || readTimes(c);
    }

    private boolean readTimes(int c) {
      advance();
      int times = numberTo(MOST_TIMES);
      if (times < 1) {
        return false;
      }
      text.times[c] = times;
      advance();
      return true;
    }

    private boolean readTest() {
      boolean read = readBoth();
      for (int i = 0; i < TAPE && read && isWord("or"); i++) {
        advance();
        int jump = text.emit(OR, 0);
        read = readBoth();
        text.landHere(jump);
      }
      return read;
    }

    private boolean readBoth() {
      boolean read = readPlain();
      for (int i = 0; i < TAPE && read && isWord("and"); i++) {
        advance();
        int jump = text.emit(AND, 0);
        read = readPlain();
        text.landHere(jump);
      }
      return read;
    }

    /** The "not"s are counted, not gone down into: a text may have some hundred in a row. */
    private boolean readPlain() {
      boolean turned = false;
      for (int i = 0; i < TAPE && isWord("not"); i++) {
        advance();
        turned = !turned;
      }
      boolean read = isSign('(') ? readInBrackets(')') : readComparison();
      if (read && turned) {
        text.emit(NOT, 0);
      }
      return read;
    }

    private boolean readComparison() {
      if (!readSum()) {
        return false;
      }
      int code = isSign('<') ? LESS : isSign('>') ? MORE : isSign('=') ? SAME : NONE;
      if (code == NONE) {
        return false;
      }
      advance();
      if (!readSum()) {
        return false;
      }
      text.emit(code, 0);
      return true;
    }

    private boolean readInBrackets(char closing) {
      if (brackets >= BRACKETS) {
        return false;
      }
      brackets++;
      advance();
      boolean read = closing == ')' ? readTest() : readSum();
      if (!read || !isSign(closing)) {
        return false;
      }
      brackets--;
      advance();
      return true;
    }

    private boolean readSum() {
      boolean read = readTerm();
      for (int i = 0; i < TAPE && read && (isSign('+') || isSign('-')); i++) {
        int code = isSign('+') ? ADD : SUBTRACT;
        advance();
        read = readTerm();
        text.emit(code, 0);
      }
      return read;
    }

    private boolean readTerm() {
      boolean read = readPart();
      for (int i = 0; i < TAPE && read && (isSign('*') || isSign('/') || isSign('%')); i++) {
        int code = isSign('*') ? MULTIPLY : isSign('/') ? DIVIDE : REMAIN;
        advance();
        read = readPart();
        text.emit(code, 0);
      }
      return read;
    }

    private boolean readPart() {
      if (isSign('[')) {
        return readInBrackets(']');
      }
      int number = numberTo(MOST_NUMBER);
      int word = among(asOrders ? ORDER_WORDS : LAW_WORDS);
      if (parts >= PARTS || number == NONE && word == NONE) {
        return false;
      }
      parts++;
      advance();
      if (asOrders && word >= PLAIN_WORDS) {
        int person = numberTo(CROWD - 1);
        if (person == NONE) {
          return false;
        }
        word = PLAIN_WORDS + (word - PLAIN_WORDS) * CROWD + person;
        advance();
      }
      if (word == NONE) {
        text.emit(PUSH, number);
      } else {
        text.emit(WORD, word);
      }
      return true;
    }
  }

  /** Works out the sums and the tests of a text. */
  private static final class Reckoner {
    static final int DEPTH = 64;
    static final long MOST = 1000000000L;

    private final long[] stack = new long[DEPTH];
    boolean broken = false;

    /** What the code of a text from one place to another comes to; a test is 1 or 0. */
    long value(Text text, int from, int to, int[] words) {
      int top = 0;
      broken = from < 0 || to > text.size;
      for (int i = from; i < to && !broken; i++) {
        int code = text.op[i];
        int arg = text.arg[i];
        if (code <= WORD) {
          broken = top >= DEPTH || code == WORD && (arg < 0 || arg >= words.length);
          if (!broken) {
            stack[top] = code == WORD ? words[arg] : arg;
            top++;
          }
          continue;
        }
        if (top < (code <= AND ? 1 : 2)) {
          broken = true;
          break;
        }
        long right = stack[top - 1];
        if (code == NOT) {
          stack[top - 1] = 1 - right;
        } else if (code <= AND) {
          if (right != 0 != (code == OR)) {
            top--;
          } else if (arg > i) {
            i = arg - 1;
          }
        } else if (right == 0 && (code == DIVIDE || code == REMAIN)) {
          broken = true;
        } else {
          top--;
          long left = stack[top - 1];
          long result = code == ADD ? left + right
              : code == SUBTRACT ? left - right
              : code == MULTIPLY ? left * right
              : code == DIVIDE ? left / right
              : code == REMAIN ? left % right
              : code == LESS ? (left < right ? 1 : 0)
              : code == MORE ? (left > right ? 1 : 0)
              : left == right ? 1 : 0;
          broken = result > MOST || result < -MOST;
          stack[top - 1] = result;
        }
      }
      broken = broken || top < 1;
      return broken ? 0 : stack[top - 1];
    }
  }

  /** What the law in force says of the people of a town that it looks at. */
  private static final class Judge {
    private final Reckoner reckoner = new Reckoner();
    private final int[] words = new int[10];
    private Town town;
    private Text law = null;
    private long told = 0;

    Judge(Town town) {
      this.town = town;
    }

    void look(Town at) {
      town = at;
      law = at.lawInForce();
    }

    int chance(int person) {
      if (town.masked[person] != 0) {
        return 0;
      }
      if (tells(SNEEZES, person, NONE, NONE)) {
        return within(10);
      }
      return Math.min(10, town.dust[town.place[person]] + town.cold[person]);
    }

    int reach(int person) {
      return tells(HEARS, person, NONE, NONE) ? within(20) : town.ears[person];
    }

    int dues(int sneezer, int blesser) {
      return tells(OWES, sneezer, blesser, town.far(sneezer, blesser)) ? within(9) : 2;
    }

    boolean bars(int blesser, int sneezer) {
      return tells(BARS, blesser, sneezer, town.far(blesser, sneezer));
    }

    private int within(int most) {
      return (int) Math.max(0L, Math.min(most, told));
    }

    /** The last clause of a kind that holds is the first one from behind. */
    private boolean tells(int kind, int one, int other, int far) {
      if (law == null) {
        return false;
      }
      boolean known = false;
      for (int c = law.clauses - 1; c >= 0; c--) {
        if (law.kind[c] != kind) {
          continue;
        }
        if (!known) {
          learn(one, other, far);
          known = true;
        }
        boolean holds = true;
        if (law.test[c] < law.stop[c]) {
          holds = reckoner.value(law, law.test[c], law.stop[c], words) != 0;
        }
        if (holds && kind != BARS) {
          told = reckoner.value(law, law.first[c], law.test[c], words);
          holds = !reckoner.broken;
        }
        if (holds) {
          return true;
        }
      }
      return false;
    }

    /** In the order of LAW_WORDS. */
    private void learn(int one, int other, int far) {
      words[0] = one;
      words[1] = town.place[one];
      words[2] = town.dust[town.place[one]];
      words[3] = town.age[one];
      words[4] = town.ears[one];
      words[5] = town.cold[one];
      words[6] = far;
      words[7] = other;
      words[8] = town.terms[MINUTE];
      words[9] = town.terms[MOOD];
    }

    /** Whether one comes ahead of a rival (NONE: nobody) in blessing a sneezer. */
    boolean ahead(int one, int rival, int sneezer) {
      if (rival == NONE) {
        return true;
      }
      int nearer = town.far(rival, sneezer) - town.far(one, sneezer);
      if (nearer != 0) {
        return nearer > 0;
      }
      if (town.age[one] != town.age[rival]) {
        return town.age[one] > town.age[rival];
      }
      return one < rival;
    }

    /** Who blesses a sneezer, the people of some bits left out; NONE: nobody. */
    int blesser(int sneezer, int without) {
      int best = NONE;
      for (int i = 0; i < town.people; i++) {
        if (i != sneezer
            && (without >> i & 1) == 0
            && town.masked[i] == 0
            && ahead(i, best, sneezer)
            && town.far(i, sneezer) <= reach(i)
            && !bars(i, sneezer)) {
          best = i;
        }
      }
      return best;
    }
  }

  /** What can be undone: rows of what was done, a number, another one, and a ring's people. */
  private static final class Past {
    static final int KEPT = 16;
    static final int WIDTH = 3 + CROWD;

    final int[] rows = new int[KEPT * WIDTH];
    int size = 0;

    void become(Past o) {
      System.arraycopy(o.rows, 0, rows, 0, KEPT * WIDTH);
      size = o.size;
    }

    /** Where the new row begins; the oldest one goes, if there is no room. */
    int note(int what, int number, int another) {
      if (size >= KEPT) {
        System.arraycopy(rows, WIDTH, rows, 0, (KEPT - 1) * WIDTH);
        size = KEPT - 1;
      }
      int at = size * WIDTH;
      rows[at] = what;
      rows[at + 1] = number;
      rows[at + 2] = another;
      size++;
      return at;
    }
  }

  /** Rings of debts. */
  private static final class Rings {
    final int[] row = new int[CROWD];

    /** How many people the shortest ring has, which row holds then; 0: there is none. */
    int shortest(Town town) {
      for (int length = 2; length <= town.people; length++) {
        for (int lowest = 0; lowest <= town.people - length; lowest++) {
          row[0] = lowest;
          if (closes(town, row, 1, length)) {
            return length;
          }
        }
      }
      return 0;
    }

    /** Whether the first people of the row go on to a ring; tried by numbers, the first is found. */
    private static boolean closes(Town town, int[] row, int known, int length) {
      if (known < 1 || known > length || length > row.length) {
        return false;
      }
      int latest = row[known - 1];
      if (known == length) {
        return town.owed[latest * CROWD + row[0]] > 0;
      }
      for (int next = row[0] + 1; next < town.people; next++) {
        if (town.owed[latest * CROWD + next] > 0 && !isAmong(row, next, known)) {
          row[known] = next;
          if (closes(town, row, known + 1, length)) {
            return true;
          }
        }
      }
      return false;
    }

    private static boolean isAmong(int[] row, int person, int known) {
      for (int i = 0; i < known; i++) {
        if (row[i] == person) {
          return true;
        }
      }
      return false;
    }

    int least(Town town, int length) {
      int least = MOST_OWED;
      for (int i = 0; i < length; i++) {
        least = Math.min(least, town.owed[row[i] * CROWD + row[(i + 1) % length]]);
      }
      return least;
    }
  }

  /** What can be done and undone, each answering as its call does. */
  private static final class Deeds {
    private final Town town;
    private final Judge judge;
    private final Past past;
    private final Rings rings;

    Deeds(Town town, Judge judge, Past past, Rings rings) {
      this.town = town;
      this.judge = judge;
      this.past = past;
      this.rings = rings;
    }

    int walk(int person, int place) {
      if (!Town.isPlace(place)) {
        return BAD_NUMBER;
      }
      if (!town.has(person)) {
        return MISSING;
      }
      int was = town.place[person];
      if (Town.apart(was, place) != 1) {
        return CANNOT;
      }
      past.note(WAS_STEP, person, was);
      town.place[person] = place;
      return was;
    }

    /** The judge looks at the town already. */
    int letSneeze(int person) {
      if (!town.has(person)) {
        return MISSING;
      }
      int blesser = judge.blesser(person, 0);
      if (blesser == NONE) {
        past.note(WAS_SNEEZE, NONE, 0);
        return NOBODY;
      }
      int debt = town.debtOf(person, blesser);
      past.note(WAS_SNEEZE, debt, town.owed[debt]);
      town.bless(person, blesser, judge.dues(person, blesser));
      return blesser;
    }

    int release(int by, int to) {
      if (!town.has(by) || !town.has(to)) {
        return MISSING;
      }
      int debt = by * CROWD + to;
      int was = town.owed[debt];
      if (was == 0) {
        return CANNOT;
      }
      past.note(WAS_FORGIVE, debt, was);
      town.owed[debt] = 0;
      return was;
    }

    int clearRing() {
      int length = rings.shortest(town);
      if (length < 1) {
        return CANNOT;
      }
      int least = rings.least(town, length);
      int at = past.note(WAS_CLEAR, length, least);
      for (int i = 0; i < length; i++) {
        past.rows[at + 3 + i] = rings.row[i];
        town.owed[rings.row[i] * CROWD + rings.row[(i + 1) % length]] -= least;
      }
      return least;
    }

    int letPass() {
      if (town.terms[MINUTE] >= LAST_MINUTE) {
        return CANNOT;
      }
      past.note(WAS_PASS, 0, 0);
      town.terms[MINUTE]++;
      return town.terms[MINUTE];
    }

    int takeBack() {
      if (past.size < 1) {
        return CANNOT;
      }
      past.size--;
      int at = past.size * Past.WIDTH;
      int what = past.rows[at];
      int number = past.rows[at + 1];
      int another = past.rows[at + 2];
      if (what == WAS_STEP && town.has(number)) {
        town.place[number] = another;
      } else if (what == WAS_CLEAR) {
        tieAgain(at + 3, number, another);
      } else if (what == WAS_PASS) {
        town.terms[MINUTE]--;
      } else if (number >= 0 && number < town.owed.length) {
        town.owed[number] = another;
      }
      return what;
    }

    private void tieAgain(int from, int length, int value) {
      if (length < 1 || length > CROWD) {
        return;
      }
      for (int i = 0; i < length; i++) {
        int by = past.rows[from + i];
        int to = past.rows[from + (i + 1) % length];
        town.owed[by * CROWD + to] += value;
      }
    }
  }

  /** Runs orders; who called it goes back, if it stops. */
  private static final class Clerk {
    private final Town town;
    private final Deeds deeds;
    private final Reckoner reckoner = new Reckoner();
    private final int[] words = new int[PLAIN_WORDS + 3 * CROWD];
    private int latest = NONE;
    int done = 0;

    Clerk(Town town, Deeds deeds) {
      this.town = town;
      this.deeds = deeds;
    }

    /** Which clause could not be; NONE, if all could. */
    int execute(Text text) {
      done = 0;
      latest = NONE;
      for (int c = 0; c < text.clauses; c++) {
        for (int i = 0; i < text.times[c]; i++) {
          learn();
          if (!isWanted(text, c)) {
            // nothing has changed, so it would not be wanted the next time either
            break;
          }
          if (act(text, c) < 0) {
            return c;
          }
          done++;
        }
      }
      return NONE;
    }

    /** In the order of ORDER_WORDS, the last three for each person. */
    private void learn() {
      words[0] = town.terms[MINUTE];
      words[1] = done;
      words[2] = latest;
      for (int i = 0; i < CROWD; i++) {
        boolean there = town.has(i);
        words[PLAIN_WORDS + i] = there ? town.place[i] : NONE;
        words[PLAIN_WORDS + CROWD + i] = there ? town.owedTo(i) : 0;
        words[PLAIN_WORDS + 2 * CROWD + i] = there ? town.owedBy(i) : 0;
      }
    }

    private boolean isWanted(Text text, int c) {
      if (text.test[c] >= text.stop[c]) {
        return true;
      }
      return reckoner.value(text, text.test[c], text.stop[c], words) != 0;
    }

    /** Below 0, if it can't be. */
    private int act(Text text, int c) {
      int kind = text.kind[c];
      if (kind == PASS) {
        return deeds.letPass();
      }
      int one = (int) reckoner.value(text, text.first[c], text.second[c], words);
      if (reckoner.broken) {
        return CANNOT;
      }
      if (kind == SNEEZE) {
        int blesser = deeds.letSneeze(one);
        latest = blesser == NOBODY ? NONE : blesser;
        return blesser;
      }
      int other = (int) reckoner.value(text, text.second[c], text.test[c], words);
      if (reckoner.broken) {
        return CANNOT;
      }
      return kind == STEP ? deeds.walk(one, other) : deeds.release(one, other);
    }
  }

  /** Hours by draws from a seed. */
  private static final class Draws {
    private int state;

    Draws(int seed) {
      state = seed;
    }

    private int draw(int m) {
      state = (int) ((state * 1103L + 12345L) % 1000003L);
      return m > 0 ? state % m : 0;
    }

    /** The judge looks at the town already. */
    int sneezesIn(Town town, Judge judge, int minutes) {
      int sneezes = 0;
      for (int i = 0; i < minutes && town.terms[MINUTE] < LAST_MINUTE; i++) {
        for (int person = 0; person < town.people; person++) {
          int drawn = draw(10);
          int way = draw(4);
          if (drawn < judge.chance(person)) {
            sneezes++;
            letSneeze(town, judge, person);
          }
          town.place[person] = beside(town.place[person], way);
        }
        town.terms[MINUTE]++;
      }
      return sneezes;
    }

    private static void letSneeze(Town town, Judge judge, int person) {
      int blesser = judge.blesser(person, 0);
      if (blesser != NONE) {
        town.bless(person, blesser, judge.dues(person, blesser));
      }
    }

    /** The place up, right, down, left of another one; that one itself, if there is none. */
    private static int beside(int place, int way) {
      int x = place % SIDE;
      int y = place / SIDE;
      switch (way) {
        case 0:
          return y > 0 ? place - SIDE : place;
        case 1:
          return x < SIDE - 1 ? place + 1 : place;
        case 2:
          return y < SIDE - 1 ? place + SIDE : place;
        default:
          return x > 0 ? place - 1 : place;
      }
    }
  }

  /** What is asked on paper. Each question opens the paper first: a copy of the town. */
  private static final class Planner {
    static final int ROUNDS = 50;
    static final int SETS = 128;
    static final int FAR_OFF = 1000000;
    static final long WHOLE = 1000000000000L;

    final Town paper = new Town();
    private final Judge judge;
    private final int[] odds = new int[CROWD];
    private final int[] rival = new int[CROWD];
    private final int[] lines = new int[CROWD * CROWD];
    private final int[] paid = new int[CROWD * CROWD];
    private final int[] steps = new int[SETS * CROWD];
    private final int[] lenders = new int[CROWD];
    private final int[] groups = new int[CROWD + 1];
    private final long[] trail = new long[ROUNDS + 1];
    private final long[] shares = new long[21];
    final int[] walk = new int[CROWD];
    int stops = 0;
    int bestPlace = 0;
    int bestGain = 0;
    int toHear = NONE;
    int mostLeft = 0;

    Planner(Judge judge) {
      this.judge = judge;
    }

    void open(Town town) {
      paper.become(town);
      judge.look(paper);
    }

    /** Who else would bless each one whose sneezes can be paid, wherever a person is. */
    void findRivals(int person) {
      for (int i = 0; i < paper.people; i++) {
        odds[i] = i == person ? 0 : judge.chance(i);
        rival[i] = odds[i] > 0 ? judge.blesser(i, 1 << person) : NONE;
      }
    }

    /** Behind findRivals() of the same person. */
    int gainIn(int person, int place) {
      paper.place[person] = place;
      if (paper.masked[person] != 0) {
        return 0;
      }
      int reach = judge.reach(person);
      int sum = 0;
      for (int i = 0; i < paper.people; i++) {
        if (odds[i] > 0
            && paper.far(person, i) <= reach
            && judge.ahead(person, rival[i], i)
            && !judge.bars(person, i)) {
          sum += odds[i] * judge.dues(i, person);
        }
      }
      return sum;
    }

    /** Behind findRivals() of the same person; answers the gain where the person is. */
    int findBest(int person) {
      int home = paper.place[person];
      int atHome = 0;
      bestPlace = 0;
      bestGain = NONE;
      for (int place = 0; place < PLACES; place++) {
        int gain = gainIn(person, place);
        if (place == home) {
          atHome = gain;
        }
        if (gain > bestGain) {
          bestGain = gain;
          bestPlace = place;
        }
      }
      paper.place[person] = home;
      return atHome;
    }

    int roundsToRest() {
      for (int i = 1; i <= ROUNDS; i++) {
        trail[i - 1] = whereAllAre();
        if (!anybodyGoes()) {
          return i;
        }
        if (wereThere(i)) {
          // what has come again once comes again for ever
          return NONE;
        }
      }
      return NONE;
    }

    private boolean anybodyGoes() {
      boolean goes = false;
      for (int i = 0; i < paper.people; i++) {
        findRivals(i);
        if (findBest(i) < bestGain) {
          paper.place[i] = bestPlace;
          goes = true;
        }
      }
      return goes;
    }

    private long whereAllAre() {
      long all = 0;
      for (int i = 0; i < paper.people; i++) {
        all = all * PLACES + paper.place[i];
      }
      return all;
    }

    private boolean wereThere(int known) {
      long now = whereAllAre();
      for (int i = 0; i < known && i < trail.length; i++) {
        if (trail[i] == now) {
          return true;
        }
      }
      return false;
    }

    /** How many steps; walk holds the people then, stops how many they are. */
    int shortestRound(int person) {
      stops = 0;
      for (int i = 0; i < paper.people && stops < CROWD - 1; i++) {
        if (paper.owed[person * CROWD + i] > 0) {
          lenders[stops] = i;
          stops++;
        }
      }
      lenders[stops] = person;
      int all = (1 << stops) - 1;
      for (int set = 0; set <= all; set++) {
        for (int from = 0; from <= stops; from++) {
          steps[set * CROWD + from] = fewestSteps(set, from);
        }
      }
      traceRound(all);
      return steps[all * CROWD + stops];
    }

    /** From one of the lenders (or the person itself) through all of a set, by smaller sets. */
    private int fewestSteps(int set, int from) {
      int fewest = set == 0 ? 0 : FAR_OFF;
      for (int i = 0; i < stops; i++) {
        if ((set >> i & 1) == 1) {
          fewest = Math.min(fewest, stepsBy(set, from, i));
        }
      }
      return fewest;
    }

    private int stepsBy(int set, int from, int first) {
      int left = set & ~(1 << first);
      return paper.far(lenders[from], lenders[first]) + steps[left * CROWD + first];
    }

    private void traceRound(int all) {
      int set = all;
      int from = stops;
      for (int k = 0; k < stops; k++) {
        int next = 0;
        while (next < stops - 1 && !isNext(set, from, next)) {
          next++;
        }
        walk[k] = lenders[next];
        set &= ~(1 << next);
        from = next;
      }
    }

    private boolean isNext(int set, int from, int next) {
      return (set >> next & 1) == 1 && stepsBy(set, from, next) == steps[set * CROWD + from];
    }

    int allGains() {
      int sum = 0;
      for (int i = 0; i < paper.people; i++) {
        int chance = judge.chance(i);
        int blesser = chance > 0 ? judge.blesser(i, 0) : NONE;
        if (blesser != NONE) {
          sum += chance * judge.dues(i, blesser);
        }
      }
      return sum;
    }

    /** The people to mask, as bits: of the fewest none is masked already, as that would not help. */
    int fewestMasks() {
      for (int i = 0; i < paper.people; i++) {
        lineUp(i);
      }
      int best = (1 << paper.people) - 1;
      for (int bits = 0; bits < 1 << paper.people; bits++) {
        if (Integer.bitCount(bits) < Integer.bitCount(best) && nobodyGains(bits)) {
          best = bits;
        }
      }
      return best;
    }

    /** All who may bless a sneezer, the first one first, and what each is paid. */
    private void lineUp(int sneezer) {
      odds[sneezer] = judge.chance(sneezer);
      int before = 0;
      boolean more = odds[sneezer] > 0;
      for (int k = 0; k < CROWD; k++) {
        int next = more ? judge.blesser(sneezer, before) : NONE;
        more = next != NONE;
        lines[sneezer * CROWD + k] = next;
        paid[sneezer * CROWD + k] = more ? judge.dues(sneezer, next) : 0;
        before |= more ? 1 << next : 0;
      }
    }

    private boolean nobodyGains(int bits) {
      for (int i = 0; i < paper.people; i++) {
        if ((bits >> i & 1) == 0 && isPaid(i, bits)) {
          return false;
        }
      }
      return true;
    }

    private boolean isPaid(int sneezer, int bits) {
      for (int k = sneezer * CROWD; k < (sneezer + 1) * CROWD && lines[k] != NONE; k++) {
        if ((bits >> lines[k] & 1) == 0) {
          return paid[k] > 0;
        }
      }
      return false;
    }

    /** Who else would bless each one, wherever a person is. */
    void findAllRivals(int person) {
      for (int i = 0; i < paper.people; i++) {
        rival[i] = i == person ? NONE : judge.blesser(i, 1 << person);
      }
    }

    /** Behind findAllRivals() of the same person: who blesses a sneezer with that one there. */
    private int blesserWith(int person, int place, int sneezer) {
      paper.place[person] = place;
      if (sneezer == person) {
        return judge.blesser(person, 0);
      }
      boolean blesses = paper.masked[person] == 0
          && judge.ahead(person, rival[sneezer], sneezer)
          && paper.far(person, sneezer) <= judge.reach(person)
          && !judge.bars(person, sneezer);
      return blesses ? person : rival[sneezer];
    }

    /** Behind findAllRivals() of the same person: where it can have stood, as bits. */
    int placesBySeen(int person) {
      int bits = 0;
      for (int place = 0; place < PLACES; place++) {
        boolean as = true;
        for (int i = 0; i < paper.seenCount && as; i++) {
          as = blesserWith(person, place, paper.seenWho[i]) == paper.seenBy[i];
        }
        bits |= as ? 1 << place : 0;
      }
      return bits;
    }

    /** Behind findAllRivals() of the same person, of whose places some are left. */
    void findSneezeToHear(int person, int bits) {
      toHear = NONE;
      for (int i = 0; i < paper.people; i++) {
        int most = mostAlike(person, bits, i);
        if (toHear == NONE || most < mostLeft) {
          toHear = i;
          mostLeft = most;
        }
      }
    }

    private int mostAlike(int person, int bits, int sneezer) {
      Arrays.fill(groups, 0);
      int most = 0;
      for (int place = 0; place < PLACES; place++) {
        if ((bits >> place & 1) == 1) {
          int group = blesserWith(person, place, sneezer) + 1;
          groups[group]++;
          most = Math.max(most, groups[group]);
        }
      }
      return most;
    }

    /** Minute by minute, what has come to k sneezes stays there. */
    long chanceOf(int tenths, int k, int n) {
      Arrays.fill(shares, 0L);
      shares[0] = WHOLE;
      for (int minute = 0; minute < n; minute++) {
        for (int i = Math.min(k, shares.length - 1); i >= 0; i--) {
          long stays = i == k ? shares[i] : shares[i] * (10 - tenths) / 10;
          long comes = i == 0 ? 0 : shares[i - 1] * tenths / 10;
          shares[i] = stays + comes;
        }
      }
      return shares[k];
    }
  }
}
