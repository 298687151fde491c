/** A bureau that matches people by what they loathe. The document DOC.md says what each call promises. */
public final class LoatheMatch {
  public static final int NONE = -1;

  private static final int NO_SUCH = -2;
  private static final int BAD_NUMBER = -3;
  private static final int NOT_NOW = -5;
  private static final int MISSING = -6;
  private static final int NO_PLACE = -7;
  private static final int NO_PAIR = -8;
  private static final int WHY_CODE = -10;
  private static final int FAULT_CODE = -30;
  private static final int NO_GOOD = -2000000;

  private static final int MAX_TEXT = 900;
  private static final int MAX_THINGS = 14;
  private static final int MAX_PEOPLE = 8;
  private static final int MAX_PAIRS = 4;
  private static final int MAX_YEARS = 60;
  private static final int MAX_HOLD = 40;
  private static final int MAX_UNDO = 8;
  private static final int MAX_SEASON = 40;
  private static final int MAX_PLACES = 40;
  private static final int MAX_SORT = 3;
  private static final int TRAYS = 4;
  private static final int IMAGES = 2;
  private static final int FEED_BYTES = 20;
  private static final int FIRST_WHO = 10;

  private static final int WHY_NO_SUCH = 1;
  private static final int WHY_WED = 2;
  private static final int WHY_MAY_NOT = 3;
  private static final int WHY_NO_ROOM = 4;

  private final byte[] tape;
  private int taped;
  private int drawn;
  private final Rules rules;
  private final Rules toldRules;
  private final Life toldLife;
  private final World now;
  private final World trial;
  private final Reader reader;
  private final History history;
  private final Matching matching;
  private final Fibs fibs;
  private final Tray[] trays;
  private final Image[] images;

  public LoatheMatch() {
    tape = new byte[MAX_TEXT];
    rules = new Rules();
    toldRules = new Rules();
    toldLife = new Life();
    Couple couple = new Couple();
    now = new World(rules, couple);
    trial = new World(rules, couple);
    reader = new Reader(tape, toldRules, toldLife);
    history = new History();
    matching = new Matching();
    fibs = new Fibs(now);
    trays = new Tray[TRAYS];
    for (int i = 0; i < TRAYS; i++) {
      trays[i] = new Tray();
    }
    images = new Image[IMAGES];
  }

  // ---- the bureau

  public int feed(int a, int b, int c, int d, int e) {
    if (taped > MAX_TEXT - FEED_BYTES) {
      return NOT_NOW;
    }
    tapeFour(a);
    tapeFour(b);
    tapeFour(c);
    tapeFour(d);
    tapeFour(e);
    return taped;
  }

  public int bureau(int n) {
    if (n < 0 || n > taped) {
      return BAD_NUMBER;
    }
    taped = 0;
    reader.readText(n);
    if (reader.faultKind != 0) {
      return FAULT_CODE - reader.faultKind;
    }
    rules.become(toldRules);
    now.life.become(toldLife);
    history.forget();
    return rules.lines;
  }

  public int fault(int what) {
    switch (what) {
      case 0:
        return reader.faultKind;
      case 1:
        return reader.faultPlace;
      default:
        return NONE;
    }
  }

  public int person(int p, int what) {
    if (!now.isPerson(p)) {
      return NO_SUCH;
    }
    switch (what) {
      case 0:
        return now.life.age[p];
      case 1:
        return rules.traits[p];
      case 2:
        return now.life.list[p];
      case 3:
        return now.life.mate[p];
      default:
        return NO_SUCH;
    }
  }

  public int since(int p, int t) {
    if (!now.isPerson(p) || !now.isThing(t)) {
      return NO_SUCH;
    }
    return now.life.has(p, t) ? now.life.held[p * MAX_THINGS + t] : NONE;
  }

  public int thing(int t, int what) {
    if (!now.isThing(t)) {
      return NO_SUCH;
    }
    switch (what) {
      case 0:
        return rules.wanes[t];
      case 1:
        return now.life.who[t];
      case 2:
        return now.rarity(t);
      case 3:
        return rules.whoAre(t);
      default:
        return NO_SUCH;
    }
  }

  public int pair(int p, int q, int what) {
    if (!now.areTwo(p, q) || what < 0 || what > 5) {
      return NO_PAIR;
    }
    if (what == 5) {
      return now.life.list[p] & now.life.list[q];
    }
    now.measure(p, q, now.life.list[p], now.life.list[q]);
    return now.couple.terms[what];
  }

  public int good(int p, int q) {
    return now.areTwo(p, q) ? now.goodness(p, q) : NO_GOOD;
  }

  public int may(int p, int q) {
    if (!now.areTwo(p, q)) {
      return NO_SUCH;
    }
    return now.isAllowed(p, q) ? 1 : 0;
  }

  // ---- deeds

  public int wed(int p, int q) {
    int why = now.whyNotMarry(p, q);
    if (why != 0) {
      return WHY_CODE - why;
    }
    history.keep(now.life);
    now.life.marry(p, q);
    return now.goodness(p, q);
  }

  public int part(int p) {
    if (!now.isPerson(p)) {
      return NO_SUCH;
    }
    if (now.life.mate[p] == NONE) {
      return NOT_NOW;
    }
    history.keep(now.life);
    now.life.split(p);
    return 0;
  }

  public int takes(int p, int t) {
    int why = now.whyNotTake(p, t);
    if (why != 0) {
      return WHY_CODE - why;
    }
    history.keep(now.life);
    now.takeOrGive(p, t);
    return Integer.bitCount(now.life.list[p]);
  }

  public int copies(int p, int q) {
    if (!now.areTwo(p, q)) {
      return WHY_CODE - WHY_NO_SUCH;
    }
    history.keep(now.life);
    now.life.copyList(p, q);
    return Integer.bitCount(now.life.list[p]);
  }

  public int years(int n) {
    if (n < 1 || n > MAX_YEARS) {
      return BAD_NUMBER;
    }
    history.keep(now.life);
    int waned = 0;
    for (int i = 0; i < n; i++) {
      waned += now.passYear();
    }
    return waned;
  }

  public int undo(int n) {
    if (n < 1 || n > history.kept) {
      return BAD_NUMBER;
    }
    history.bringBack(n, now.life);
    return history.kept;
  }

  public int judge(int tray, int what) {
    if (!isTray(tray) || what < 0 || what > 3) {
      return NO_SUCH;
    }
    if (!trays[tray].present) {
      return MISSING;
    }
    int done = rehearse(trays[tray]);
    switch (what) {
      case 0:
        return trial.why == 0 ? NONE : done;
      case 1:
        return trial.why;
      case 2:
        return 2 * trial.couples();
      default:
        return trial.goodOfCouples();
    }
  }

  public int perform(int tray) {
    if (!isTray(tray)) {
      return NO_SUCH;
    }
    if (!trays[tray].present) {
      return MISSING;
    }
    int done = rehearse(trays[tray]);
    acceptTrial(done);
    return done;
  }

  public int season(int seed, int times) {
    if (times < 1 || times > MAX_SEASON) {
      return BAD_NUMBER;
    }
    if (rules.things == 0 || rules.people == 0) {
      return NOT_NOW;
    }
    trial.life.become(now.life);
    drawn = seed;
    int done = 0;
    for (int i = 0; i < times; i++) {
      if (trial.attempt(drawDeed()) == 0) {
        done++;
      }
    }
    acceptTrial(done);
    return done;
  }

  // ---- matchings

  public int matchings(int n) {
    if (n < 0 || n > MAX_PAIRS) {
      return BAD_NUMBER;
    }
    matching.survey(now);
    return matching.tally(rules.everybody(), n);
  }

  public int most(int what) {
    if (!isMatchingQuestion(what)) {
      return NO_SUCH;
    }
    matching.survey(now);
    matching.solve();
    matching.follow(rules.everybody());
    return matching.answer(what);
  }

  public int stable(int what) {
    if (!isMatchingQuestion(what)) {
      return NO_SUCH;
    }
    matching.survey(now);
    matching.leaveAlone();
    matching.settle(0);
    return matching.answer(what);
  }

  public int breaks() {
    matching.survey(now);
    matching.seat(now.life.mate);
    return matching.firstBreak();
  }

  public int matchAll() {
    matching.survey(now);
    matching.solve();
    matching.follow(rules.everybody());
    history.keep(now.life);
    for (int p = 0; p < rules.people; p++) {
      now.life.mate[p] = matching.with[p];
    }
    return now.couples();
  }

  public int dearest(int p) {
    if (!now.isPerson(p)) {
      return NO_SUCH;
    }
    int dear = NONE;
    int most = 0;
    for (int q = 0; q < rules.people; q++) {
      if (q != p && now.isAllowed(p, q)) {
        int good = now.goodness(p, q);
        if (dear == NONE || good > most) {
          dear = q;
          most = good;
        }
      }
    }
    return dear;
  }

  // ---- by years

  public int holds(int p, int q) {
    return now.areTwo(p, q) ? endurance(p, q, MAX_HOLD) : NO_SUCH;
  }

  public int goodIn(int p, int q, int n) {
    if (!now.areTwo(p, q) || n < 0 || n > MAX_YEARS) {
      return NO_GOOD;
    }
    trial.life.become(now.life);
    for (int i = 0; i < n; i++) {
      trial.passYearOfTwo(p, q);
    }
    return trial.goodness(p, q);
  }

  public int lasting(int n, int what) {
    if (!isMatchingQuestion(what)) {
      return NO_SUCH;
    }
    if (n < 0 || n > MAX_HOLD) {
      return BAD_NUMBER;
    }
    matching.survey(now);
    for (int p = 0; p < rules.people; p++) {
      for (int q = p + 1; q < rules.people; q++) {
        if (matching.isOpen(p, q) && endurance(p, q, n) < n) {
          matching.close(p, q);
        }
      }
    }
    matching.solve();
    matching.follow(rules.everybody());
    return matching.answer(what);
  }

  public int later(int p, int n) {
    if (!now.isPerson(p)) {
      return NO_SUCH;
    }
    if (n < 0 || n > MAX_YEARS) {
      return BAD_NUMBER;
    }
    trial.life.become(now.life);
    for (int i = 0; i < n; i++) {
      trial.passYearAround(p);
    }
    return trial.life.list[p];
  }

  public int byWhen(int p, int t) {
    if (!now.isPerson(p) || !now.isThing(t)) {
      return NO_SUCH;
    }
    trial.life.become(now.life);
    for (int n = 0; n <= MAX_YEARS; n++) {
      if (trial.life.has(p, t)) {
        return n;
      }
      trial.passYearAround(p);
    }
    return NONE;
  }

  // ---- sent away, fibs

  public int leftFor(int p, int q, int what) {
    if (!now.areTwo(p, q) || !isEither(what)) {
      return NO_SUCH;
    }
    matching.survey(now);
    matching.solve();
    int two = 1 << p | 1 << q;
    int everybody = rules.everybody();
    int fewest = NONE;
    int away = 0;
    for (int set = 0; set <= everybody; set++) {
      boolean better = fewest == NONE || Integer.bitCount(set) < fewest;
      if (better && (set & two) == 0 && matching.joins(everybody & ~set, p, q)) {
        fewest = Integer.bitCount(set);
        away = set;
      }
    }
    return fewest == NONE || what == 0 ? fewest : away;
  }

  public int fib(int p, int q, int what) {
    if (!now.areTwo(p, q) || !isEither(what)) {
      return NO_SUCH;
    }
    int fewest = fibs.fewest(p, q);
    return fewest == NONE || what == 0 ? fewest : fibs.found;
  }

  public int strikes(int p, int q, int t) {
    if (!now.areTwo(p, q) || !now.isThing(t)) {
      return NO_GOOD;
    }
    int rest = ~(1 << t);
    int struck = now.goodnessWith(p, q, now.life.list[p] & rest, now.life.list[q] & rest);
    return now.goodness(p, q) - struck;
  }

  // ---- copies, children, houses

  public int sharer(int p) {
    if (!now.isPerson(p)) {
      return NO_SUCH;
    }
    int sharer = NONE;
    int most = 0;
    for (int q = 0; q < rules.people; q++) {
      if (q != p) {
        now.measure(p, q, now.life.list[p], now.life.list[q]);
        int rare = now.couple.terms[Couple.RARE];
        if (rare > most) {
          sharer = q;
          most = rare;
        }
      }
    }
    return sharer;
  }

  public int pieced(int p, int what) {
    if (!now.isPerson(p) || !isEither(what)) {
      return NO_SUCH;
    }
    int everybody = rules.everybody();
    int fewest = NONE;
    int pieces = 0;
    for (int set = 0; set <= everybody; set++) {
      boolean better = fewest == NONE || Integer.bitCount(set) < fewest;
      if (better && (set & 1 << p) == 0 && now.anyOf(set) == now.life.list[p]) {
        fewest = Integer.bitCount(set);
        pieces = set;
      }
    }
    return fewest == NONE || what == 0 ? fewest : pieces;
  }

  public int child(int p, int q) {
    if (!now.areTwo(p, q)) {
      return NO_SUCH;
    }
    int either = now.life.list[p] | now.life.list[q];
    int spared = 0;
    int least = MAX_PEOPLE + 1;
    for (int t = 0; t < rules.things; t++) {
      if ((either & 1 << t) != 0 && now.rarity(t) <= least) {
        spared = 1 << t;
        least = now.rarity(t);
      }
    }
    return either & ~spared;
  }

  public int houses(int n, int k) {
    if (n < 1 || n > MAX_PEOPLE || k < 0 || k > MAX_THINGS) {
      return BAD_NUMBER;
    }
    int houses = 0;
    int everybody = rules.everybody();
    for (int set = 1; set <= everybody; set++) {
      if (Integer.bitCount(set) == n && isHouse(set, k)) {
        houses++;
      }
    }
    return houses;
  }

  public int biggest(int k, int what) {
    if (!isEither(what)) {
      return NO_SUCH;
    }
    if (k < 0 || k > MAX_THINGS) {
      return BAD_NUMBER;
    }
    int greatest = 0;
    int house = 0;
    int everybody = rules.everybody();
    for (int set = 1; set <= everybody; set++) {
      if (Integer.bitCount(set) > greatest && isHouse(set, k)) {
        greatest = Integer.bitCount(set);
        house = set;
      }
    }
    return what == 0 ? greatest : house;
  }

  public int peace() {
    int things = 0;
    for (int p = 0; p < rules.people; p++) {
      things |= now.life.list[p] & rules.traitsBut(p);
    }
    return things;
  }

  public int angry() {
    int people = 0;
    for (int p = 0; p < rules.people; p++) {
      if ((now.life.list[p] & rules.traitsBut(p)) != 0) {
        people |= 1 << p;
      }
    }
    return people;
  }

  // ---- trays, images

  public int numbers(int tray, int sort, int n) {
    if (!isTray(tray) || sort < 0 || sort > MAX_SORT) {
      return NO_SUCH;
    }
    if (n < 0 || n > MAX_PLACES) {
      return BAD_NUMBER;
    }
    trays[tray].lay(sort, n);
    return 0;
  }

  public long write(int tray, int i, long v) {
    if (!isTray(tray)) {
      return NO_SUCH;
    }
    Tray held = trays[tray];
    if (!held.present) {
      return MISSING;
    }
    if (i < 0 || i >= held.size) {
      return NO_PLACE;
    }
    held.number[i] = held.cut(v);
    return held.number[i];
  }

  public int lists(int tray) {
    if (!isTray(tray)) {
      return NO_SUCH;
    }
    Tray held = trays[tray];
    if (!held.present) {
      return MISSING;
    }
    int told = Math.min(held.size, rules.people);
    for (int p = 0; p < told; p++) {
      held.number[p] = held.cut(now.life.list[p]);
    }
    return told;
  }

  public int image(int i) {
    if (!isImage(i)) {
      return NO_SUCH;
    }
    if (images[i] == null) {
      images[i] = new Image();
    }
    images[i].rules.become(rules);
    images[i].life.become(now.life);
    return 0;
  }

  public int restore(int i) {
    if (!isImage(i)) {
      return NO_SUCH;
    }
    if (images[i] == null) {
      return NOT_NOW;
    }
    rules.become(images[i].rules);
    now.life.become(images[i].life);
    history.forget();
    return 0;
  }

  public int count(int what) {
    switch (what) {
      case 0:
        return rules.things;
      case 1:
        return rules.people;
      case 2:
        return now.life.year;
      case 3:
        return now.couples();
      case 4:
        return rules.bar;
      case 5:
        return rules.room;
      case 6:
        return history.kept;
      case 7:
        return taped;
      case 8:
        return rules.lines;
      case 9:
        return now.onAllLists();
      default:
        return NONE;
    }
  }

  // ---- what several calls share

  private static boolean isTray(int tray) {
    return tray >= 0 && tray < TRAYS;
  }

  private static boolean isImage(int i) {
    return i >= 0 && i < IMAGES;
  }

  private static boolean isEither(int what) {
    return what == 0 || what == 1;
  }

  private boolean isMatchingQuestion(int what) {
    return isEither(what) || what >= FIRST_WHO && now.isPerson(what - FIRST_WHO);
  }

  private boolean isHouse(int set, int k) {
    return Integer.bitCount(now.allOf(set)) >= k;
  }

  private void tapeFour(int bytes) {
    for (int shift = 24; shift >= 0; shift -= 8) {
      if (taped < MAX_TEXT) {
        tape[taped] = (byte) (bytes >> shift);
        taped++;
      }
    }
  }

  /** Does a tray's deeds in the trial world, till one can't be: how many; trial.why says why it ended. */
  private int rehearse(Tray tray) {
    trial.life.become(now.life);
    trial.why = 0;
    for (int i = 0; i < tray.size; i++) {
      trial.why = trial.attempt(tray.number[i]);
      if (trial.why != 0) {
        return i;
      }
    }
    return tray.size;
  }

  /** A call that did nothing must not push an elder one out of what can be undone. */
  private void acceptTrial(int done) {
    if (done > 0) {
      history.keep(now.life);
      now.life.become(trial.life);
    }
  }

  /** Both draws are made even if the deed can't be: the next deed's draws depend on them. */
  private int drawDeed() {
    int kind = draw(4);
    if (kind == 0) {
      return NONE;
    }
    int p = draw(rules.people);
    int other = draw(kind == 2 ? rules.things : rules.people);
    return World.DEED_KIND * (kind - 1) + World.DEED_PERSON * p + other;
  }

  private int draw(int bound) {
    drawn = 1103515245 * drawn + 12345;
    return bound > 0 ? (drawn >>> 16) % bound : 0;
  }

  /** HOLDS, looked at for no more years than asked for. */
  private int endurance(int p, int q, int years) {
    trial.life.become(now.life);
    for (int n = 0; n < years; n++) {
      if (trial.goodness(p, q) < rules.bar) {
        return n;
      }
      trial.passYearOfTwo(p, q);
    }
    return years;
  }

  /** A law in the order in which it is reckoned: numbers as they are, all else below 0. */
  private static final class Law {
    /** Terms are -1 and below, in the order of Couple.terms. */
    static final int LAST_TERM = -7;
    static final int ADD = -8;
    static final int LESS = -9;
    static final int TIMES = -10;
    static final int EQUAL = -11;
    static final int BELOW = -12;
    static final int ABOVE = -13;
    static final int NOT = -14;
    static final int AND = -15;
    static final int OR = -16;

    final int[] steps = new int[MAX_TEXT];
    int size;

    static int ofTerm(int term) {
      return -1 - term;
    }

    void add(int step) {
      if (size < MAX_TEXT) {
        steps[size] = step;
        size++;
      }
    }

    void become(Law other) {
      size = other.size;
      System.arraycopy(other.steps, 0, steps, 0, other.size);
    }
  }

  /** What the laws may ask of two people. */
  private static final class Couple {
    static final int COMMON = 0;
    static final int RARE = 1;
    static final int INSULT = 2;
    static final int LISTS = 3;
    static final int APART = 4;
    static final int OLDEST = 5;
    static final int YEAR = 6;
    private static final int TERMS = 7;
    /** Six signs within one another leave at most 18 numbers waiting. */
    private static final int STACK = 32;
    private static final int LIMIT = 1000000;

    final int[] terms = new int[TERMS];
    private final int[] stack = new int[STACK];

    int reckon(Law law) {
      int top = 0;
      for (int i = 0; i < law.size; i++) {
        int step = law.steps[i];
        if (step >= Law.LAST_TERM) {
          if (top < STACK) {
            stack[top] = step >= 0 ? step : terms[-1 - step];
            top++;
          }
        } else if (step == Law.NOT) {
          if (top > 0) {
            stack[top - 1] = 1 - stack[top - 1];
          }
        } else if (top > 1) {
          top--;
          stack[top - 1] = keepWithin(join(step, stack[top - 1], stack[top]));
        }
      }
      return stack[0];
    }

    private static long join(int step, long a, long b) {
      switch (step) {
        case Law.ADD:
          return a + b;
        case Law.LESS:
          return a - b;
        case Law.TIMES:
          return a * b;
        case Law.EQUAL:
          return a == b ? 1 : 0;
        case Law.BELOW:
          return a < b ? 1 : 0;
        case Law.ABOVE:
          return a > b ? 1 : 0;
        case Law.AND:
          return a & b;
        default:
          return a | b;
      }
    }

    private static int keepWithin(long value) {
      return value > LIMIT ? LIMIT : value < -LIMIT ? -LIMIT : (int) value;
    }
  }

  /** What a text of the bureau tells for good: nothing in it changes by deeds. */
  private static final class Rules {
    private static final int FIRST_BAR = 10;

    int things;
    int people;
    int bar;
    int room;
    int lines;
    final int[] wanes = new int[MAX_THINGS];
    final int[] traits = new int[MAX_PEOPLE];
    final Law goodLaw = new Law();
    final Law mayLaw = new Law();

    Rules() {
      bar = FIRST_BAR;
      room = MAX_THINGS;
      setFirstLaws();
    }

    void clear() {
      things = 0;
      people = 0;
      lines = 0;
      bar = FIRST_BAR;
      room = MAX_THINGS;
      setFirstLaws();
    }

    /** The laws of a bureau that tells none are laws like others. */
    private void setFirstLaws() {
      goodLaw.size = 0;
      goodLaw.add(Law.ofTerm(Couple.RARE));
      goodLaw.add(Law.ofTerm(Couple.INSULT));
      goodLaw.add(2);
      goodLaw.add(Law.TIMES);
      goodLaw.add(Law.LESS);
      mayLaw.size = 0;
      mayLaw.add(1);
    }

    void become(Rules other) {
      things = other.things;
      people = other.people;
      bar = other.bar;
      room = other.room;
      lines = other.lines;
      System.arraycopy(other.wanes, 0, wanes, 0, MAX_THINGS);
      System.arraycopy(other.traits, 0, traits, 0, MAX_PEOPLE);
      goodLaw.become(other.goodLaw);
      mayLaw.become(other.mayLaw);
    }

    int everybody() {
      return (1 << people) - 1;
    }

    int whoAre(int t) {
      int bits = 0;
      for (int p = 0; p < people; p++) {
        if ((traits[p] & 1 << t) != 0) {
          bits |= 1 << p;
        }
      }
      return bits;
    }

    int traitsBut(int p) {
      int bits = 0;
      for (int q = 0; q < people; q++) {
        if (q != p) {
          bits |= traits[q];
        }
      }
      return bits;
    }
  }

  /** All that deeds change, and so all that is brought back when they are undone. */
  private static final class Life {
    int year;
    final int[] age = new int[MAX_PEOPLE];
    final int[] mate = new int[MAX_PEOPLE];
    final int[] list = new int[MAX_PEOPLE];
    /** The lists the other way round: who loathe each thing. */
    final int[] who = new int[MAX_THINGS];
    final int[] held = new int[MAX_PEOPLE * MAX_THINGS];

    Life() {
      for (int p = 0; p < MAX_PEOPLE; p++) {
        mate[p] = NONE;
      }
    }

    void clear() {
      year = 0;
      for (int p = 0; p < MAX_PEOPLE; p++) {
        age[p] = 0;
        mate[p] = NONE;
        list[p] = 0;
      }
      for (int t = 0; t < MAX_THINGS; t++) {
        who[t] = 0;
      }
    }

    void become(Life other) {
      year = other.year;
      System.arraycopy(other.age, 0, age, 0, MAX_PEOPLE);
      System.arraycopy(other.mate, 0, mate, 0, MAX_PEOPLE);
      System.arraycopy(other.list, 0, list, 0, MAX_PEOPLE);
      System.arraycopy(other.who, 0, who, 0, MAX_THINGS);
      System.arraycopy(other.held, 0, held, 0, MAX_PEOPLE * MAX_THINGS);
    }

    boolean has(int p, int t) {
      return (list[p] & 1 << t) != 0;
    }

    void adopt(int p, int t, int heldFor) {
      list[p] |= 1 << t;
      who[t] |= 1 << p;
      held[p * MAX_THINGS + t] = heldFor;
    }

    void drop(int p, int t) {
      list[p] &= ~(1 << t);
      who[t] &= ~(1 << p);
    }

    void copyList(int p, int q) {
      for (int t = 0; t < MAX_THINGS; t++) {
        if (has(q, t)) {
          adopt(p, t, held[q * MAX_THINGS + t]);
        } else {
          drop(p, t);
        }
      }
    }

    void marry(int p, int q) {
      mate[p] = q;
      mate[q] = p;
    }

    void split(int p) {
      int q = mate[p];
      mate[p] = NONE;
      if (q >= 0 && q < MAX_PEOPLE) {
        mate[q] = NONE;
      }
    }
  }

  /** Rules and a life under them: how good pairs are, and what deeds do. */
  private static final class World {
    static final int DEED_KIND = 1000;
    static final int DEED_PERSON = 100;
    private static final int DEED_KINDS = 3;

    final Rules rules;
    final Couple couple;
    final Life life;
    /** Why the latest deed of a tray can't be (0: it could). */
    int why;

    World(Rules rules, Couple couple) {
      this.rules = rules;
      this.couple = couple;
      life = new Life();
    }

    boolean isPerson(int p) {
      return p >= 0 && p < rules.people;
    }

    boolean isThing(int t) {
      return t >= 0 && t < rules.things;
    }

    boolean areTwo(int p, int q) {
      return isPerson(p) && isPerson(q) && p != q;
    }

    int rarity(int t) {
      return rules.people - Integer.bitCount(life.who[t]) + 1;
    }

    /** The terms of two people, as if these were their lists: what is on both counts these two as loathing it. */
    void measure(int p, int q, int listP, int listQ) {
      int both = listP & listQ;
      int two = 1 << p | 1 << q;
      int rare = 0;
      for (int t = 0; t < rules.things; t++) {
        if ((both & 1 << t) != 0) {
          rare += rules.people - Integer.bitCount(life.who[t] | two) + 1;
        }
      }
      int[] terms = couple.terms;
      terms[Couple.COMMON] = Integer.bitCount(both);
      terms[Couple.RARE] = rare;
      terms[Couple.INSULT] = Integer.bitCount(listP & rules.traits[q]) + Integer.bitCount(listQ & rules.traits[p]);
      terms[Couple.LISTS] = Integer.bitCount(listP) + Integer.bitCount(listQ);
      terms[Couple.APART] = Math.abs(life.age[p] - life.age[q]);
      terms[Couple.OLDEST] = Math.max(life.age[p], life.age[q]);
      terms[Couple.YEAR] = life.year;
    }

    int goodnessWith(int p, int q, int listP, int listQ) {
      measure(p, q, listP, listQ);
      return couple.reckon(rules.goodLaw);
    }

    int goodness(int p, int q) {
      return goodnessWith(p, q, life.list[p], life.list[q]);
    }

    boolean isAllowed(int p, int q) {
      measure(p, q, life.list[p], life.list[q]);
      return couple.reckon(rules.mayLaw) != 0;
    }

    int whyNotMarry(int p, int q) {
      if (!areTwo(p, q)) {
        return WHY_NO_SUCH;
      }
      if (life.mate[p] != NONE || life.mate[q] != NONE) {
        return WHY_WED;
      }
      return isAllowed(p, q) ? 0 : WHY_MAY_NOT;
    }

    int whyNotTake(int p, int t) {
      if (!isPerson(p) || !isThing(t)) {
        return WHY_NO_SUCH;
      }
      return life.has(p, t) || hasRoom(p) ? 0 : WHY_NO_ROOM;
    }

    /** A list that was told, or copied, may be longer than room. */
    private boolean hasRoom(int p) {
      return Integer.bitCount(life.list[p]) < rules.room;
    }

    void takeOrGive(int p, int t) {
      if (life.has(p, t)) {
        life.drop(p, t);
      } else {
        life.adopt(p, t, 0);
      }
    }

    /** Does a deed as a tray tells it: 0, or why it can't be. */
    int attempt(long deed) {
      if (deed == NONE) {
        passYear();
        return 0;
      }
      if (deed < 0 || deed >= DEED_KINDS * DEED_KIND) {
        return WHY_NO_SUCH;
      }
      int number = (int) deed;
      int p = number % DEED_KIND / DEED_PERSON;
      int other = number % DEED_PERSON;
      switch (number / DEED_KIND) {
        case 0:
          return attemptMarriage(p, other);
        case 1:
          return attemptTaking(p, other);
        default:
          return attemptCopy(p, other);
      }
    }

    private int attemptMarriage(int p, int q) {
      if (areTwo(p, q) && life.mate[p] == q) {
        life.split(p);
        return 0;
      }
      int reason = whyNotMarry(p, q);
      if (reason == 0) {
        life.marry(p, q);
      }
      return reason;
    }

    private int attemptTaking(int p, int t) {
      int reason = whyNotTake(p, t);
      if (reason == 0) {
        takeOrGive(p, t);
      }
      return reason;
    }

    private int attemptCopy(int p, int q) {
      if (!areTwo(p, q)) {
        return WHY_NO_SUCH;
      }
      life.copyList(p, q);
      return 0;
    }

    /** How many things waned. */
    int passYear() {
      int waned = 0;
      for (int p = 0; p < rules.people; p++) {
        waned += growOlder(p);
      }
      for (int p = 0; p < rules.people; p++) {
        if (life.mate[p] > p) {
          exchange(p, life.mate[p]);
        }
      }
      life.year++;
      return waned;
    }

    /** A year for two alone, as if they were wed. */
    void passYearOfTwo(int p, int q) {
      growOlder(p);
      growOlder(q);
      exchange(p, q);
      life.year++;
    }

    /** A year as far as it touches a person's list: tastes come from nobody but whom it is wed to. */
    void passYearAround(int p) {
      int q = life.mate[p];
      if (isPerson(q)) {
        passYearOfTwo(p, q);
      } else {
        growOlder(p);
      }
    }

    private int growOlder(int p) {
      int waned = 0;
      life.age[p]++;
      for (int t = 0; t < rules.things; t++) {
        if (life.has(p, t)) {
          int place = p * MAX_THINGS + t;
          life.held[place]++;
          if (rules.wanes[t] > 0 && life.held[place] >= rules.wanes[t]) {
            life.drop(p, t);
            waned++;
          }
        }
      }
      return waned;
    }

    /** Both wishes are known ahead of both takings: they come all at once. */
    private void exchange(int p, int q) {
      int wishP = wish(p, q);
      int wishQ = wish(q, p);
      if (isThing(wishP)) {
        life.adopt(p, wishP, 0);
      }
      if (isThing(wishQ)) {
        life.adopt(q, wishQ, 0);
      }
    }

    private int wish(int p, int q) {
      int missing = life.list[q] & ~life.list[p];
      return missing == 0 || !hasRoom(p) ? NONE : Integer.numberOfTrailingZeros(missing);
    }

    int couples() {
      int wedded = 0;
      for (int p = 0; p < rules.people; p++) {
        if (life.mate[p] > p) {
          wedded++;
        }
      }
      return wedded;
    }

    int goodOfCouples() {
      int together = 0;
      for (int p = 0; p < rules.people; p++) {
        if (life.mate[p] > p) {
          together += goodness(p, life.mate[p]);
        }
      }
      return together;
    }

    int onAllLists() {
      int things = 0;
      for (int p = 0; p < rules.people; p++) {
        things += Integer.bitCount(life.list[p]);
      }
      return things;
    }

    /** What somebody of a set loathes. */
    int anyOf(int set) {
      int things = 0;
      for (int p = 0; p < rules.people; p++) {
        if ((set & 1 << p) != 0) {
          things |= life.list[p];
        }
      }
      return things;
    }

    /** What all of a set loathe. */
    int allOf(int set) {
      int things = (1 << rules.things) - 1;
      for (int p = 0; p < rules.people; p++) {
        if ((set & 1 << p) != 0) {
          things &= life.list[p];
        }
      }
      return things;
    }
  }

  /** Matchings of all people, or of any set of them, by a survey of all pairs. */
  private static final class Matching {
    private static final int SETS = 1 << MAX_PEOPLE;
    /** One pair more outweighs all that good of four pairs can differ. */
    private static final int PAIR_WEIGHT = 100000000;
    /** Below all that a pair or a matching can weigh. */
    private static final int ALONE = -2000000000;

    private int people;
    private final boolean[] open = new boolean[MAX_PEOPLE * MAX_PEOPLE];
    private final int[] worth = new int[MAX_PEOPLE * MAX_PEOPLE];
    /** Of each set of people: how much its best matching weighs, and whom its first person is with there. */
    private final int[] weight = new int[SETS];
    private final int[] choice = new int[SETS];
    final int[] with = new int[MAX_PEOPLE];

    void survey(World world) {
      people = world.rules.people;
      for (int p = 0; p < people; p++) {
        for (int q = p + 1; q < people; q++) {
          int good = world.goodness(p, q);
          boolean allowed = world.isAllowed(p, q);
          worth[p * MAX_PEOPLE + q] = good;
          worth[q * MAX_PEOPLE + p] = good;
          open[p * MAX_PEOPLE + q] = allowed;
          open[q * MAX_PEOPLE + p] = allowed;
        }
      }
    }

    boolean isOpen(int p, int q) {
      return open[p * MAX_PEOPLE + q];
    }

    void close(int p, int q) {
      open[p * MAX_PEOPLE + q] = false;
      open[q * MAX_PEOPLE + p] = false;
    }

    /** MOST of every set, from the small ones up: each is one choice and a smaller set. */
    void solve() {
      weight[0] = 0;
      choice[0] = NONE;
      int sets = 1 << people;
      for (int set = 1; set < sets; set++) {
        choose(set);
      }
    }

    /** Partners are tried in order, alone behind all, so that of like ones the first stays. */
    private void choose(int set) {
      int p = Integer.numberOfTrailingZeros(set);
      int rest = set & ~(1 << p);
      int best = ALONE;
      int partner = NONE;
      for (int q = p + 1; q < people; q++) {
        if ((rest & 1 << q) != 0 && isOpen(p, q)) {
          int sum = PAIR_WEIGHT + worth[p * MAX_PEOPLE + q] + weight[rest & ~(1 << q)];
          if (sum > best) {
            best = sum;
            partner = q;
          }
        }
      }
      if (weight[rest] > best) {
        best = weight[rest];
        partner = NONE;
      }
      weight[set] = best;
      choice[set] = partner;
    }

    /** Seats everybody as MOST of a set tells. */
    void follow(int set) {
      leaveAlone();
      int left = set;
      for (int p = 0; p < people; p++) {
        if ((left & 1 << p) != 0) {
          int q = choice[left];
          left &= ~(1 << p);
          if (q > p && q < people) {
            left &= ~(1 << q);
            with[p] = q;
            with[q] = p;
          }
        }
      }
    }

    boolean joins(int set, int p, int q) {
      follow(set);
      return with[p] == q;
    }

    void leaveAlone() {
      for (int p = 0; p < MAX_PEOPLE; p++) {
        with[p] = NONE;
      }
    }

    void seat(int[] mates) {
      leaveAlone();
      for (int p = 0; p < people && p < mates.length; p++) {
        with[p] = mates[p];
      }
    }

    /** How many matchings of a set have just so many pairs. */
    private int tally(int set, int pairs) {
      if (pairs == 0) {
        return 1;
      }
      if (set == 0) {
        return 0;
      }
      int p = Integer.numberOfTrailingZeros(set);
      int rest = set & ~(1 << p);
      int sum = tally(rest, pairs);
      for (int q = p + 1; q < people; q++) {
        if ((rest & 1 << q) != 0 && isOpen(p, q)) {
          sum += tally(rest & ~(1 << q), pairs - 1);
        }
      }
      return sum;
    }

    /** Seats person p and all behind it in the first way that nobody breaks; all before it are seated. */
    private boolean settle(int p) {
      if (p >= people) {
        return firstBreak() == NONE;
      }
      if (with[p] != NONE) {
        return settle(p + 1);
      }
      for (int q = p + 1; q < people; q++) {
        if (with[q] == NONE && isOpen(p, q)) {
          with[p] = q;
          with[q] = p;
          if (settle(p + 1)) {
            return true;
          }
          with[p] = NONE;
          with[q] = NONE;
        }
      }
      return settle(p + 1);
    }

    /** The first two who both would rather: 10 times the one and the other. */
    int firstBreak() {
      for (int p = 0; p < people; p++) {
        for (int q = p + 1; q < people; q++) {
          int good = worth[p * MAX_PEOPLE + q];
          if (isOpen(p, q) && good > goodNow(p) && good > goodNow(q)) {
            return 10 * p + q;
          }
        }
      }
      return NONE;
    }

    private int goodNow(int p) {
      int q = with[p];
      return q < 0 || q >= people ? ALONE : worth[p * MAX_PEOPLE + q];
    }

    int answer(int what) {
      int pairs = 0;
      int together = 0;
      for (int p = 0; p < people; p++) {
        if (with[p] > p) {
          pairs++;
          together += goodNow(p);
        }
      }
      if (what == 0) {
        return pairs;
      }
      int p = what - FIRST_WHO;
      return p >= 0 && p < people ? with[p] : together;
    }
  }

  /** Looks for the fewest things by which one fibs oneself good enough for another. */
  private static final class Fibs {
    /** More than insult can be. */
    private static final int EFFECT_OF_RARE = 64;

    private final World world;
    private int p;
    private int q;
    private int free;
    private final int[] effects = new int[MAX_THINGS];
    /** Of each thing the free ones ahead of it that have the same effect. */
    private final int[] alike = new int[MAX_THINGS];
    int found;

    Fibs(World world) {
      this.world = world;
    }

    int fewest(int liar, int other) {
      p = liar;
      q = other;
      free = (1 << world.rules.things) - 1 & ~world.life.list[p];
      for (int t = 0; t < MAX_THINGS; t++) {
        effects[t] = effect(t);
        alike[t] = findAlike(t);
      }
      int most = Integer.bitCount(free);
      for (int n = 0; n <= most; n++) {
        if (seek(MAX_THINGS - 1, n, 0, 0)) {
          return n;
        }
      }
      return NONE;
    }

    private int findAlike(int t) {
      int bits = 0;
      for (int u = 0; u < t; u++) {
        if ((free & 1 << u) != 0 && effects[u] == effects[t]) {
          bits |= 1 << u;
        }
      }
      return bits;
    }

    /** What rare and insult become by taking up a thing; common and lists follow from that. */
    private int effect(int t) {
      world.measure(p, q, world.life.list[p] | 1 << t, world.life.list[q]);
      int[] terms = world.couple.terms;
      return EFFECT_OF_RARE * terms[Couple.RARE] + terms[Couple.INSULT];
    }

    /**
     * Tries all sets of so many of the things 0 to t, together with those taken already, the least first.
     * A thing is taken only with all that are alike ahead of it (must): other sets are no better and greater.
     */
    private boolean seek(int t, int left, int taken, int must) {
      int due = Integer.bitCount(must & ~taken);
      if (left == 0) {
        return due == 0 && reachesBar(taken);
      }
      if (t < 0 || due > left || Integer.bitCount(free & (2 << t) - 1) < left) {
        return false;
      }
      int bit = 1 << t;
      if ((must & bit) == 0 && seek(t - 1, left, taken, must)) {
        return true;
      }
      return (free & bit) != 0 && seek(t - 1, left - 1, taken | bit, must | alike[t]);
    }

    private boolean reachesBar(int taken) {
      found = taken;
      Life life = world.life;
      return world.goodnessWith(p, q, life.list[p] | taken, life.list[q]) >= world.rules.bar;
    }
  }

  /** Reads the text of a bureau into rules and a life, up to its first fault. */
  private static final class Reader {
    private static final int CANT_BEGIN = 1;
    private static final int CANT_STAND = 2;
    private static final int OUT_OF_BOUNDS = 3;
    private static final int TOO_MANY = 4;

    /** Kinds of tokens; a sign's kind is the sign itself. */
    private static final int END = 0;
    private static final int WORD = 1;
    private static final int NUMBER = 2;
    private static final int BAD = 3;

    private static final int MAX_DIGITS = 3;
    private static final int MAX_DEPTH = 6;
    private static final int MAX_N = 999;
    private static final int MAX_AGE = 99;
    private static final int MAX_WANES = 99;
    private static final String SIGNS = ";:+-*()[]=<>";

    private final byte[] text;
    private final Rules rules;
    private final Life life;
    private Law law;
    private int length;
    private int token;
    private int start;
    private int end;
    int faultKind;
    int faultPlace;

    Reader(byte[] text, Rules rules, Life life) {
      this.text = text;
      this.rules = rules;
      this.life = life;
      law = rules.goodLaw;
      faultPlace = NONE;
    }

    void readText(int n) {
      length = Math.min(n, text.length);
      faultKind = 0;
      faultPlace = NONE;
      rules.clear();
      life.clear();
      end = 0;
      next();
      boolean sound = true;
      for (int i = 0; i <= MAX_TEXT && sound && token != END; i++) {
        sound = readLine() && pass(';');
        rules.lines++;
      }
    }

    private boolean readLine() {
      if (isWord("thing")) {
        return readThing();
      }
      if (isWord("person")) {
        return readPerson();
      }
      if (isWord("good")) {
        law = rules.goodLaw;
        law.size = 0;
        next();
        return pass(':') && readSum(0);
      }
      if (isWord("may")) {
        law = rules.mayLaw;
        law.size = 0;
        next();
        return pass(':') && readTruth(0);
      }
      if (isWord("bar")) {
        next();
        rules.bar = readNumber(0, MAX_N);
        return faultKind == 0;
      }
      if (isWord("room")) {
        next();
        rules.room = readNumber(1, MAX_THINGS);
        return faultKind == 0;
      }
      return refuse();
    }

    private boolean readThing() {
      int t = rules.things;
      if (t >= MAX_THINGS) {
        return blame(TOO_MANY);
      }
      next();
      int wanes = 0;
      if (isWord("wanes")) {
        next();
        wanes = readNumber(1, MAX_WANES);
      }
      rules.wanes[t] = wanes;
      rules.things++;
      return faultKind == 0;
    }

    private boolean readPerson() {
      int p = rules.people;
      if (p >= MAX_PEOPLE) {
        return blame(TOO_MANY);
      }
      next();
      if (!passWord("age")) {
        return false;
      }
      life.age[p] = readNumber(0, MAX_AGE);
      rules.traits[p] = 0;
      if (faultKind == 0 && isWord("is")) {
        rules.traits[p] = readThings();
      }
      if (faultKind == 0 && isWord("loathes")) {
        int told = readThings();
        for (int t = 0; t < rules.things; t++) {
          if ((told & 1 << t) != 0) {
            life.adopt(p, t, 0);
          }
        }
      }
      rules.people++;
      return faultKind == 0;
    }

    /** A word and the things behind it, one or more, as bits. */
    private int readThings() {
      int bits = 0;
      next();
      for (int i = 0; i <= MAX_TEXT && faultKind == 0 && (i == 0 || token == NUMBER); i++) {
        int t = readNumber(0, rules.things - 1);
        if (t >= 0) {
          bits |= 1 << t;
        }
      }
      return bits;
    }

    private boolean readTruth(int depth) {
      boolean sound = readBoth(depth);
      for (int i = 0; i <= MAX_TEXT && sound && isWord("or"); i++) {
        next();
        sound = readBoth(depth);
        law.add(Law.OR);
      }
      return sound;
    }

    private boolean readBoth(int depth) {
      boolean sound = readUnit(depth);
      for (int i = 0; i <= MAX_TEXT && sound && isWord("and"); i++) {
        next();
        sound = readUnit(depth);
        law.add(Law.AND);
      }
      return sound;
    }

    private boolean readUnit(int depth) {
      if (isWord("not")) {
        if (!goDeeper(depth) || !readUnit(depth + 1)) {
          return false;
        }
        law.add(Law.NOT);
        return true;
      }
      if (token == '[') {
        return goDeeper(depth) && readTruth(depth + 1) && pass(']');
      }
      if (!readSum(depth)) {
        return false;
      }
      int step = comparison();
      if (step == 0) {
        return refuse();
      }
      next();
      boolean sound = readSum(depth);
      law.add(step);
      return sound;
    }

    private int comparison() {
      switch (token) {
        case '=':
          return Law.EQUAL;
        case '<':
          return Law.BELOW;
        case '>':
          return Law.ABOVE;
        default:
          return 0;
      }
    }

    private boolean readSum(int depth) {
      boolean sound = readTerm(depth);
      for (int i = 0; i <= MAX_TEXT && sound && (token == '+' || token == '-'); i++) {
        int step = token == '+' ? Law.ADD : Law.LESS;
        next();
        sound = readTerm(depth);
        law.add(step);
      }
      return sound;
    }

    private boolean readTerm(int depth) {
      boolean sound = readAtom(depth);
      for (int i = 0; i <= MAX_TEXT && sound && token == '*'; i++) {
        next();
        sound = readAtom(depth);
        law.add(Law.TIMES);
      }
      return sound;
    }

    private boolean readAtom(int depth) {
      if (token == '(') {
        return goDeeper(depth) && readSum(depth + 1) && pass(')');
      }
      if (token == NUMBER) {
        law.add(readNumber(0, MAX_N));
        return true;
      }
      int term = termWord();
      if (term == NONE) {
        return refuse();
      }
      law.add(Law.ofTerm(term));
      next();
      return true;
    }

    private int termWord() {
      if (isWord("common")) {
        return Couple.COMMON;
      }
      if (isWord("rare")) {
        return Couple.RARE;
      }
      if (isWord("insult")) {
        return Couple.INSULT;
      }
      if (isWord("lists")) {
        return Couple.LISTS;
      }
      if (isWord("apart")) {
        return Couple.APART;
      }
      if (isWord("oldest")) {
        return Couple.OLDEST;
      }
      return isWord("year") ? Couple.YEAR : NONE;
    }

    private boolean goDeeper(int depth) {
      if (depth >= MAX_DEPTH) {
        return blame(TOO_MANY);
      }
      next();
      return true;
    }

    /** A number within its bounds; NONE with a fault. */
    private int readNumber(int least, int greatest) {
      if (token != NUMBER) {
        refuse();
        return NONE;
      }
      int value = 0;
      for (int i = start; i < end && i < length; i++) {
        value = 10 * value + text[i] - '0';
      }
      if (value < least || value > greatest) {
        blame(OUT_OF_BOUNDS);
        return NONE;
      }
      next();
      return value;
    }

    private boolean pass(int sign) {
      if (token != sign) {
        return refuse();
      }
      next();
      return true;
    }

    private boolean passWord(String word) {
      if (!isWord(word)) {
        return refuse();
      }
      next();
      return true;
    }

    private boolean refuse() {
      return blame(token == BAD ? CANT_BEGIN : CANT_STAND);
    }

    /** The first fault stays: reading goes along the text. */
    private boolean blame(int kind) {
      if (faultKind == 0) {
        faultKind = kind;
        faultPlace = start;
      }
      return false;
    }

    private boolean isWord(String word) {
      if (token != WORD || end - start != word.length()) {
        return false;
      }
      for (int i = 0; i < word.length() && start + i < length; i++) {
        if (text[start + i] != word.charAt(i)) {
          return false;
        }
      }
      return true;
    }

    private void next() {
      start = end;
      while (start < length && (text[start] == ' ' || text[start] == '\n')) {
        start++;
      }
      end = start;
      if (start >= length) {
        token = END;
        return;
      }
      int first = text[start];
      if (isLetter(first)) {
        token = WORD;
        while (end < length && isLetter(text[end])) {
          end++;
        }
      } else if (isDigit(first)) {
        while (end < length && isDigit(text[end])) {
          end++;
        }
        token = end - start > MAX_DIGITS ? BAD : NUMBER;
      } else {
        token = first > 0 && SIGNS.indexOf((char) first) >= 0 ? first : BAD;
        end++;
      }
    }

    private static boolean isLetter(int sign) {
      return sign >= 'a' && sign <= 'z';
    }

    private static boolean isDigit(int sign) {
      return sign >= '0' && sign <= '9';
    }
  }

  /** What life was ahead of each of the latest calls that did some deeds. */
  private static final class History {
    private final Life[] past = new Life[MAX_UNDO];
    private int eldest;
    int kept;

    History() {
      for (int i = 0; i < MAX_UNDO; i++) {
        past[i] = new Life();
      }
    }

    void keep(Life life) {
      if (kept == MAX_UNDO) {
        eldest = (eldest + 1) % MAX_UNDO;
        kept--;
      }
      past[(eldest + kept) % MAX_UNDO].become(life);
      kept++;
    }

    void bringBack(int calls, Life life) {
      if (calls > 0 && calls <= kept) {
        kept -= calls;
        life.become(past[(eldest + kept) % MAX_UNDO]);
      }
    }

    void forget() {
      kept = 0;
    }
  }

  /** Numbers of one sort that a caller writes. */
  private static final class Tray {
    boolean present;
    int size;
    private int sort;
    final long[] number = new long[MAX_PLACES];

    void lay(int newSort, int n) {
      present = true;
      sort = newSort;
      size = n;
      for (int i = 0; i < MAX_PLACES; i++) {
        number[i] = 0;
      }
    }

    long cut(long v) {
      switch (sort) {
        case 0:
          return (byte) v;
        case 1:
          return (short) v;
        case 2:
          return (int) v;
        default:
          return v;
      }
    }
  }

  /** A bureau as it was. */
  private static final class Image {
    final Rules rules = new Rules();
    final Life life = new Life();
  }
}
