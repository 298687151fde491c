/** Promises 11 to 19 and 41 to 46: deeds, undoing, trays, images. */
public final class DeedTests {
  private final Checks checks = new Checks();

  private static LoatheMatch base() {
    return Checks.of(BureauTests.BASE);
  }

  private void weddings() {
    LoatheMatch x = base();
    checks.due("wed(0, 1)", x.wed(0, 1), 5);
    checks.due("0 is with 1", x.person(0, 3), 1);
    checks.due("1 is with 0", x.person(1, 3), 0);
    checks.due("wed again", x.wed(1, 0), -12);
    checks.due("wed to another", x.wed(2, 1), -12);
    checks.due("one is wed ahead of MAY not", x.wed(0, 3), -12);
    checks.due("both one", x.wed(0, 0), -11);
    checks.due("no such", x.wed(0, 4), -11);
    checks.due("no such", x.wed(-1, 0), -11);
    checks.due("one deed alone", x.count(6), 1);
    checks.due("part(1)", x.part(1), 0);
    checks.due("0 is alone", x.person(0, 3), -1);
    checks.due("1 is alone", x.person(1, 3), -1);
    checks.due("part again", x.part(1), -5);
    checks.due("part(4)", x.part(4), -2);
    checks.due("part(-1)", x.part(-1), -2);
    checks.due("they MAY not", x.wed(3, 0), -13);
    checks.due("pairs", x.count(3), 0);
    checks.due("GOOD below 0", x.wed(2, 3), -4);
    checks.due("pairs", x.count(3), 1);
  }

  private void taking() {
    LoatheMatch x = base();
    checks.due("takes(0, 3)", x.takes(0, 3), 3);
    checks.due("no room", x.takes(0, 0), -14);
    checks.due("gives up", x.takes(0, 1), 2);
    checks.due("LIST", x.person(0, 2), 12);
    checks.due("who", x.thing(1, 1), 2);
    checks.due("takes(0, 4)", x.takes(0, 4), -11);
    checks.due("takes(4, 0)", x.takes(4, 0), -11);
    checks.due("takes(0, -1)", x.takes(0, -1), -11);
    LoatheMatch full = Checks.of("thing;thing;thing;room 1;person age 1 loathes 0 1;person age 2;");
    checks.due("told longer", full.person(0, 2), 3);
    checks.due("no room", full.takes(0, 2), -14);
    checks.due("copied longer", full.copies(1, 0), 2);
    checks.due("gives up", full.takes(0, 0), 1);
    checks.due("still no room", full.takes(0, 0), -14);
    checks.due("gives up all", full.takes(0, 1), 0);
    checks.due("room again", full.takes(0, 2), 1);
  }

  private void copying() {
    LoatheMatch x = base();
    x.years(2);
    checks.due("copies(3, 0)", x.copies(3, 0), 2);
    checks.due("LIST", x.person(3, 2), 6);
    checks.due("YEARS too", x.since(3, 1), 2);
    checks.due("what was there is gone", x.since(3, 3), -1);
    checks.due("who", x.thing(3, 1), 2);
    checks.due("both one", x.copies(1, 1), -11);
    checks.due("no such", x.copies(1, 4), -11);
    checks.due("a copy alike is a deed", x.copies(3, 0) + 10 * x.count(6), 32);
  }

  private void passing() {
    LoatheMatch x = base();
    checks.due("years(0)", x.years(0), -3);
    checks.due("years(61)", x.years(61), -3);
    x.wed(0, 1);
    checks.due("years(1)", x.years(1), 0);
    checks.due("0 has 3 from 1", x.person(0, 2), 14);
    checks.due("it is new", x.since(0, 3), 0);
    checks.due("AGE", x.person(2, 0), 26);
    checks.due("years(2)", x.years(2), 2);
    checks.due("1 waned", x.person(1, 2), 12);
    checks.due("year", x.count(2), 3);
    checks.due("years(60)", x.years(60), 0);
    checks.due("year", x.count(2), 63);
    LoatheMatch once = Checks.of("thing wanes 1;thing;thing;person age 1 loathes 0 1;person age 1 loathes 2;");
    once.wed(0, 1);
    checks.due("waned ahead of taking", once.years(1), 1);
    checks.due("all at once: 0", once.person(0, 2), 6);
    checks.due("all at once: 1", once.person(1, 2), 6);
    LoatheMatch least = Checks.of("thing;thing;thing;room 2;person age 1 loathes 2;person age 1 loathes 0 1;");
    least.wed(1, 0);
    least.years(1);
    checks.due("the least THING", least.person(0, 2), 5);
    checks.due("no room", least.person(1, 2), 3);
  }

  private void undoing() {
    LoatheMatch x = base();
    checks.due("undo(1)", x.undo(1), -3);
    checks.due("undo(0)", x.undo(0), -3);
    x.wed(0, 1);
    x.years(3);
    x.takes(2, 1);
    checks.due("count(6)", x.count(6), 3);
    checks.due("undo(4)", x.undo(4), -3);
    checks.due("undo(2)", x.undo(2), 1);
    checks.due("AGES", x.person(0, 0), 20);
    checks.due("YEARS", x.since(0, 1), 0);
    checks.due("year", x.count(2), 0);
    checks.due("LISTS", x.person(2, 2), 5);
    checks.due("RARE", x.thing(1, 2), 3);
    checks.due("still wed", x.person(0, 3), 1);
    checks.due("undo(1)", x.undo(1), 0);
    checks.due("not wed", x.person(0, 3), -1);
    for (int i = 0; i < 12; i++) {
      x.years(1);
    }
    checks.due("8 at most", x.count(6), 8);
    checks.due("undo(9)", x.undo(9), -3);
    checks.due("undo(8)", x.undo(8), 0);
    checks.due("the eldest stay done", x.count(2), 4);
    checks.due("a refused call is none", x.wed(0, 0) + x.count(6), -11);
    checks.due("matchAll", x.matchAll(), 2);
    checks.due("matchAll though it is so", x.matchAll(), 2);
    checks.due("count(6)", x.count(6), 2);
    x.part(0);
    checks.due("part can be UNDONE", x.undo(1), 2);
    checks.due("wed", x.person(0, 3) >= 0 ? 1 : 0, 1);
  }

  private void judging() {
    LoatheMatch x = base();
    checks.due("judge(4, 0)", x.judge(4, 0), -2);
    checks.due("judge(0, 4)", x.judge(0, 4), -2);
    checks.due("judge(-1, 0)", x.judge(-1, 0), -2);
    checks.due("judge(0, 0)", x.judge(0, 0), -6);
    checks.due("perform(0)", x.perform(0), -6);
    checks.due("perform(4)", x.perform(4), -2);
    Checks.fill(x, 0, 1, -1, 1003, 203, 302, 3);
    checks.due("the first that can't be", x.judge(0, 0), 5);
    checks.due("why: 0 is wed, ahead of MAY not", x.judge(0, 1), 2);
    checks.due("wed then", x.judge(0, 2), 2);
    checks.due("GOOD then", x.judge(0, 3), 5);
    checks.due("nothing is done", x.count(6) + x.count(2) + x.count(3), 0);
    Checks.fill(x, 1, 1, 2201);
    checks.due("all can be", x.judge(1, 0), -1);
    checks.due("why not", x.judge(1, 1), 0);
    checks.due("perform(0)", x.perform(0), 5);
    checks.due("one call", x.count(6), 1);
    checks.due("a YEAR", x.count(2), 1);
    checks.due("3 GIVEN UP", x.person(0, 2), 6);
    checks.due("perform(0) again: they part", x.perform(0), 5);
    checks.due("undo(2)", x.undo(2), 0);
    checks.due("as a whole", x.count(2) + x.count(3), 0);
    long[][] cant = {{4, 1}, {8, 1}, {99, 1}, {400, 1}, {0, 1}, {303, 1}, {999, 1}, {1004, 1}, {1400, 1}, {2000, 1},
        {2004, 1}, {2400, 1}, {3000, 1}, {3001, 1}, {1L << 32 | 1, 1}, {-99, 1}, {-2, 1}, {5000000001L, 1},
        {Long.MIN_VALUE, 1}, {3, 3}, {100, 0}, {2001, 0}};
    for (long[] deed : cant) {
      x.numbers(2, 3, 1);
      x.write(2, 0, deed[0]);
      checks.due("why of " + deed[0], x.judge(2, 1), deed[1]);
    }
    Checks.fill(x, 3, 2301);
    checks.due("a COPY in a TRAY", x.perform(3), 1);
    checks.due("the LIST", x.person(3, 2), 14);
    x.undo(1);
    Checks.fill(x, 3, 1, 102);
    checks.due("wed to another", x.judge(3, 1), 2);
    Checks.fill(x, 3, 1100, 1103, 1100);
    checks.due("no room", x.judge(3, 0) * 10 + x.judge(3, 1), 4);
    checks.due("nothing done: none to UNDO", x.perform(3) + x.count(6), 0);
    x.numbers(3, 0, 0);
    checks.due("an empty TRAY", x.judge(3, 0), -1);
    checks.due("of no deeds", x.perform(3) + x.count(6), 0);
  }

  private void seasons() {
    LoatheMatch x = base();
    checks.due("season(1, 0)", x.season(1, 0), -3);
    checks.due("season(1, 41)", x.season(1, 41), -3);
    checks.due("no THINGS", Checks.of("person age 1;").season(1, 1), -5);
    checks.due("no PEOPLE", Checks.of("thing;").season(1, 1), -5);
    checks.due("-3 first", new LoatheMatch().season(1, 0), -3);
    int seed = 3;
    int kinds = 0;
    for (int i = 0; i < 40; i++) {
      int draw = next(seed) % 4;
      LoatheMatch y = base();
      LoatheMatch z = base();
      int p = next(step(seed));
      int q = next(step(step(seed)));
      int done = y.season(seed, 1);
      Checks.fill(z, 0, draw == 0 ? -1 : draw == 1 ? p % 4 * 100 + q % 4
          : draw == 2 ? 1000 + p % 4 * 100 + q % 4 : 2000 + p % 4 * 100 + q % 4);
      checks.due("season(" + seed + ", 1)", done, z.perform(0));
      checks.due("UNDO behind it", y.count(6), done);
      for (int who = 0; who < 4; who++) {
        for (int what = 0; what < 4; what++) {
          checks.due("season(" + seed + ", 1): person(" + who + ", " + what + ")", y.person(who, what), z.person(who, what));
        }
      }
      kinds |= 1 << draw;
      seed = seed * 31 + 17;
    }
    checks.due("all kinds", kinds, 15);
    drawsByThings();
    int done = x.season(77, 40);
    checks.due("a long one", done > 0 && done <= 40 ? 1 : 0, 1);
    checks.due("is one call", x.undo(1), 0);
    checks.due("all as it was", x.count(2) + x.count(3) + x.count(9), 8);
  }

  /** With fewer things than people, and more, a draw shows by which it was taken. */
  private void drawsByThings() {
    String[] texts = {"thing;thing;" + "person age 1;".repeat(7), "thing;".repeat(13) + "person age 1;person age 1;"};
    int[] things = {2, 13};
    int[] people = {7, 2};
    for (int i = 0; i < 2; i++) {
      int taken = 0;
      for (int seed = 0; seed < 200 && taken < 10; seed++) {
        if (next(seed) % 4 == 2) {
          taken++;
          LoatheMatch y = Checks.of(texts[i]);
          y.season(seed, 1);
          int p = next(step(seed)) % people[i];
          int t = next(step(step(seed))) % things[i];
          checks.due("season(" + seed + ", 1): LIST of " + p, y.person(p, 2), 1 << t);
        }
      }
      checks.due("seeds that take up", taken, 10);
    }
  }

  private static int step(int x) {
    return 1103515245 * x + 12345;
  }

  private static int next(int x) {
    return step(x) >>> 16;
  }

  private void trays() {
    LoatheMatch x = base();
    checks.due("numbers(4, 0, 1)", x.numbers(4, 0, 1), -2);
    checks.due("numbers(0, 4, 1)", x.numbers(0, 4, 1), -2);
    checks.due("numbers(0, -1, 99)", x.numbers(0, -1, 99), -2);
    checks.due("numbers(0, 0, 41)", x.numbers(0, 0, 41), -3);
    checks.due("numbers(0, 0, -1)", x.numbers(0, 0, -1), -3);
    checks.due("MISSING still", x.write(0, 0, 1), -6);
    checks.due("numbers(0, 0, 40)", x.numbers(0, 0, 40), 0);
    checks.due("write(4, 0, 0)", x.write(4, 0, 0), -2);
    checks.due("write(-1, 0, 0)", x.write(-1, 0, 0), -2);
    checks.due("write(0, 40, 0)", x.write(0, 40, 0), -7);
    checks.due("write(0, -1, 0)", x.write(0, -1, 0), -7);
    checks.due("8 bits", x.write(0, 39, 200), -56);
    checks.due("8 bits", x.write(0, 0, -1), -1);
    checks.due("a refused one", x.numbers(0, 1, 41), -3);
    checks.due("stays of 8 bits", x.write(0, 39, 256), 0);
    x.numbers(1, 1, 1);
    checks.due("16 bits", x.write(1, 0, 40000), -25536);
    x.numbers(1, 2, 1);
    checks.due("32 bits", x.write(1, 0, 1L << 33 | 5), 5);
    x.numbers(1, 3, 1);
    checks.due("64 bits", x.write(1, 0, Long.MIN_VALUE), Long.MIN_VALUE);
    x.numbers(1, 3, 1);
    checks.due("all 0: both one", x.judge(1, 1), 1);
    x.write(1, 0, -1);
    checks.due("a YEAR", x.judge(1, 1), 0);
    x.numbers(1, 3, 1);
    checks.due("all 0 anew", x.judge(1, 1), 1);
  }

  private void listsInTrays() {
    LoatheMatch x = Checks.of("thing;".repeat(14) + "person age 1 loathes 0;person age 1 loathes 1 8 13;person age 1;");
    checks.due("lists(4)", x.lists(4), -2);
    checks.due("lists(-1)", x.lists(-1), -2);
    checks.due("lists(2)", x.lists(2), -6);
    x.numbers(2, 2, 0);
    checks.due("no places", x.lists(2), 0);
    x.numbers(2, 2, 2);
    checks.due("two places", x.lists(2), 2);
    x.numbers(2, 2, 5);
    x.write(2, 4, 7);
    checks.due("three PEOPLE", x.lists(2), 3);
    Checks.fill(x, 1, 1, 1, 1, -1);
    x.lists(1);
    // LISTS 1, 8450 and 0; behind them the YEAR stays
    x.write(1, 1, -1);
    x.write(1, 2, 1);
    checks.due("places behind stay", x.judge(1, 0), -1);
    // A tray is read back by what its deeds do: LIST 1 as a number of a deed is WED 0 and 1, LIST 0 is nobody.
    x.numbers(3, 2, 1);
    x.lists(3);
    checks.due("LIST of 0 is a deed: wed 0 and 1", x.judge(3, 2), 2);
    LoatheMatch cut = Checks.of("thing;".repeat(9) + "person age 1 loathes 0 8;person age 1;");
    cut.numbers(0, 0, 1);
    cut.lists(0);
    checks.due("cut to 8 bits", cut.judge(0, 2), 2);
    cut.numbers(0, 1, 1);
    cut.lists(0);
    checks.due("not cut in 16", cut.judge(0, 1), 1);
  }

  private void images() {
    LoatheMatch x = base();
    checks.due("image(2)", x.image(2), -2);
    checks.due("image(-1)", x.image(-1), -2);
    checks.due("restore(2)", x.restore(2), -2);
    checks.due("restore(0)", x.restore(0), -5);
    x.wed(0, 1);
    checks.due("image(0)", x.image(0), 0);
    checks.due("an image leaves UNDO", x.count(6), 1);
    x.years(3);
    x.part(0);
    checks.due("restore(1)", x.restore(1), -5);
    checks.due("restore(0)", x.restore(0), 0);
    checks.due("wed", x.person(0, 3), 1);
    checks.due("year", x.count(2), 0);
    checks.due("nothing can be UNDONE", x.count(6), 0);
    Checks.tell(x, "thing;bar 7;good : 4;person age 1;person age 1;");
    Checks.feed(x, "room 9;");
    x.image(1);
    checks.due("restore(0) over another BUREAU", x.restore(0), 0);
    checks.due("PEOPLE", x.count(1), 4);
    checks.due("bar", x.count(4), 3);
    checks.due("LINES", x.count(8), 11);
    checks.due("law", x.good(0, 1), 5);
    checks.due("THE TAPE is no part of it", x.count(7), 20);
    x.takes(0, 3);
    x.restore(0);
    checks.due("an IMAGE stays as it was", x.person(0, 2), 6);
    checks.due("restore(1)", x.restore(1), 0);
    checks.due("its law", x.good(0, 1), 4);
    x.restore(0);
    x.image(1);
    checks.due("an IMAGE is made anew", x.restore(1) + x.count(1), 4);
  }

  private void counts() {
    LoatheMatch x = base();
    x.wed(0, 1);
    x.years(1);
    x.feed(0, 0, 0, 0, 0);
    int[] due = {4, 4, 1, 1, 3, 3, 2, 20, 11, 9};
    for (int what = 0; what < due.length; what++) {
      checks.due("count(" + what + ")", x.count(what), due[what]);
    }
    checks.due("count(10)", x.count(10), -1);
    checks.due("count(-1)", x.count(-1), -1);
  }

  public static void main(String[] args) {
    DeedTests tests = new DeedTests();
    tests.weddings();
    tests.taking();
    tests.copying();
    tests.passing();
    tests.undoing();
    tests.judging();
    tests.seasons();
    tests.trays();
    tests.listsInTrays();
    tests.images();
    tests.counts();
    tests.checks.end("deeds, trays, images");
  }
}
