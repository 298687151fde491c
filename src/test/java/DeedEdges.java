/** Promises 11 to 19. */
final class DeedEdges {
  private static final int MIN = Integer.MIN_VALUE;
  private static final int MAX = Integer.MAX_VALUE;

  private final Edges edges;

  DeedEdges(Edges edges) {
    this.edges = edges;
  }

  private static LoatheMatch fresh() {
    return Checks.of(BureauEdges.TEXT);
  }

  private static LoatheMatch start() {
    return BureauEdges.start();
  }

  void run() {
    wed();
    part();
    takes();
    copies();
    years();
    undo();
    judge();
    perform();
    season();
  }

  private void wed() {
    edges.promise(11, "WED: GOOD of them.");
    LoatheMatch x = fresh();
    edges.due("wed(0, 1)", x.wed(0, 1), 7);
    edges.due("below 0", x.wed(3, 2), -4);
    edges.due("both are", x.person(2, 3) * 10 + x.person(3, 3), 32);
    edges.due("pairs", x.count(3), 2);
    edges.due("can be UNDONE", x.count(6), 2);

    edges.promise(11, "-11 to -13 (and nothing changes).");
    for (int bad : new int[] {-1, 5, MIN, MAX}) {
      edges.refused(DeedEdges::start, "wed(" + bad + ", 2)", o -> o.wed(bad, 2), -11);
      edges.refused(DeedEdges::start, "wed(2, " + bad + ")", o -> o.wed(2, bad), -11);
    }
    edges.refused(DeedEdges::start, "wed(2, 2)", o -> o.wed(2, 2), -11);
    edges.refused(DeedEdges::start, "wed(0, 1)", o -> o.wed(0, 1), -12);
    edges.refused(DeedEdges::start, "wed(1, 0)", o -> o.wed(1, 0), -12);
    edges.refused(DeedEdges::start, "wed(0, 2)", o -> o.wed(0, 2), -12);
    edges.refused(DeedEdges::start, "wed(2, 0)", o -> o.wed(2, 0), -12);
    edges.refused(DeedEdges::start, "wed(3, 4)", o -> o.wed(3, 4), -13);
    edges.refused(DeedEdges::start, "wed(4, 3)", o -> o.wed(4, 3), -13);
  }

  private void part() {
    edges.promise(12, "PARTED: 0.");
    LoatheMatch x = start();
    edges.due("part(1)", x.part(1), 0);
    edges.due("both are", x.person(0, 3) + x.person(1, 3), -2);
    edges.due("pairs", x.count(3), 0);

    edges.promise(12, "-2: no such PERSON;");
    for (int bad : new int[] {-1, 5, MIN, MAX}) {
      edges.refused(DeedEdges::start, "part(" + bad + ")", o -> o.part(bad), -2);
    }

    edges.promise(12, "-5: it isn't wed.");
    edges.refused(DeedEdges::start, "part(2)", o -> o.part(2), -5);
    edges.due("a second time", x.part(1), -5);
    edges.due("by the other one", x.part(0), -5);
  }

  private void takes() {
    edges.promise(13, "A THING is TAKEN UP, or GIVEN UP if it is on the LIST: how many are on it then.");
    LoatheMatch x = fresh();
    edges.due("on an empty LIST", x.takes(4, 3), 1);
    edges.due("from it", x.takes(4, 3), 0);
    edges.due("to room", x.takes(0, 3), 3);
    edges.due("from a full one", x.takes(1, 1), 2);
    edges.due("LIST", x.person(1, 2), 12);

    edges.promise(13, "-11, -14.");
    for (int bad : new int[] {-1, 5, MIN, MAX}) {
      edges.refused(DeedEdges::start, "takes(" + bad + ", 0)", o -> o.takes(bad, 0), -11);
      edges.refused(DeedEdges::start, "takes(4, " + bad + ")", o -> o.takes(4, bad), -11);
    }
    edges.refused(DeedEdges::start, "takes(4, 4)", o -> o.takes(4, 4), -11);
    edges.refused(DeedEdges::start, "takes(1, 0)", o -> o.takes(1, 0), -14);
  }

  private void copies() {
    edges.promise(14, "p COPIES q: how many are on the LIST.");
    LoatheMatch x = fresh();
    x.years(2);
    edges.due("by an empty one", x.copies(4, 1), 3);
    edges.due("LIST", x.person(4, 2), 14);
    edges.due("YEARS", x.since(4, 1), 2);
    edges.due("of an empty one", x.copies(4, 0) * 10 + x.copies(0, 3), 21);
    edges.due("alike: it is done", x.copies(0, 3) * 10 + x.count(6), 15);

    edges.promise(14, "-11.");
    for (int bad : new int[] {-1, 5, MIN, MAX}) {
      edges.refused(DeedEdges::start, "copies(" + bad + ", 0)", o -> o.copies(bad, 0), -11);
      edges.refused(DeedEdges::start, "copies(0, " + bad + ")", o -> o.copies(0, bad), -11);
    }
    edges.refused(DeedEdges::start, "copies(1, 1)", o -> o.copies(1, 1), -11);
  }

  private void years() {
    edges.promise(15, "n YEARS (1 to 60): how many THINGS waned in all.");
    LoatheMatch x = fresh();
    edges.due("none", x.years(2), 0);
    edges.due("by two PEOPLE", x.years(1), 2);
    edges.due("60", x.years(60), 0);
    edges.due("YEARS gone by", x.count(2), 63);
    edges.due("AGE", x.person(4, 0), 153);
    LoatheMatch all = Checks.of("thing wanes 1;".repeat(14) + "person age 1 loathes 0 1 2 3 4 5 6 7 8 9 10 11 12 13;".repeat(8));
    edges.due("all of them", all.years(60), 112);
    LoatheMatch anew = Checks.of("thing wanes 2;person age 1 loathes 0;person age 1;");
    anew.wed(0, 1);
    edges.due("from one to the other and back", anew.years(4), 3);

    edges.promise(15, "-3.");
    for (int bad : new int[] {0, -1, 61, MIN, MAX}) {
      edges.refused(DeedEdges::start, "years(" + bad + ")", o -> o.years(bad), -3);
    }
  }

  private void undo() {
    edges.promise(16, "n calls (1 to 8) are UNDONE: how many still can be.");
    LoatheMatch x = start();
    edges.due("one of two", x.undo(1), 1);
    edges.due("the latest", x.count(2) * 10 + x.count(3), 1);
    edges.due("the last", x.undo(1), 0);
    edges.due("as at first", x.count(2) * 10 + x.count(3), 0);
    edges.due("both at once", start().undo(2), 0);
    LoatheMatch eight = fresh();
    for (int i = 0; i < 8; i++) {
      eight.takes(4, i % 2);
    }
    edges.due("9 of 8", eight.undo(9), -3);
    edges.due("7 of 8", eight.undo(7), 1);
    edges.due("LIST", eight.person(4, 2), 1);

    edges.promise(16, "-3: n, more than can be.");
    for (int bad : new int[] {0, -1, 3, 8, 9, MIN, MAX}) {
      edges.refused(DeedEdges::start, "undo(" + bad + ")", o -> o.undo(bad), -3);
    }
    edges.refused(DeedEdges::fresh, "undo(1)", o -> o.undo(1), -3);
  }

  private void judged(LoatheMatch x, int place, int why, int people, int good) {
    edges.due("judge(0, 0)", x.judge(0, 0), place);
    edges.due("judge(0, 1)", x.judge(0, 1), why);
    edges.due("judge(0, 2)", x.judge(0, 2), people);
    edges.due("judge(0, 3)", x.judge(0, 3), good);
  }

  private void judge() {
    edges.promise(17, "DEEDS, judged as if done, what 0: the first place that can't be (NONE), 1: why (0), "
        + "2: how many PEOPLE are wed then, 3: GOOD of all pairs that are wed then, together.");
    LoatheMatch x = fresh();
    x.numbers(0, 2, 0);
    judged(x, -1, 0, 0, 0);
    Checks.fill(x, 0, 0);
    judged(x, 0, 1, 0, 0);
    Checks.fill(x, 0, 1, 203);
    judged(x, -1, 0, 4, 3);
    Checks.fill(x, 0, 1, 203, 100, 4, 302);
    judged(x, 3, 3, 2, -4);
    Checks.fill(x, 0, 1, 2, 203);
    judged(x, 1, 2, 2, 7);
    Checks.fill(x, 0, 1100, -1, 1401, 1402, 1403, 1400);
    judged(x, 0, 4, 0, 0);
    Checks.fill(x, 0, -1, -1, -1, 1100, 1);
    judged(x, -1, 0, 2, 1);
    long[] many = new long[40];
    for (int i = 0; i < 40; i++) {
      many[i] = 1;
    }
    many[39] = 0;
    Checks.fill(x, 0, many);
    judged(x, 39, 1, 2, 7);
    edges.due("nothing is done", x.count(2) + x.count(3) + x.count(6), 0);
    x.wed(0, 1);
    x.numbers(0, 0, 0);
    judged(x, -1, 0, 2, 7);

    edges.promise(17, "-2: the TRAY, what;");
    for (int bad : new int[] {-1, 4, MIN, MAX}) {
      edges.refused(DeedEdges::start, "judge(" + bad + ", 0)", o -> o.judge(bad, 0), -2);
      edges.refused(DeedEdges::start, "judge(0, " + bad + ")", o -> o.judge(0, bad), -2);
    }

    edges.promise(17, "-6.");
    edges.refused(DeedEdges::start, "judge(2, 0)", o -> o.judge(2, 0), -6);
    edges.refused(DeedEdges::start, "judge(3, 3)", o -> o.judge(3, 3), -6);
    edges.refused(DeedEdges::start, "judge(0, 0), which is no refusal", o -> o.judge(0, 0), -1);
  }

  private void perform() {
    edges.promise(18, "They are done, till one can't be: how many.");
    LoatheMatch x = fresh();
    Checks.fill(x, 0, 1, -1, 0, -1);
    edges.due("till the third", x.perform(0), 2);
    edges.due("the fourth is not done", x.count(2), 1);
    edges.due("one call", x.count(6), 1);
    edges.due("UNDONE as a whole", x.undo(1) + x.count(2) + x.count(3), 0);
    Checks.fill(x, 0, 0, 1);
    edges.due("the first can't be", x.perform(0) + x.count(3), 0);
    x.numbers(0, 3, 0);
    edges.due("none are there", x.perform(0), 0);
    x.numbers(0, 0, 40);
    for (int i = 0; i < 40; i++) {
      x.write(0, i, -1);
    }
    edges.due("40", x.perform(0) + x.count(2), 80);

    edges.promise(18, "-2;");
    for (int bad : new int[] {-1, 4, MIN, MAX}) {
      edges.refused(DeedEdges::start, "perform(" + bad + ")", o -> o.perform(bad), -2);
    }

    edges.promise(18, "-6.");
    edges.refused(DeedEdges::start, "perform(2)", o -> o.perform(2), -6);
    edges.refused(DeedEdges::start, "perform(1) of none", o -> o.perform(1), 0);
  }

  private void season() {
    edges.promise(19, "A YEAR by a SEED: how many could be.");
    LoatheMatch one = Checks.of("thing;person age 1;");
    int could = 0;
    long x = 5;
    for (int i = 0; i < 40; i++) {
      x = 1103515245L * x + 12345 & 0xffffffffL;
      long kind = (x >>> 16) % 4;
      could += kind == 0 || kind == 2 ? 1 : 0;
      for (int j = 0; kind > 0 && j < 2; j++) {
        x = 1103515245L * x + 12345 & 0xffffffffL;
      }
    }
    edges.due("of one PERSON and one THING", one.season(5, 40), could);
    edges.due("is one call", one.count(6), 1);

    edges.promise(19, "-3: how many times;");
    for (int bad : new int[] {0, -1, 41, MIN, MAX}) {
      edges.refused(DeedEdges::start, "season(5, " + bad + ")", o -> o.season(5, bad), -3);
    }

    edges.promise(19, "-5: no THINGS, no PEOPLE.");
    edges.refused(LoatheMatch::new, "season(5, 1)", o -> o.season(5, 1), -5);
    edges.refused(LoatheMatch::new, "season(5, 41)", o -> o.season(5, 41), -3);
    edges.refused(() -> Checks.of("person age 1;person age 1;"), "season(5, 40)", o -> o.season(5, 40), -5);
    edges.refused(() -> Checks.of("thing;"), "season(5, 40)", o -> o.season(5, 40), -5);
    int seed = 0;
    while (Checks.of("thing;person age 1;").season(seed, 1) > 0) {
      seed++;
    }
    int none = seed;
    edges.refused(() -> Checks.of("thing;person age 1;"), "season(" + seed + ", 1), which could do none",
        o -> o.season(none, 1), 0);
  }
}
