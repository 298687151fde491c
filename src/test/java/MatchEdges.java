/** Promises 20 to 40. */
final class MatchEdges {
  private static final int MIN = Integer.MIN_VALUE;
  private static final int MAX = Integer.MAX_VALUE;
  private static final String EIGHT = "person age 1;".repeat(8);

  private final Edges edges;

  MatchEdges(Edges edges) {
    this.edges = edges;
  }

  private static LoatheMatch fresh() {
    return Checks.of(BureauEdges.TEXT);
  }

  private static LoatheMatch start() {
    return BureauEdges.start();
  }

  void run() {
    matchings();
    most();
    stable();
    breaks();
    matchAll();
    dearest();
    holds();
    goodIn();
    lasting();
    later();
    byWhen();
    leftFor();
    fib();
    strikes();
    sharer();
    pieced();
    child();
    houses();
    biggest();
    peace();
    angry();
  }

  private void matchings() {
    edges.promise(20, "How many MATCHINGS there are with just n pairs (0 to 4).");
    int[] due = {1, 28, 210, 420, 105};
    int[] seven = {1, 21, 105, 105, 0};
    for (int n = 0; n <= 4; n++) {
      edges.due("of eight, " + n, Checks.of(EIGHT).matchings(n), due[n]);
      edges.due("of seven, " + n, Checks.of("person age 1;".repeat(7)).matchings(n), seven[n]);
      edges.due("of nobody, " + n, new LoatheMatch().matchings(n), n == 0 ? 1 : 0);
      edges.due("of one, " + n, Checks.of("person age 1;").matchings(n), n == 0 ? 1 : 0);
      edges.due("who MAY not, " + n, Checks.of(EIGHT + "may : 1 = 2;").matchings(n), n == 0 ? 1 : 0);
    }

    edges.promise(20, "-3.");
    for (int bad : new int[] {-1, 5, MIN, MAX}) {
      edges.refused(MatchEdges::start, "matchings(" + bad + ")", o -> o.matchings(bad), -3);
    }
  }

  private void most() {
    edges.promise(21, "MOST, what 0: pairs, 1: GOOD together, 10 + p: whom PERSON p is with (NONE).");
    LoatheMatch x = fresh();
    edges.due("pairs", x.most(0), 2);
    edges.due("GOOD", x.most(1), 5);
    edges.due("0 is with", x.most(10), 2);
    edges.due("3 is with", x.most(13), 1);
    edges.due("4 is alone", x.most(14), -1);
    edges.due("8 of 8", Checks.of(EIGHT).most(17), 6);
    edges.due("four pairs at best", Checks.of(EIGHT + "good : 999 * 999 * 999;").most(1), 4000000);
    edges.due("four pairs at worst", Checks.of(EIGHT + "good : 0 - 999 * 999 * 999;").most(1), -4000000);
    edges.due("though they are at worst", Checks.of(EIGHT + "good : 0 - 999 * 999 * 999;").most(0), 4);

    edges.promise(21, "-2.");
    for (int bad : new int[] {-1, 2, 9, 15, 18, MIN, MAX}) {
      edges.refused(MatchEdges::start, "most(" + bad + ")", o -> o.most(bad), -2);
    }
    edges.due("behind 8", Checks.of(EIGHT).most(18), -2);
    edges.due("of nobody", new LoatheMatch().most(10), -2);
  }

  private void stable() {
    edges.promise(22, "STABLE, what 0: pairs, 1: GOOD together, 10 + p: whom PERSON p is with (NONE).");
    LoatheMatch x = fresh();
    edges.due("pairs", x.stable(0), 2);
    edges.due("GOOD", x.stable(1), 3);
    edges.due("0 is with", x.stable(10), 1);
    edges.due("3 is with", x.stable(13), 2);
    edges.due("4 is alone", x.stable(14), -1);
    edges.due("8 of 8", Checks.of(EIGHT).stable(17), 6);
    edges.due("at worst", Checks.of(EIGHT + "good : 0 - 999 * 999 * 999;").stable(1), -4000000);

    edges.promise(22, "-2.");
    for (int bad : new int[] {-1, 2, 9, 15, 18, MIN, MAX}) {
      edges.refused(MatchEdges::start, "stable(" + bad + ")", o -> o.stable(bad), -2);
    }
    edges.due("behind 8", Checks.of(EIGHT).stable(18), -2);
  }

  private void breaks() {
    edges.promise(23, "Two who would break what is now (all who are wed being pairs): 10 times the lesser and the other, "
        + "the first.");
    LoatheMatch x = fresh();
    edges.due("nobody is wed", x.breaks(), 1);
    x.wed(0, 2);
    edges.due("0 would rather, and 1 is alone", x.breaks(), 1);
    x.part(0);
    x.wed(1, 0);
    edges.due("who are alone", x.breaks(), 23);
    LoatheMatch last = Checks.of(EIGHT);
    last.wed(0, 1);
    last.wed(2, 3);
    last.wed(4, 5);
    edges.due("the last two", last.breaks(), 67);

    edges.promise(23, "NONE: it is STABLE.");
    x.wed(2, 3);
    edges.due("STABLE", x.breaks(), -1);
    edges.due("of nobody", new LoatheMatch().breaks(), -1);
    edges.due("of one", Checks.of("person age 1;").breaks(), -1);
    LoatheMatch one = Checks.of("person age 1;person age 2;person age 4;good : 9 - apart;");
    one.wed(0, 1);
    edges.due("1 would not, though 2 would", one.breaks(), -1);
    LoatheMatch even = Checks.of("person age 5;person age 3;person age 7;person age 12;good : 9 - apart;");
    even.wed(0, 1);
    even.wed(2, 3);
    edges.due("0 has as much by 1 as by 2, who would", even.breaks(), -1);
    LoatheMatch odd = Checks.of("person age 7;person age 3;person age 5;person age 12;good : 9 - apart;");
    odd.wed(2, 1);
    odd.wed(0, 3);
    edges.due("2 has as much by 1 as by 0, who would", odd.breaks(), -1);
    LoatheMatch no = Checks.of("person age 1;person age 2;person age 3;may : year = 0 or apart = 2;good : 9 - apart;");
    no.wed(0, 1);
    no.years(1);
    edges.due("wed, though they MAY no more", no.breaks(), -1);
    no.part(0);
    edges.due("who MAY", no.breaks(), 2);
  }

  private void matchAll() {
    edges.promise(24, "All part, and are wed as MOST tells (though it is so already): how many pairs.");
    LoatheMatch x = fresh();
    x.wed(0, 1);
    edges.due("pairs", x.matchAll(), 2);
    edges.due("0 is with 2", x.person(0, 3), 2);
    edges.due("1 is with 3", x.person(1, 3), 3);
    edges.due("though it is so already", x.matchAll(), 2);
    edges.due("each can be UNDONE", x.count(6), 3);
    edges.due("UNDONE", x.undo(2) * 10 + x.person(0, 3), 11);
    LoatheMatch no = Checks.of("person age 1;person age 2;may : year = 0;");
    no.wed(0, 1);
    no.years(1);
    edges.due("all part", no.matchAll() + no.count(3), 0);
    edges.due("of nobody", new LoatheMatch().matchAll(), 0);
    edges.due("of eight", Checks.of(EIGHT).matchAll(), 4);
  }

  private void dearest() {
    edges.promise(25, "The PERSON with most GOOD for one of those it MAY marry, the first.");
    LoatheMatch x = fresh();
    edges.due("of 0", x.dearest(0), 1);
    edges.due("of 2: 0 is ahead of others", x.dearest(2), 0);
    edges.due("of like ones the first", Checks.of(EIGHT).dearest(7), 0);
    edges.due("of like ones the first", Checks.of(EIGHT).dearest(0), 1);
    edges.due("though GOOD is at its least", Checks.of("person age 1;person age 1;good : 0 - 999 * 999 * 999;").dearest(0), 1);

    edges.promise(25, "NONE: it MAY nobody;");
    edges.due("it MAY nobody", x.dearest(4), -1);
    edges.due("of one", Checks.of("person age 1;").dearest(0), -1);

    edges.promise(25, "-2.");
    for (int bad : new int[] {-1, 5, MIN, MAX}) {
      edges.refused(MatchEdges::start, "dearest(" + bad + ")", o -> o.dearest(bad), -2);
    }
  }

  private void holds() {
    edges.promise(26, "HOLDS.");
    LoatheMatch x = fresh();
    edges.due("all the YEARS", x.holds(0, 1), 40);
    edges.due("the other way", x.holds(1, 0), 40);
    edges.due("not now", x.holds(2, 3), 0);
    edges.due("two who MAY not", Checks.of("person age 1;person age 99;bar 0;may : apart < 9;").holds(0, 1), 40);

    edges.promise(26, "-2: no such PERSON, both one.");
    for (int bad : new int[] {-1, 5, MIN, MAX}) {
      edges.refused(MatchEdges::start, "holds(" + bad + ", 0)", o -> o.holds(bad, 0), -2);
      edges.refused(MatchEdges::start, "holds(0, " + bad + ")", o -> o.holds(0, bad), -2);
    }
    edges.refused(MatchEdges::start, "holds(4, 4)", o -> o.holds(4, 4), -2);
    edges.refused(MatchEdges::start, "holds(2, 3), which changes nothing too", o -> o.holds(2, 3), 0);
  }

  private void goodIn() {
    edges.promise(27, "GOOD of two in n YEARS (0 to 60), they alone being wed, as in HOLDS.");
    LoatheMatch x = Checks.of("person age 1;person age 3;good : oldest * 10 + year;");
    edges.due("0: now", x.goodIn(0, 1, 0), 30);
    edges.due("1", x.goodIn(1, 0, 1), 41);
    edges.due("60", x.goodIn(0, 1, 60), 690);
    x.years(10);
    edges.due("60, 10 YEARS on", x.goodIn(0, 1, 60), 800);

    edges.promise(27, "-2,000,000: no such PERSON, both one, n.");
    for (int bad : new int[] {-1, 61, MIN, MAX}) {
      edges.refused(MatchEdges::start, "goodIn(0, 1, " + bad + ")", o -> o.goodIn(0, 1, bad), -2000000);
    }
    for (int bad : new int[] {-1, 5, MIN, MAX}) {
      edges.refused(MatchEdges::start, "goodIn(" + bad + ", 0, 1)", o -> o.goodIn(bad, 0, 1), -2000000);
      edges.refused(MatchEdges::start, "goodIn(0, " + bad + ", 1)", o -> o.goodIn(0, bad, 1), -2000000);
    }
    edges.refused(MatchEdges::start, "goodIn(4, 4, 0)", o -> o.goodIn(4, 4, 0), -2000000);
    edges.refused(MatchEdges::start, "goodIn(0, 4, 1), which changes nothing too", o -> o.goodIn(0, 4, 1), 3);
  }

  private void lasting() {
    edges.promise(28, "LASTING n (0 to 40), what as most().");
    LoatheMatch x = fresh();
    edges.due("0: pairs", x.lasting(0, 0), 2);
    edges.due("0: GOOD", x.lasting(0, 1), 5);
    edges.due("0: 4 is alone", x.lasting(0, 14), -1);
    edges.due("40: pairs", x.lasting(40, 0), 1);
    edges.due("40: 0 is with", x.lasting(40, 10), 1);

    edges.promise(28, "-2;");
    for (int bad : new int[] {-1, 2, 9, 15, 18, MIN, MAX}) {
      edges.refused(MatchEdges::start, "lasting(0, " + bad + ")", o -> o.lasting(0, bad), -2);
    }

    edges.promise(28, "-3: n.");
    for (int bad : new int[] {-1, 41, MIN, MAX}) {
      edges.refused(MatchEdges::start, "lasting(" + bad + ", 0)", o -> o.lasting(bad, 0), -3);
      edges.refused(MatchEdges::start, "lasting(" + bad + ", 15)", o -> o.lasting(bad, 15), -2);
    }
  }

  private void later() {
    edges.promise(29, "The LIST of a PERSON in n YEARS (0 to 60), all going on as they are wed.");
    LoatheMatch x = fresh();
    edges.due("0: now", x.later(0, 0), 6);
    edges.due("2", x.later(0, 2), 6);
    edges.due("3: one waned", x.later(0, 3), 4);
    edges.due("60", x.later(0, 60), 4);
    x.wed(0, 1);
    edges.due("wed, 1", x.later(0, 1), 14);
    edges.due("wed, 60", x.later(0, 60), 12);
    for (int n : new int[] {0, 1, 2, 3, 4, 59, 60}) {
      LoatheMatch y = fresh();
      y.wed(0, 1);
      if (n > 0) {
        y.years(n);
      }
      for (int p = 0; p < 5; p++) {
        edges.due("later(" + p + ", " + n + ") as it comes", x.later(p, n), y.person(p, 2));
      }
    }

    edges.promise(29, "-2;");
    for (int bad : new int[] {-1, 5, MIN, MAX}) {
      edges.refused(MatchEdges::start, "later(" + bad + ", 0)", o -> o.later(bad, 0), -2);
      edges.refused(MatchEdges::start, "later(" + bad + ", 61)", o -> o.later(bad, 61), -2);
    }

    edges.promise(29, "-3.");
    for (int bad : new int[] {-1, 61, MIN, MAX}) {
      edges.refused(MatchEdges::start, "later(0, " + bad + ")", o -> o.later(0, bad), -3);
    }
  }

  private static LoatheMatch slow(int wanes) {
    LoatheMatch x = Checks.of("room 1;thing wanes " + wanes + ";thing;person age 1 loathes 0;person age 1 loathes 1;");
    x.wed(0, 1);
    return x;
  }

  private void byWhen() {
    edges.promise(30, "In how many YEARS (0 to 60) so a PERSON LOATHES a THING first.");
    edges.due("0: now", slow(60).byWhen(0, 0), 0);
    edges.due("1", slow(1).byWhen(0, 1), 1);
    edges.due("59", slow(59).byWhen(0, 1), 59);
    edges.due("60", slow(60).byWhen(0, 1), 60);

    edges.promise(30, "NONE: not in these;");
    edges.due("61 is none of these", slow(61).byWhen(0, 1), -1);
    edges.due("never", slow(60).byWhen(1, 0), -1);
    LoatheMatch waned = slow(2);
    waned.years(2);
    edges.due("waned, and not again", waned.byWhen(0, 0), -1);

    edges.promise(30, "-2.");
    for (int bad : new int[] {-1, 5, MIN, MAX}) {
      edges.refused(MatchEdges::start, "byWhen(" + bad + ", 0)", o -> o.byWhen(bad, 0), -2);
      edges.refused(MatchEdges::start, "byWhen(0, " + bad + ")", o -> o.byWhen(0, bad), -2);
    }
    edges.refused(MatchEdges::start, "byWhen(0, 4)", o -> o.byWhen(0, 4), -2);
  }

  private void leftFor() {
    edges.promise(31, "LEFT FOR, what 0: how many, 1: which, as bits.");
    LoatheMatch x = fresh();
    edges.due("nobody must go", x.leftFor(0, 2, 0), 0);
    edges.due("nobody, as bits", x.leftFor(0, 2, 1), 0);
    edges.due("how many", x.leftFor(0, 1, 0), 1);
    edges.due("which", x.leftFor(0, 1, 1), 4);
    LoatheMatch six = Checks.of("person age 0;person age 10;person age 20;person age 30;person age 40;person age 50;"
        + "person age 60;person age 70;good : 0 - apart * apart;");
    edges.due("all the six others", six.leftFor(0, 7, 0), 6);
    edges.due("all, as bits", six.leftFor(7, 0, 1), 126);

    edges.promise(31, "NONE: never;");
    edges.due("never", x.leftFor(0, 3, 0), -1);
    edges.due("never, as bits", x.leftFor(0, 3, 1), -1);

    edges.promise(31, "-2: no such PERSON, both one, what.");
    for (int bad : new int[] {-1, 5, MIN, MAX}) {
      edges.refused(MatchEdges::start, "leftFor(" + bad + ", 0, 0)", o -> o.leftFor(bad, 0, 0), -2);
      edges.refused(MatchEdges::start, "leftFor(0, " + bad + ", 0)", o -> o.leftFor(0, bad, 0), -2);
    }
    for (int bad : new int[] {-1, 2, MIN, MAX}) {
      edges.refused(MatchEdges::start, "leftFor(0, 1, " + bad + ")", o -> o.leftFor(0, 1, bad), -2);
    }
    edges.refused(MatchEdges::start, "leftFor(4, 4, 0)", o -> o.leftFor(4, 4, 0), -2);
  }

  private void fib() {
    edges.promise(32, "A FIB of p to q, what 0: how many, 1: which, as bits.");
    LoatheMatch x = fresh();
    edges.due("none is needed", x.fib(0, 1, 0), 0);
    edges.due("none, as bits", x.fib(0, 1, 1), 0);
    edges.due("how many", x.fib(3, 1, 0), 0);
    edges.due("of 4 to 1", x.fib(4, 1, 0), 1);
    edges.due("of 4 to 1, as bits", x.fib(4, 1, 1), 2);
    edges.due("the bar at 0", Checks.of("bar 0;person age 1;person age 1;").fib(0, 1, 0), 0);

    edges.promise(32, "NONE: none does;");
    edges.due("none does", x.fib(1, 4, 0), -1);
    edges.due("none does, as bits", x.fib(1, 4, 1), -1);
    edges.due("no THINGS", Checks.of("bar 1;person age 1;person age 1;").fib(0, 1, 0), -1);

    edges.promise(32, "-2: no such PERSON, both one, what.");
    for (int bad : new int[] {-1, 5, MIN, MAX}) {
      edges.refused(MatchEdges::start, "fib(" + bad + ", 0, 0)", o -> o.fib(bad, 0, 0), -2);
      edges.refused(MatchEdges::start, "fib(0, " + bad + ", 0)", o -> o.fib(0, bad, 0), -2);
    }
    for (int bad : new int[] {-1, 2, MIN, MAX}) {
      edges.refused(MatchEdges::start, "fib(0, 1, " + bad + ")", o -> o.fib(0, 1, bad), -2);
    }
    edges.refused(MatchEdges::start, "fib(4, 4, 0)", o -> o.fib(4, 4, 0), -2);
  }

  private void strikes() {
    edges.promise(33, "By how much less GOOD is for two, if a PERSON's THING were struck from both LISTS.");
    LoatheMatch x = fresh();
    edges.due("on both LISTS", x.strikes(0, 1, 1), 4);
    edges.due("on both LISTS", x.strikes(1, 0, 2), 3);
    edges.due("on one LIST", x.strikes(0, 1, 3), 0);
    edges.due("on none", x.strikes(0, 1, 0), 0);
    edges.due("more GOOD", x.strikes(2, 3, 0), -2);
    edges.due("at the edge", Checks.of("thing;person age 1 loathes 0;person age 1 loathes 0;"
        + "good : common * 999 * 999 * 999 - 999 * 999 * 999 + common * 999 * 999 * 999;").strikes(0, 1, 0), 2000000);

    edges.promise(33, "-2,000,000: no such PERSON, THING, both one.");
    for (int bad : new int[] {-1, 5, MIN, MAX}) {
      edges.refused(MatchEdges::start, "strikes(" + bad + ", 0, 0)", o -> o.strikes(bad, 0, 0), -2000000);
      edges.refused(MatchEdges::start, "strikes(0, " + bad + ", 0)", o -> o.strikes(0, bad, 0), -2000000);
    }
    for (int bad : new int[] {-1, 4, 14, 32, MIN, MAX}) {
      edges.refused(MatchEdges::start, "strikes(0, 1, " + bad + ")", o -> o.strikes(0, 1, bad), -2000000);
    }
    edges.refused(MatchEdges::start, "strikes(4, 4, 0)", o -> o.strikes(4, 4, 0), -2000000);
  }

  private void sharer() {
    edges.promise(34, "WHO COPIED: the other one.");
    LoatheMatch x = fresh();
    edges.due("of 0", x.sharer(0), 1);
    edges.due("of 3", x.sharer(3), 1);

    edges.promise(34, "NONE: nobody shares any;");
    edges.due("of an empty LIST", x.sharer(4), -1);
    edges.due("of one", Checks.of("thing;person age 1 loathes 0;").sharer(0), -1);
    edges.due("nobody shares any", Checks.of("thing;thing;person age 1 loathes 0;person age 1 loathes 1;").sharer(1), -1);

    edges.promise(34, "-2.");
    for (int bad : new int[] {-1, 5, MIN, MAX}) {
      edges.refused(MatchEdges::start, "sharer(" + bad + ")", o -> o.sharer(bad), -2);
    }
  }

  private void pieced() {
    edges.promise(35, "PIECED, what 0: how many, 1: who, as bits.");
    LoatheMatch x = fresh();
    edges.due("how many", x.pieced(1, 0), 2);
    edges.due("who", x.pieced(1, 1), 9);
    edges.due("an empty one", x.pieced(4, 0), 0);
    LoatheMatch seven = Checks.of("thing;".repeat(7) + "person age 1 loathes 0 1 2 3 4 5 6;person age 1 loathes 0;"
        + "person age 1 loathes 1;person age 1 loathes 2;person age 1 loathes 3;person age 1 loathes 4;"
        + "person age 1 loathes 5;person age 1 loathes 6;");
    edges.due("all the seven others", seven.pieced(0, 0), 7);
    edges.due("all, as bits", seven.pieced(0, 1), 254);

    edges.promise(35, "NONE: by none;");
    edges.due("by none", x.pieced(2, 0), -1);
    edges.due("by none, as bits", x.pieced(2, 1), -1);
    edges.due("not by itself", seven.pieced(1, 0), -1);

    edges.promise(35, "-2.");
    for (int bad : new int[] {-1, 5, MIN, MAX}) {
      edges.refused(MatchEdges::start, "pieced(" + bad + ", 0)", o -> o.pieced(bad, 0), -2);
    }
    for (int bad : new int[] {-1, 2, MIN, MAX}) {
      edges.refused(MatchEdges::start, "pieced(1, " + bad + ")", o -> o.pieced(1, bad), -2);
    }
  }

  private void child() {
    edges.promise(36, "A CHILD's LIST, as bits.");
    LoatheMatch x = fresh();
    edges.due("of 0 and 1", x.child(0, 1), 10);
    edges.due("of 1 and 0", x.child(1, 0), 10);
    edges.due("of one THING", x.child(3, 4), 0);
    edges.due("room aside", Checks.of("room 1;thing;thing;thing;person age 1 loathes 0 1;person age 1 loathes 2;").child(0, 1), 3);

    edges.promise(36, "-2: no such PERSON, both one.");
    for (int bad : new int[] {-1, 5, MIN, MAX}) {
      edges.refused(MatchEdges::start, "child(" + bad + ", 0)", o -> o.child(bad, 0), -2);
      edges.refused(MatchEdges::start, "child(0, " + bad + ")", o -> o.child(0, bad), -2);
    }
    edges.refused(MatchEdges::start, "child(4, 4)", o -> o.child(4, 4), -2);
  }

  private void houses() {
    edges.promise(37, "How many HOUSES of n (1 to 8) with k (0 to 14) there are.");
    LoatheMatch x = fresh();
    edges.due("of 1, 0", x.houses(1, 0), 5);
    edges.due("of 5, 0", x.houses(5, 0), 1);
    edges.due("more than there are", x.houses(6, 0), 0);
    edges.due("of 2, 1", x.houses(2, 1), 4);
    LoatheMatch all = Checks.of("thing;".repeat(14) + "person age 1 loathes 0 1 2 3 4 5 6 7 8 9 10 11 12 13;".repeat(8));
    edges.due("of 8, 14", all.houses(8, 14), 1);
    edges.due("of 4, 14", all.houses(4, 14), 70);
    edges.due("of 1, 14", all.houses(1, 14), 8);
    all.takes(7, 0);
    edges.due("of 8, 14, one less", all.houses(8, 14), 0);
    edges.due("of 8, 13", all.houses(8, 13), 1);

    edges.promise(37, "-3.");
    for (int bad : new int[] {0, -1, 9, MIN, MAX}) {
      edges.refused(MatchEdges::start, "houses(" + bad + ", 0)", o -> o.houses(bad, 0), -3);
    }
    for (int bad : new int[] {-1, 15, MIN, MAX}) {
      edges.refused(MatchEdges::start, "houses(1, " + bad + ")", o -> o.houses(1, bad), -3);
    }
  }

  private void biggest() {
    edges.promise(38, "The greatest n of a HOUSE with k, what 0: n, 1: the least such set as bits.");
    LoatheMatch x = fresh();
    edges.due("0: all", x.biggest(0, 0), 5);
    edges.due("0: all, as bits", x.biggest(0, 1), 31);
    edges.due("1: n", x.biggest(1, 0), 3);
    edges.due("1: the set", x.biggest(1, 1), 7);
    edges.due("3: n", x.biggest(3, 0), 1);
    edges.due("3: the set", x.biggest(3, 1), 2);
    edges.due("4: none", x.biggest(4, 0), 0);
    edges.due("4: none, as bits", x.biggest(4, 1), 0);
    edges.due("14: none", x.biggest(14, 0), 0);
    LoatheMatch sets = Checks.of("thing;thing;person age 1 loathes 0;person age 1 loathes 1;person age 1 loathes 1;"
        + "person age 1 loathes 0;");
    edges.due("the least such set", sets.biggest(1, 1), 6);
    LoatheMatch one = Checks.of("thing;thing;person age 1 loathes 0 1;person age 1 loathes 0;");
    edges.due("PERSON 0 alone", one.biggest(2, 0) * 10 + one.biggest(2, 1), 11);
    LoatheMatch all = Checks.of("thing;".repeat(14) + "person age 1 loathes 0 1 2 3 4 5 6 7 8 9 10 11 12 13;".repeat(8));
    edges.due("14: all", all.biggest(14, 1), 255);

    edges.promise(38, "-2;");
    for (int bad : new int[] {-1, 2, MIN, MAX}) {
      edges.refused(MatchEdges::start, "biggest(0, " + bad + ")", o -> o.biggest(0, bad), -2);
      edges.refused(MatchEdges::start, "biggest(15, " + bad + ")", o -> o.biggest(15, bad), -2);
    }

    edges.promise(38, "-3: k.");
    for (int bad : new int[] {-1, 15, MIN, MAX}) {
      edges.refused(MatchEdges::start, "biggest(" + bad + ", 0)", o -> o.biggest(bad, 0), -3);
    }
  }

  private void peace() {
    edges.promise(39, "PEACE, as bits.");
    edges.due("of some", fresh().peace(), 9);
    edges.due("of nobody", new LoatheMatch().peace(), 0);
    edges.due("who is it is the only one to LOATHE it", Checks.of("thing;person age 1 is 0 loathes 0;person age 1;").peace(), 0);
    edges.due("nobody LOATHES it", Checks.of("thing;person age 1 is 0;person age 1;").peace(), 0);
    edges.due("nobody is it", Checks.of("thing;person age 1 loathes 0;person age 1;").peace(), 0);
    edges.due("all of them", Checks.of("thing;".repeat(14) + "person age 1 is 0 1 2 3 4 5 6 7 8 9 10 11 12 13;"
        + "person age 1 loathes 0 1 2 3 4 5 6 7 8 9 10 11 12 13;").peace(), 16383);
    LoatheMatch x = Checks.of("thing wanes 1;person age 1 is 0;person age 1 loathes 0;");
    edges.due("now", x.peace(), 1);
    x.years(1);
    edges.due("waned", x.peace(), 0);
  }

  private void angry() {
    edges.promise(40, "PEOPLE who LOATHE something that another one is, as bits.");
    edges.due("of some", fresh().angry(), 14);
    edges.due("of nobody", new LoatheMatch().angry(), 0);
    edges.due("what only it is", Checks.of("thing;person age 1 is 0 loathes 0;person age 1;").angry(), 0);
    edges.due("what both are", Checks.of("thing;person age 1 is 0 loathes 0;person age 1 is 0;").angry(), 1);
    edges.due("all of them", Checks.of("thing;" + "person age 1 is 0 loathes 0;".repeat(8)).angry(), 255);
  }
}
