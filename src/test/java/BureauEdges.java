/** Promises 1 to 10. */
final class BureauEdges {
  /** Of 4 things and 5 people; nobody may marry the last. */
  static final String TEXT = "thing;thing wanes 3;thing;thing;"
      + "person age 20 is 0 loathes 1 2;person age 30 loathes 1 2 3;person age 25 is 3 loathes 0 2;"
      + "person age 40 is 0 loathes 3;person age 90;bar 3;room 3;may : apart < 16;";
  private static final int MIN = Integer.MIN_VALUE;
  private static final int MAX = Integer.MAX_VALUE;

  private final Edges edges;

  BureauEdges(Edges edges) {
    this.edges = edges;
  }

  /** 0 and 1 wed, a year gone by; image 0, trays 0 (two deeds) and 1 (none), bytes on the tape. */
  static LoatheMatch start() {
    LoatheMatch x = Checks.of(TEXT);
    x.wed(0, 1);
    x.image(0);
    x.years(1);
    Checks.fill(x, 0, 1, -1);
    x.numbers(1, 0, 0);
    Checks.feed(x, "bar 7;");
    return x;
  }

  /** A bureau in use, and 900 bytes on the tape, of a fault at the last. */
  private static LoatheMatch fullTape() {
    LoatheMatch x = Checks.of(TEXT);
    x.wed(0, 1);
    Checks.feed(x, " ".repeat(899) + ",");
    return x;
  }

  void run() {
    newObject();
    feed();
    bureau();
    fault();
    person();
    since();
    thing();
    pair();
    good();
    may();
  }

  private void newObject() {
    edges.promise(1, "No THINGS, no PEOPLE.");
    LoatheMatch x = new LoatheMatch();
    int[] due = {0, 0, 0, 0, 10, 14, 0, 0, 0, 0};
    for (int what = 0; what < due.length; what++) {
      edges.due("count(" + what + ")", x.count(what), due[what]);
    }
    edges.due("person(0, 0)", x.person(0, 0), -2);
    edges.due("thing(0, 0)", x.thing(0, 0), -2);
    edges.due("since(0, 0)", x.since(0, 0), -2);
    edges.due("pair(0, 1, 0)", x.pair(0, 1, 0), -8);
    edges.due("good(0, 1)", x.good(0, 1), -2000000);
    edges.due("may(0, 1)", x.may(0, 1), -2);
    edges.due("wed(0, 1)", x.wed(0, 1), -11);
    edges.due("part(0)", x.part(0), -2);
    edges.due("takes(0, 0)", x.takes(0, 0), -11);
    edges.due("copies(0, 1)", x.copies(0, 1), -11);
    edges.due("matchings(0)", x.matchings(0), 1);
    edges.due("matchings(1)", x.matchings(1), 0);
    edges.due("most(0)", x.most(0), 0);
    edges.due("most(1)", x.most(1), 0);
    edges.due("stable(0)", x.stable(0), 0);
    edges.due("stable(1)", x.stable(1), 0);
    edges.due("lasting(0, 0)", x.lasting(0, 0), 0);
    edges.due("breaks()", x.breaks(), -1);
    edges.due("matchAll()", x.matchAll(), 0);
    edges.due("years(1)", x.years(1), 0);
    edges.due("dearest(0)", x.dearest(0), -2);
    edges.due("houses(1, 0)", x.houses(1, 0), 0);
    edges.due("biggest(0, 0)", x.biggest(0, 0), 0);
    edges.due("biggest(0, 1)", x.biggest(0, 1), 0);
    edges.due("peace()", x.peace(), 0);
    edges.due("angry()", x.angry(), 0);
    edges.due("lists(0)", x.lists(0), -6);
  }

  private void feed() {
    edges.promise(2, "Twenty bytes come behind those on THE TAPE, the highest of each int first: how many it has.");
    LoatheMatch x = new LoatheMatch();
    edges.due("bar 7 in the first int", x.feed(0x62617220, 0x373b6261, 0x7220383b, 0x62617220, 0x393b2020), 20);
    edges.due("how many", x.feed(0x20202020, 0x20202020, 0x20202020, 0x726f6f6d, 0x20353b20), 40);
    edges.due("all of them", x.bureau(40), 4);
    edges.due("bar of the fourth and fifth int", x.count(4), 9);
    edges.due("room, behind the first twenty", x.count(5), 5);
    LoatheMatch high = new LoatheMatch();
    high.feed(0x2020207f, 0, 0, 0, 0);
    edges.due("byte 127", high.bureau(4) * 100 + high.fault(1), -3097);
    high.feed(0x80202020, 0, 0, 0, 0);
    edges.due("byte 128", high.bureau(4) * 100 + high.fault(1), -3100);
    high.feed(-1, 0, 0, 0, 0);
    edges.due("byte 255", high.bureau(4) * 100 + high.fault(1), -3100);

    edges.promise(2, "-5: it would have more than 900.");
    LoatheMatch full = new LoatheMatch();
    for (int i = 1; i <= 45; i++) {
      edges.due("feed " + i, full.feed(0x20202020, 0x20202020, 0x20202020, 0x20202020, 0x20202020), 20 * i);
    }
    edges.due("feed 46", full.feed(0x62617220, 0x373b2020, 0, 0, 0), -5);
    edges.due("feed 47", full.feed(0, 0, 0, 0, 0), -5);
    edges.refused(BureauEdges::fullTape, "feed of more", o -> o.feed(0x62617220, 0x373b2020, 0, 0, 0), -5);
    edges.due("THE TAPE stays", full.count(7), 900);
    edges.due("with its bytes", full.bureau(900) * 10 + full.count(4), 10);
    edges.due("room again", full.feed(0, 0, 0, 0, 0), 20);
  }

  private void bureau() {
    edges.promise(3, "The first n bytes of THE TAPE (which is empty then) are THE BUREAU, nobody wed, nothing can be UNDONE:");
    LoatheMatch x = start();
    x.bureau(0);
    Checks.feed(x, "person age 1;person age 2;bar 5;");
    edges.due("the first 26 bytes", x.bureau(26), 2);
    edges.due("bar is not told", x.count(4), 10);
    edges.due("empty", x.count(7), 0);
    edges.due("nobody wed", x.count(3) + x.person(0, 3), -1);
    edges.due("nothing can be UNDONE", x.count(6) * 10 + x.undo(1), -3);
    edges.due("no YEARS gone by", x.count(2), 0);
    edges.due("no THINGS of the elder text", x.count(0) + x.count(9), 0);
    edges.due("room of the elder text is gone", x.count(5), 14);
    Checks.tell(x, "good : 5;thing;person age 1 is 0 loathes 0;person age 1 is 0 loathes 0;");
    Checks.tell(x, "thing;person age 1;person age 1;");
    edges.due("the elder good is gone", x.good(0, 1), 0);
    edges.due("who LOATHED and were a THING of the elder text", x.thing(0, 1) + x.thing(0, 3) + x.count(9), 0);
    Checks.tell(x, "may : 1 = 2;");
    edges.due("the elder may is gone", Checks.tell(x, "person age 1;person age 99;") * 10 + x.may(0, 1), 21);

    edges.promise(3, "how many LINES (all stays with a FAULT).");
    edges.due("none of none", new LoatheMatch().bureau(0), 0);
    edges.due("22", new LoatheMatch().bureau(0) + Checks.tell(x, "thing;".repeat(14) + "person age 1;".repeat(8)), 22);
    LoatheMatch y = start();
    Checks.feed(y, "person age 5 hate;");
    edges.due("a FAULT", y.bureau(40), -32);
    LoatheMatch z = start();
    for (int what = 0; what < 10; what++) {
      edges.due("count(" + what + ") stays", y.count(what), what == 7 ? 0 : z.count(what));
    }
    for (int p = 0; p < 5; p++) {
      for (int what = 0; what < 4; what++) {
        edges.due("person(" + p + ", " + what + ") stays", y.person(p, what), z.person(p, what));
      }
    }
    edges.due("good stays", y.good(0, 1), z.good(0, 1));
    edges.due("may stays", y.may(0, 4), 0);
    edges.due("what can be UNDONE stays", y.undo(2) + y.count(2) + y.count(3), 0);

    edges.promise(3, "-3: n is below 0 or above what there is (THE TAPE stays);");
    edges.refused(BureauEdges::start, "bureau(-1)", o -> o.bureau(-1), -3);
    edges.refused(BureauEdges::start, "bureau(21)", o -> o.bureau(21), -3);
    edges.refused(BureauEdges::start, "bureau(MIN)", o -> o.bureau(MIN), -3);
    edges.refused(BureauEdges::start, "bureau(MAX)", o -> o.bureau(MAX), -3);
    edges.refused(LoatheMatch::new, "bureau(1)", o -> o.bureau(1), -3);
    edges.due("all that there is", start().bureau(20), 1);

    edges.promise(3, "-30 less the FAULT.");
    String[] texts = {"bar 1,", "bar 1", "room 0;", "thing;".repeat(15)};
    for (int kind = 1; kind <= 4; kind++) {
      edges.due("FAULT " + kind, Checks.tell(new LoatheMatch(), texts[kind - 1]), -30 - kind);
    }
  }

  private void fault() {
    edges.promise(4, "Of the latest bureau() that was read, what 0: its FAULT (0), 1: its place (NONE).");
    LoatheMatch x = new LoatheMatch();
    edges.due("none was read: fault(0)", x.fault(0), 0);
    edges.due("none was read: fault(1)", x.fault(1), -1);
    Checks.tell(x, "bar 1,");
    edges.due("fault(0)", x.fault(0), 1);
    edges.due("fault(1)", x.fault(1), 5);
    edges.due("a refused one is not read", x.bureau(1), -3);
    edges.due("fault(0) stays", x.fault(0), 1);
    edges.due("fault(1) stays", x.fault(1), 5);
    Checks.tell(x, "room 0;");
    edges.due("the latest", x.fault(0) * 10 + x.fault(1), 35);
    x.bureau(0);
    edges.due("a sound one: fault(0)", x.fault(0), 0);
    edges.due("a sound one: fault(1)", x.fault(1), -1);
    x.image(0);
    Checks.tell(x, ",");
    x.restore(0);
    edges.due("no part of an IMAGE", x.fault(0) * 10 + x.fault(1), 10);

    edges.promise(4, "NONE for others.");
    for (int what : new int[] {-1, 2, MIN, MAX}) {
      edges.due("fault(" + what + ")", x.fault(what), -1);
    }
  }

  private void person() {
    edges.promise(5, "Of a PERSON, what 0: AGE, 1: THINGS it is, 2: its LIST (as bits), 3: whom it is wed to (NONE).");
    LoatheMatch x = Checks.of(TEXT);
    edges.due("AGE", x.person(4, 0), 90);
    edges.due("is none", x.person(4, 1), 0);
    edges.due("is 3", x.person(2, 1), 8);
    edges.due("an empty LIST", x.person(4, 2), 0);
    edges.due("LIST", x.person(1, 2), 14);
    edges.due("wed to nobody", x.person(0, 3), -1);
    x.wed(1, 0);
    edges.due("wed to 1", x.person(0, 3), 1);
    edges.due("wed to 0", x.person(1, 3), 0);

    edges.promise(5, "-2.");
    for (int p : new int[] {-1, 5, 8, MIN, MAX}) {
      edges.refused(BureauEdges::start, "person(" + p + ", 0)", o -> o.person(p, 0), -2);
    }
    for (int what : new int[] {-1, 4, MIN, MAX}) {
      edges.refused(BureauEdges::start, "person(0, " + what + ")", o -> o.person(0, what), -2);
    }
  }

  private void since() {
    edges.promise(6, "For how many YEARS a PERSON has LOATHED a THING.");
    LoatheMatch x = Checks.of(TEXT);
    edges.due("0 at first", x.since(0, 1), 0);
    x.years(2);
    edges.due("2", x.since(0, 1), 2);

    edges.promise(6, "NONE: it doesn't;");
    x.years(1);
    edges.due("waned", x.since(0, 1), -1);
    edges.due("it never did", x.since(4, 0), -1);
    x.takes(0, 2);
    edges.due("GIVEN UP", x.since(0, 2), -1);
    x.takes(0, 2);
    edges.due("TAKEN UP anew", x.since(0, 2), 0);

    edges.promise(6, "-2.");
    for (int bad : new int[] {-1, 5, 14, MIN, MAX}) {
      edges.refused(BureauEdges::start, "since(" + bad + ", 0)", o -> o.since(bad, 0), -2);
      edges.refused(BureauEdges::start, "since(0, " + bad + ")", o -> o.since(0, bad), -2);
    }
    edges.refused(BureauEdges::start, "since(0, 4)", o -> o.since(0, 4), -2);
  }

  private void thing() {
    edges.promise(7, "Of a THING, what 0: wanes (0: never), 1: who LOATHE it, as bits, 2: RARE, 3: who are it, as bits.");
    LoatheMatch x = Checks.of(TEXT);
    edges.due("wanes", x.thing(1, 0), 3);
    edges.due("never", x.thing(3, 0), 0);
    edges.due("who LOATHE it", x.thing(2, 1), 7);
    edges.due("RARE", x.thing(2, 2), 3);
    edges.due("who are it", x.thing(0, 3), 9);
    edges.due("nobody is it", x.thing(2, 3), 0);
    x.years(3);
    edges.due("nobody LOATHES it", x.thing(1, 1), 0);
    edges.due("RARE of it", x.thing(1, 2), 6);
    LoatheMatch all = Checks.of("thing;".repeat(14) + "person age 1 is 13 loathes 13;".repeat(8));
    edges.due("all LOATHE the last", all.thing(13, 1), 255);
    edges.due("all are the last", all.thing(13, 3), 255);

    edges.promise(7, "-2.");
    for (int bad : new int[] {-1, 4, 14, MIN, MAX}) {
      edges.refused(BureauEdges::start, "thing(" + bad + ", 0)", o -> o.thing(bad, 0), -2);
      edges.refused(BureauEdges::start, "thing(0, " + bad + ")", o -> o.thing(0, bad), -2);
    }
  }

  private void pair() {
    edges.promise(8, "Of two PEOPLE, what 0: common (how many), 1: rare, 2: insult, 3: lists, 4: apart, "
        + "5: THINGS both LOATHE, as bits.");
    LoatheMatch x = Checks.of(TEXT);
    int[] due = {1, 3, 1, 4, 5, 4};
    int[] none = {0, 0, 0, 2, 70, 0};
    for (int what = 0; what < 6; what++) {
      edges.due("pair(0, 2, " + what + ")", x.pair(0, 2, what), due[what]);
      edges.due("pair(2, 0, " + what + ")", x.pair(2, 0, what), due[what]);
      edges.due("pair(4, 0, " + what + ")", x.pair(4, 0, what), none[what]);
    }

    edges.promise(8, "-8: no such PERSON, both one, what.");
    for (int bad : new int[] {-1, 5, 8, MIN, MAX}) {
      edges.refused(BureauEdges::start, "pair(" + bad + ", 0, 0)", o -> o.pair(bad, 0, 0), -8);
      edges.refused(BureauEdges::start, "pair(0, " + bad + ", 5)", o -> o.pair(0, bad, 5), -8);
      edges.refused(BureauEdges::start, "pair(" + bad + ", " + bad + ", 5)", o -> o.pair(bad, bad, 5), -8);
    }
    for (int p = 0; p < 5; p++) {
      edges.due("pair(" + p + ", " + p + ", 5)", x.pair(p, p, 5), -8);
    }
    for (int what : new int[] {-1, 6, MIN, MAX}) {
      edges.refused(BureauEdges::start, "pair(0, 1, " + what + ")", o -> o.pair(0, 1, what), -8);
    }
  }

  private void good() {
    edges.promise(9, "GOOD.");
    LoatheMatch x = Checks.of(TEXT);
    edges.due("good(0, 1)", x.good(0, 1), 7);
    edges.due("good(1, 0)", x.good(1, 0), 7);
    edges.due("of two who MAY not", x.good(0, 4), 0);

    edges.promise(9, "-2,000,000: no such PERSON, both one.");
    for (int bad : new int[] {-1, 5, 8, MIN, MAX}) {
      edges.refused(BureauEdges::start, "good(" + bad + ", 0)", o -> o.good(bad, 0), -2000000);
      edges.refused(BureauEdges::start, "good(0, " + bad + ")", o -> o.good(0, bad), -2000000);
      edges.refused(BureauEdges::start, "good(" + bad + ", " + bad + ")", o -> o.good(bad, bad), -2000000);
    }
    edges.refused(BureauEdges::start, "good(4, 4)", o -> o.good(4, 4), -2000000);
    edges.refused(BureauEdges::start, "good(0, 0)", o -> o.good(0, 0), -2000000);
  }

  private void may() {
    edges.promise(10, "Whether they MAY marry: 1, 0.");
    LoatheMatch x = Checks.of(TEXT);
    edges.due("15 apart", x.may(2, 3), 1);
    edges.due("the other way", x.may(3, 2), 1);
    edges.due("20 apart", x.may(0, 3), 0);
    edges.due("the other way", x.may(3, 0), 0);
    x.wed(0, 1);
    edges.due("though they are wed", x.may(0, 1), 1);

    edges.promise(10, "-2: no such PERSON, both one.");
    for (int bad : new int[] {-1, 5, 8, MIN, MAX}) {
      edges.refused(BureauEdges::start, "may(" + bad + ", 0)", o -> o.may(bad, 0), -2);
      edges.refused(BureauEdges::start, "may(0, " + bad + ")", o -> o.may(0, bad), -2);
      edges.refused(BureauEdges::start, "may(" + bad + ", " + bad + ")", o -> o.may(bad, bad), -2);
    }
    edges.refused(BureauEdges::start, "may(4, 4)", o -> o.may(4, 4), -2);
    edges.refused(BureauEdges::start, "may(0, 0)", o -> o.may(0, 0), -2);
  }
}
