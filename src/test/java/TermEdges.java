/** Terms, 2 and 3: lists, what laws ask, deeds, undoing; what matchings and years to come are. */
final class TermEdges {
  private static final String TERMS = "Terms";
  private static final String TWO = "person age 7;person age 10;";

  private final Edges edges;

  TermEdges(Edges edges) {
    this.edges = edges;
  }

  void run() {
    listsOfTerms();
    laws();
    deeds();
    aYear();
    inTrays();
    undoing();
    matchings();
    byYears();
    sentAwayAndFibs();
    copiesAndHouses();
    seeds();
    traysAndImages();
    codes();
    order();
  }

  private void listsOfTerms() {
    edges.of(TERMS, "A LIST: what a PERSON LOATHES, of each THING how many YEARS (0 at first).");
    LoatheMatch told = Checks.of("thing;thing;person age 9 loathes 1;");
    edges.due("LIST", told.person(0, 2), 2);
    edges.due("YEARS", told.since(0, 1), 0);
    edges.due("not on it", told.since(0, 0), -1);

    edges.of(TERMS, "(A LIST told longer than room stays so long.)");
    LoatheMatch longer = Checks.of("room 1;thing;thing;thing;person age 1 loathes 0 1;person age 1 loathes 2;");
    edges.due("LIST", longer.person(0, 2), 3);
    longer.wed(0, 1);
    longer.years(5);
    edges.due("LIST, 5 YEARS on", longer.person(0, 2), 3);
    edges.due("nothing more", longer.takes(0, 2), -14);
    edges.due("one less", longer.takes(0, 0), 1);
    edges.due("is full still", longer.takes(0, 2), -14);

    edges.of(TERMS, "RARE is a THING by how many PEOPLE there are less how many LOATHE it, and 1.");
    LoatheMatch all = Checks.of("thing;thing;" + "person age 1 loathes 0;".repeat(8));
    edges.due("all LOATHE it", all.thing(0, 2), 1);
    edges.due("nobody LOATHES it", all.thing(1, 2), 9);
    edges.due("all rare", all.pair(0, 7, 1), 1);
    edges.due("no PEOPLE", Checks.of("thing;").thing(0, 2), 1);
    all.takes(3, 0);
    edges.due("GIVEN UP by one", all.thing(0, 2), 2);

    edges.of(TERMS, "common: how many THINGS both LOATHE, rare: how RARE these are together;");
    LoatheMatch none = Checks.of("thing;thing;person age 1 loathes 0;person age 1 loathes 1;person age 1 loathes 0 1;");
    edges.due("none common", none.pair(0, 1, 0), 0);
    edges.due("none rare", none.pair(0, 1, 1), 0);
    edges.due("one common", none.pair(0, 2, 0), 1);
    edges.due("of 3 that 2 LOATHE", none.pair(0, 2, 1), 2);

    edges.of(TERMS, "insult: how many THINGS one of both LOATHES that the other is (both ways);");
    LoatheMatch rude = Checks.of("thing;thing;person age 1 is 0 loathes 0;person age 1 loathes 0;person age 1 is 0 loathes 0 1;");
    edges.due("one way", rude.pair(0, 1, 2), 1);
    edges.due("one way, told the other way", rude.pair(1, 0, 2), 1);
    edges.due("both ways", rude.pair(0, 2, 2), 2);
    edges.due("none", Checks.of("thing;person age 1 is 0 loathes 0;person age 1;").pair(0, 1, 2), 0);

    edges.of(TERMS, "lists: how many are on both LISTS (those on both twice);");
    edges.due("1 and 2", rude.pair(1, 2, 3), 3);
    edges.due("alike", rude.pair(0, 1, 3), 2);
    edges.due("none", Checks.of(TWO).pair(0, 1, 3), 0);

    edges.of(TERMS, "apart: difference of AGES, oldest: the greater AGE; year: YEARS gone by (0 at first);");
    LoatheMatch ages = Checks.of("good : apart * 100 + oldest - year * 500;" + TWO + "person age 10;");
    edges.due("elder behind", ages.good(0, 1), 310);
    edges.due("elder ahead", ages.good(1, 0), 310);
    edges.due("none apart", ages.good(1, 2), 10);
    ages.years(1);
    edges.due("a YEAR on", ages.good(0, 1), -189);
  }

  private void good(String law, int due) {
    edges.due("good : " + law, Checks.of(TWO + "good : " + law + ";").good(0, 1), due);
  }

  private void laws() {
    String million = "(999 + 1) * (999 + 1)";
    edges.of(TERMS, "each + - * kept from -1,000,000 to 1,000,000.");
    good(million, 1000000);
    good("0 - " + million, -1000000);
    good(million + " + 1", 1000000);
    good(million + " + 1 - 1", 999999);
    good("0 - " + million + " - 1", -1000000);
    good("0 - " + million + " - 1 + 1", -999999);
    good(million + " * 2 - " + million, 0);
    good(million + " * (" + million + ")", 1000000);
    good("(0 - " + million + ") * (" + million + ")", -1000000);
    good("(0 - " + million + ") * (0 - " + million + ")", 1000000);
    good("999 * 999 * 999 - 999 * 999", 1999);
    edges.due("in may", Checks.of(TWO + "may : " + million + " + 1 = " + million + ";").may(0, 1), 1);

    edges.of(TERMS, "GOOD of them is by the law (without one: rare less insult times 2);");
    LoatheMatch x = Checks.of("thing;thing;person age 1 is 1 loathes 0;person age 9 loathes 0 1;person age 5;");
    edges.due("2 less 1 times 2", x.good(0, 1), 0);
    edges.due("of none", x.good(0, 2), 0);
    x.takes(2, 1);
    edges.due("below 0", x.good(0, 2), -2);
    edges.due("by the law", Checks.of(TWO + "good : 5;").good(1, 0), 5);

    edges.of(TERMS, "they MAY marry, if that law holds (without one: always).");
    edges.due("without one", Checks.of("person age 0;person age 99;good : 0 - 999;").may(0, 1), 1);
    edges.due("it holds", Checks.of(TWO + "may : apart = 3;").may(0, 1), 1);
    edges.due("it does not", Checks.of(TWO + "may : apart > 3;").may(0, 1), 0);
  }

  private void deeds() {
    edges.of(TERMS, "WED: two who aren't wed, and MAY; PARTED: two who are wed to one another.");
    LoatheMatch x = Checks.of("person age 1;person age 1;person age 1;person age 9;may : apart < 5;");
    edges.due("wed", x.wed(0, 1), 0);
    edges.due("the first is wed", x.wed(0, 2), -12);
    edges.due("the other is wed", x.wed(2, 1), -12);
    edges.due("both are wed to one another", x.wed(0, 1), -12);
    edges.due("they MAY not", x.wed(2, 3), -13);
    edges.due("PARTED by the other one", x.part(1), 0);
    edges.due("neither is wed", x.person(0, 3) + x.person(1, 3), -2);
    edges.due("nobody to part from", x.part(0), -5);

    edges.of(TERMS, "To TAKE UP a THING: it comes on a LIST (0 YEARS), if that has room and hasn't it; "
        + "to GIVE one UP that is on it;");
    LoatheMatch y = Checks.of("room 2;thing;thing;thing;person age 1 loathes 0;");
    y.years(3);
    edges.due("TAKEN UP", y.takes(0, 1), 2);
    edges.due("0 YEARS", y.since(0, 1), 0);
    edges.due("the other's YEARS", y.since(0, 0), 3);
    edges.due("no room", y.takes(0, 2), -14);
    edges.due("GIVEN UP though there's no room", y.takes(0, 0), 1);
    edges.due("TAKEN UP anew", y.takes(0, 0), 2);
    edges.due("0 YEARS anew", y.since(0, 0), 0);

    edges.of(TERMS, "to COPY another's LIST: one's own is as that, YEARS too.");
    LoatheMatch z = Checks.of("room 1;thing;thing;thing;person age 1 loathes 0 1;person age 1 loathes 2;person age 1;");
    z.years(4);
    edges.due("longer than room", z.copies(1, 0), 2);
    edges.due("nothing of its own", z.person(1, 2), 3);
    edges.due("YEARS", z.since(1, 0), 4);
    edges.due("an empty one", z.copies(0, 2), 0);
    edges.due("is empty", z.person(0, 2), 0);
    edges.due("the copy stays", z.person(1, 2), 3);
  }

  private void aYear() {
    edges.of(TERMS, "A YEAR: all AGES are 1 more;");
    LoatheMatch x = Checks.of("person age 0;person age 99;");
    x.years(1);
    edges.due("0", x.person(0, 0), 1);
    edges.due("99", x.person(1, 0), 100);

    edges.of(TERMS, "all THINGS on LISTS have 1 YEAR more, and are gone from it that have wanes YEARS;");
    LoatheMatch w = Checks.of("thing wanes 2;thing wanes 1;thing;person age 1 loathes 0 1 2;person age 1;");
    edges.due("wanes 1", w.years(1), 1);
    edges.due("wanes 2 is there still", w.person(0, 2), 5);
    edges.due("with 1 YEAR", w.since(0, 0), 1);
    edges.due("wanes 2", w.years(1), 1);
    edges.due("is gone", w.since(0, 0), -1);
    edges.due("never", w.years(60), 0);
    edges.due("62 YEARS", w.since(0, 2), 62);
    LoatheMatch longest = Checks.of("thing wanes 99;person age 1 loathes 0;");
    edges.due("98 YEARS", longest.years(60) + longest.years(38), 0);
    edges.due("99 YEARS", longest.years(1), 1);

    edges.of(TERMS, "then, as LISTS are by then, all at once: each who is WED takes up the least THING that the other LOATHES "
        + "and it does not, if there is room;");
    LoatheMatch gone = Checks.of("thing wanes 1;thing;person age 1 loathes 0 1;person age 1;");
    gone.wed(0, 1);
    gone.years(1);
    edges.due("what has waned does not come", gone.person(1, 2), 2);
    LoatheMatch again = Checks.of("thing wanes 2;person age 1 loathes 0;person age 1;");
    again.years(1);
    again.takes(1, 0);
    again.wed(1, 0);
    again.years(1);
    edges.due("what has waned comes again from the other", again.since(0, 0), 0);
    edges.due("which has it 1 YEAR", again.since(1, 0), 1);
    LoatheMatch once = Checks.of("thing;thing;thing;thing;person age 1 loathes 0 3;person age 1 loathes 1 2;person age 1;");
    once.wed(0, 1);
    once.years(1);
    edges.due("one THING, the least", once.person(0, 2), 11);
    edges.due("one THING, the least", once.person(1, 2), 7);
    edges.due("who is not WED takes none", once.person(2, 2), 0);
    LoatheMatch full = Checks.of("room 1;thing wanes 1;thing;person age 1 loathes 0;person age 1 loathes 1;");
    full.wed(0, 1);
    full.years(1);
    edges.due("room that came by waning", full.person(0, 2), 2);
    LoatheMatch no = Checks.of("room 1;thing;thing;person age 1 loathes 0;person age 1 loathes 1;");
    no.wed(0, 1);
    no.years(1);
    edges.due("no room", no.person(0, 2) * 10 + no.person(1, 2), 12);

    edges.of(TERMS, "YEARS gone by are 1 more.");
    edges.due("1", no.count(2), 1);
    no.years(60);
    edges.due("61", no.count(2), 61);
  }

  /** Eight people, fourteen things. */
  private static LoatheMatch full() {
    return Checks.of("thing;".repeat(14) + "person age 1;".repeat(7) + "person age 9;may : apart < 5;");
  }

  private void why(LoatheMatch x, long deed, int due) {
    x.numbers(3, 3, 1);
    x.write(3, 0, deed);
    edges.due("why not " + deed, x.judge(3, 1), due);
  }

  private void inTrays() {
    edges.of(TERMS, "100 times p, and q: WED, PARTED if they are wed to one another;");
    LoatheMatch x = full();
    why(x, 605, 0);
    why(x, 1, 0);
    Checks.fill(x, 0, 605);
    edges.due("WED", x.perform(0), 1);
    edges.due("6 is with", x.person(6, 3), 5);
    Checks.fill(x, 0, 506);
    edges.due("PARTED by the other one's number", x.perform(0), 1);
    edges.due("6 is with", x.person(6, 3), -1);

    edges.of(TERMS, "1000 and 100 times p, and a THING: TAKEN UP, GIVEN UP if it is on the LIST;");
    why(x, 1000, 0);
    Checks.fill(x, 0, 1713);
    edges.due("TAKEN UP", x.perform(0), 1);
    edges.due("LIST of 7", x.person(7, 2), 8192);
    edges.due("GIVEN UP", x.perform(0), 1);
    edges.due("LIST of 7", x.person(7, 2), 0);

    edges.of(TERMS, "2000 and 100 times p, and q: p COPIES q;");
    x.takes(7, 3);
    Checks.fill(x, 0, 2007);
    edges.due("COPIES", x.perform(0), 1);
    edges.due("LIST of 0", x.person(0, 2), 8);
    Checks.fill(x, 0, 2706);
    edges.due("COPIES an empty one", x.perform(0), 1);
    edges.due("LIST of 7", x.person(7, 2), 0);

    edges.of(TERMS, "NONE: a YEAR.");
    for (int sort = 0; sort < 4; sort++) {
      x.numbers(0, sort, 1);
      x.write(0, 0, -1);
      edges.due("in a TRAY of sort " + sort, x.perform(0), 1);
    }
    edges.due("YEARS gone by", x.count(2), 4);

    whyNot();
  }

  private void whyNot() {
    edges.of(TERMS, "Why not: 1 no such PERSON, THING, number, both one;");
    LoatheMatch x = full();
    long[] nothing = {0, 8, 99, 101, 800, 707, 899, 999, 1014, 1099, 1714, 1800, 1999, 2000, 2008, 2707, 2800, 2999, 3000, 3001,
        9999, -2, -100, -1000, 1L << 32 | 1, (1L << 32) - 1, Long.MAX_VALUE, Long.MIN_VALUE};
    for (long deed : nothing) {
      why(x, deed, 1);
    }
    edges.due("wed(8, 0)", x.wed(8, 0), -11);
    edges.due("takes(0, 14)", x.takes(0, 14), -11);
    edges.due("copies(3, 3)", x.copies(3, 3), -11);

    edges.of(TERMS, "2 one is wed (in a TRAY: to another one);");
    x.wed(0, 1);
    why(x, 2, 2);
    why(x, 201, 2);
    why(x, 1, 0);
    edges.due("wed(0, 1) by a call", x.wed(0, 1), -12);
    edges.due("wed(2, 1) by a call", x.wed(2, 1), -12);

    edges.of(TERMS, "3 they MAY not;");
    why(x, 207, 3);
    why(x, 702, 3);
    edges.due("wed(2, 7)", x.wed(2, 7), -13);

    edges.of(TERMS, "4 there's no room.");
    LoatheMatch y = Checks.of("room 1;thing;thing;person age 1 loathes 0;");
    why(y, 1001, 4);
    why(y, 1000, 0);
    edges.due("takes(0, 1)", y.takes(0, 1), -14);
  }

  private void undoing() {
    edges.of(TERMS, "Calls that did some (each part of these) can be UNDONE as a whole, the latest first, 8 at most "
        + "(eldest are forgotten): all but THE BUREAU.");
    LoatheMatch x = Checks.of("thing;thing;person age 1 loathes 0;person age 1 loathes 1;person age 3;");
    x.wed(0, 1);
    x.part(0);
    x.takes(0, 1);
    x.copies(2, 0);
    x.years(7);
    Checks.fill(x, 0, 1, -1, 2001);
    x.perform(0);
    x.matchAll();
    edges.due("seven kinds", x.count(6), 7);
    edges.due("matchAll", x.undo(1) * 10 + x.count(3), 61);
    edges.due("perform, as a whole", x.undo(1) * 100 + x.count(2) * 10 + x.count(3), 570);
    edges.due("years, as a whole", x.undo(1) * 10 + x.count(2), 40);
    edges.due("copies", x.undo(1) * 10 + x.person(2, 2), 30);
    edges.due("takes", x.undo(1) * 10 + x.person(0, 2), 21);
    edges.due("part", x.undo(1) * 10 + x.count(3), 11);
    edges.due("wed", x.undo(1) * 10 + x.count(3), 0);
    edges.due("season", x.season(7, 40) > 0 ? x.count(6) : 0, 1);
    edges.due("season, as a whole", x.undo(1) + x.count(2) + x.count(3), 0);
    for (int i = 0; i < 9; i++) {
      x.years(1);
    }
    edges.due("8 at most", x.count(6), 8);
    edges.due("all 8", x.undo(8), 0);
    edges.due("the eldest is forgotten", x.count(2), 1);
    edges.due("no more", x.undo(1), -3);
    x.years(1);
    edges.due("THE BUREAU can't be", Checks.tell(x, "bar 1;") * 10 + x.count(6), 10);
    edges.due("nothing of the elder one", x.undo(1), -3);
    doneNothing();
    manyTimesRound();
    lastOfAll();
  }

  /** The last person's last thing is undone, and restored, like all others. */
  private void lastOfAll() {
    LoatheMatch x = Checks.of("thing;".repeat(14) + "person age 1;".repeat(7) + "person age 9 loathes 13;");
    x.years(2);
    x.image(0);
    x.years(3);
    edges.due("YEARS", x.since(7, 13), 5);
    x.undo(1);
    edges.due("YEARS, UNDONE", x.since(7, 13), 2);
    x.years(1);
    x.restore(0);
    edges.due("YEARS, restored", x.since(7, 13), 2);
    edges.due("AGE, restored", x.person(7, 0), 11);
  }

  private void doneNothing() {
    LoatheMatch x = Checks.of("thing;person age 1;person age 1;");
    x.numbers(0, 0, 0);
    x.perform(0);
    edges.due("no DEEDS", x.count(6), 0);
    Checks.fill(x, 0, 0, -1);
    edges.due("none could be", x.perform(0) + x.count(6), 0);
    edges.due("refused", x.wed(0, 2) + x.count(6), -11);
    x.judge(0, 0);
    x.image(0);
    x.lists(0);
    x.feed(0, 0, 0, 0, 0);
    edges.due("no DEEDS are in these", x.count(6), 0);
    for (int i = 0; i < 8; i++) {
      x.years(1);
    }
    x.perform(0);
    edges.due("a call that did none forgets no elder one", x.undo(8) + x.count(2), 0);
  }

  /** What is kept goes round and round: more than eight, undone in part, and on. */
  private void manyTimesRound() {
    LoatheMatch x = Checks.of("person age 1;");
    int year = 0;
    for (int round = 1; round <= 12; round++) {
      for (int i = 0; i < 5; i++) {
        x.years(1);
      }
      year += 5;
      int can = x.count(6);
      int back = Math.min(3, can);
      edges.due("round " + round + ": undo", x.undo(back), can - back);
      year -= back;
      edges.due("round " + round + ": YEARS", x.count(2), year);
    }
    edges.due("as many as can be", x.count(6), 5);
    edges.due("and no more", x.undo(6), -3);
    edges.due("to the eldest", x.undo(5), 0);
    edges.due("YEARS", x.count(2), year - 5);
  }

  private void seats(String call, int[] got, int... due) {
    for (int p = 0; p < due.length; p++) {
      edges.due(call + " of " + p, got[p], due[p]);
    }
  }

  private static int[] most(LoatheMatch x) {
    int[] with = new int[x.count(1)];
    for (int p = 0; p < with.length; p++) {
      with[p] = x.most(10 + p);
    }
    return with;
  }

  private static int[] stable(LoatheMatch x) {
    int[] with = new int[x.count(1)];
    for (int p = 0; p < with.length; p++) {
      with[p] = x.stable(10 + p);
    }
    return with;
  }

  private void matchings() {
    edges.of(TERMS, "All below as LISTS are now, whoever is wed.");
    LoatheMatch x = Checks.of("thing;person age 1 loathes 0;person age 1;person age 1 loathes 0;");
    seats("most", most(x), 2, -1, 0);
    x.wed(0, 1);
    seats("most, another pair being wed", most(x), 2, -1, 0);
    seats("stable, another pair being wed", stable(x), 2, -1, 0);
    x.takes(2, 0);
    seats("most, as LISTS are now", most(x), 1, 0, -1);

    edges.of(TERMS, "A MATCHING: pairs that MAY, each PERSON in one at most.");
    LoatheMatch three = Checks.of("person age 1;person age 2;person age 3;may : apart = 1;");
    edges.due("pairs that MAY", three.matchings(1), 2);
    edges.due("each in one", three.matchings(2), 0);
    edges.due("without any", three.matchings(0), 1);

    edges.of(TERMS, "MOST: with the most pairs, of these the greatest GOOD together, of these the first "
        + "(by whom PERSON 0 is with, then 1, ..; alone behind all).");
    LoatheMatch pairs = Checks.of("thing;person age 1;person age 3 loathes 0;person age 5 loathes 0;person age 7;"
        + "may : apart < 3;good : common * 999 * 999 - 900;");
    seats("more pairs though less GOOD", most(pairs), 1, 0, 3, 2);
    edges.due("their GOOD", pairs.most(1), -1800);
    LoatheMatch even = Checks.of("person age 1;person age 2;person age 3;person age 9;good : apart;");
    seats("of like ones the first", most(even), 2, 3, 0, 1);
    edges.due("the greatest GOOD", even.most(1), 9);
    seats("all alike", most(Checks.of("person age 1;".repeat(5))), 1, 0, 3, 2, -1);
    seats("alone, if there is more GOOD", most(Checks.of("person age 1;person age 2;person age 9;good : apart;")), 2, -1, 0);
    seats("0 alone", most(Checks.of("person age 1;person age 3;person age 4;good : 9 - apart;")), -1, 2, 1);
    seats("the last of eight alone", most(Checks.of("person age 1;".repeat(7) + "person age 9;may : apart = 0;")),
        1, 0, 3, 2, 5, 4, -1, -1);

    edges.of(TERMS, "STABLE: no two who MAY would both have more GOOD by one another than as they are (alone: below all): "
        + "the first by the same order.");
    LoatheMatch worst = Checks.of("person age 1;person age 1;good : 0 - 999 * 999 * 999;");
    seats("the least GOOD is above alone", stable(worst), 1, 0);
    edges.due("its GOOD", worst.stable(1), -1000000);
    seats("all alike", stable(Checks.of("person age 1;".repeat(5))), 1, 0, 3, 2, -1);
    LoatheMatch chain = Checks.of("person age 1;person age 3;person age 4;person age 6;may : apart < 3;good : 9 - apart;");
    seats("fewer pairs than MOST", stable(chain), -1, 2, 1, -1);
    edges.due("as MOST", chain.most(0), 2);
    LoatheMatch like = Checks.of("person age 2;person age 1;person age 3;good : 9 - apart;");
    seats("as much is not more", stable(like), 1, 0, -1);
    LoatheMatch across = Checks.of("person age 1;person age 5;person age 2;person age 6;good : 9 - apart;");
    seats("each with the next but one", stable(across), 2, 3, 0, 1);
    LoatheMatch notMay = Checks.of("person age 1;person age 2;person age 9;may : apart > 5;good : 9 - apart;");
    seats("only who MAY", stable(notMay), -1, 2, 1);
  }

  private void byYears() {
    edges.of(TERMS, "HOLDS: in how many YEARS on end, from now (0 YEARS on) to 39 YEARS on, GOOD of a pair is bar or more, "
        + "they alone being wed, all others' LISTS staying as they are (RARE as LISTS are then): 0: not now.");
    String law = TWO + "bar 50;good : ";
    edges.due("just bar", Checks.of(law + "50;").holds(0, 1), 40);
    edges.due("below bar", Checks.of(law + "49;").holds(0, 1), 0);
    edges.due("now alone", Checks.of(law + "50 - year;").holds(0, 1), 1);
    edges.due("not now, but later", Checks.of(law + "49 + year;").holds(0, 1), 0);
    edges.due("till 38 YEARS on", Checks.of(law + "88 - year;").holds(0, 1), 39);
    edges.due("till 39 YEARS on", Checks.of(law + "89 - year;").holds(0, 1), 40);
    edges.due("till 40 YEARS on", Checks.of(law + "90 - year;").holds(0, 1), 40);
    edges.due("on end", Checks.of(law + "50 + (year - 2) * (year - 4);").holds(0, 1), 3);
    LoatheMatch others = Checks.of("thing wanes 3;person age 1;person age 1;person age 1 loathes 0;good : rare;bar 1;");
    others.years(2);
    others.takes(0, 0);
    others.takes(1, 0);
    edges.due("all others' LISTS stay", others.goodIn(0, 1, 1), 1);
    edges.due("till it wanes", others.holds(0, 1), 3);
    LoatheMatch then = Checks.of("thing;person age 1 loathes 0;person age 1;person age 1 loathes 0;person age 1;good : rare;");
    edges.due("RARE as LISTS are then", then.goodIn(0, 1, 1), 2);
    then.wed(0, 2);
    then.wed(1, 3);
    edges.due("they alone being wed", then.goodIn(0, 1, 1), 2);

    edges.of(TERMS, "LASTING n: a MATCHING of pairs that HOLD n or more, MOST likewise (GOOD as now).");
    LoatheMatch x = Checks.of(TWO + "person age 30;bar 50;good : 52 + apart - year;");
    edges.due("0 and 1 HOLD 6", x.holds(0, 1), 6);
    edges.due("1 and 2 HOLD 23", x.holds(1, 2), 23);
    edges.due("0 and 2 HOLD 26", x.holds(0, 2), 26);
    edges.due("26: 0 is with 2", x.lasting(26, 10), 2);
    edges.due("27: 0 is alone", x.lasting(27, 10), -1);
    edges.due("GOOD as now", x.lasting(26, 1), 75);
    LoatheMatch never = Checks.of(TWO + "bar 50;good : 0;");
    edges.due("0: all that MAY", never.lasting(0, 0), 1);
    edges.due("1: none", never.lasting(1, 0), 0);
    edges.due("0: they MAY not", Checks.of(TWO + "may : 1 = 2;").lasting(0, 0), 0);
    edges.due("40", Checks.of(TWO + "bar 1;good : 40 - year;").lasting(40, 0), 1);
  }

  private void sentAwayAndFibs() {
    edges.of(TERMS, "LEFT FOR: the fewest other PEOPLE sent away (as if they weren't there for the matching; RARE stays) "
        + "so that in MOST two are a pair; of like ones the least set as bits.");
    LoatheMatch rare = Checks.of("thing;thing;person age 1 loathes 0 1;person age 1 loathes 0;person age 1 loathes 0;"
        + "person age 1 loathes 1;");
    edges.due("RARE stays: 3 must go", rare.leftFor(0, 1, 1), 8);
    edges.due("one is enough", rare.leftFor(0, 1, 0), 1);
    edges.due("nobody must go", rare.leftFor(0, 3, 0), 0);
    edges.due("nobody, as bits", rare.leftFor(3, 0, 1), 0);
    LoatheMatch alike = Checks.of("person age 1;".repeat(8));
    edges.due("the least set", alike.leftFor(0, 2, 1), 2);
    edges.due("the last two are so", alike.leftFor(6, 7, 0), 0);
    edges.due("6 and one ahead", alike.leftFor(5, 7, 0), 2);
    edges.due("the least ahead", alike.leftFor(5, 7, 1), 65);
    LoatheMatch last = Checks.of("person age 1;person age 2;person age 3;person age 99;good : 0 - apart;"
        + "may : apart < 90 or apart > 97;");
    edges.due("the worst pair, for there are more pairs so", last.leftFor(0, 3, 0), 0);
    LoatheMatch two = Checks.of("person age 1;person age 2;person age 3;person age 4;good : 0 - apart * apart;");
    edges.due("both others", two.leftFor(0, 3, 1), 6);
    edges.due("both others", two.leftFor(0, 3, 0), 2);

    edges.of(TERMS, "A FIB: the fewest THINGS taken up (YEARS aside, room aside) by the first of two by which GOOD of them is "
        + "bar or more; of like ones the least set as bits.");
    String four = "room 1;thing;thing;thing;thing;person age 1 loathes 3;person age 1 loathes 0 1 2 3;good : common * 10;bar ";
    edges.due("just bar: none", Checks.of(four + "10;").fib(0, 1, 0), 0);
    edges.due("none, as bits", Checks.of(four + "10;").fib(0, 1, 1), 0);
    edges.due("one more", Checks.of(four + "11;").fib(0, 1, 0), 1);
    edges.due("the least set", Checks.of(four + "11;").fib(0, 1, 1), 1);
    edges.due("two", Checks.of(four + "30;").fib(0, 1, 1), 3);
    edges.due("all, room aside", Checks.of(four + "40;").fib(0, 1, 1), 7);
    edges.due("none does", Checks.of(four + "41;").fib(0, 1, 0), -1);
    edges.due("the second takes none up", Checks.of(four + "11;").fib(1, 0, 0), -1);
    LoatheMatch fewer = Checks.of("thing;thing;thing;person age 1;person age 1 loathes 0 1 2;person age 1 loathes 0 1;"
        + "person age 1 loathes 0 1;bar 2;");
    edges.due("the fewest ahead of the least set", fewer.fib(0, 1, 1), 4);
    edges.due("not what is on the LIST", Checks.of("thing;thing;thing;bar 3;person age 1 loathes 1;person age 1;good : lists;")
        .fib(0, 1, 1), 5);
    edges.due("not what is on both LISTS", Checks.of("thing;thing;bar 3;" + "person age 1 loathes 0;".repeat(2) + "good : lists;")
        .fib(0, 1, 1), 2);
    edges.due("not what is not told", Checks.of("thing;thing;bar 3;person age 1;person age 1;good : lists;").fib(0, 1, 0), -1);
    edges.due("not what only insults", Checks.of("thing;thing;bar 1;person age 1;person age 1 is 0 loathes 1;good : rare;")
        .fib(0, 1, 1), 2);
    edges.due("the last THING", Checks.of("thing;".repeat(14) + "bar 1;person age 1;person age 1 loathes 13;").fib(0, 1, 1), 8192);
    edges.due("a THING taken up is less RARE", Checks.of("thing;person age 1;person age 1 loathes 0;bar 2;").fib(0, 1, 0), -1);
  }

  private void copiesAndHouses() {
    edges.of(TERMS, "WHO COPIED: of others that one by whom most RARE (common, rare) is shared with a PERSON, the first;");
    LoatheMatch x = Checks.of("thing;thing;thing;person age 1 loathes 0 1 2;" + "person age 1 loathes 0 1;".repeat(6)
        + "person age 1 loathes 2;");
    edges.due("more RARE though fewer", x.sharer(0), 7);
    edges.due("of like ones the first", x.sharer(3), 0);
    edges.due("of like ones the first", Checks.of("thing;" + "person age 1 loathes 0;".repeat(3)).sharer(0), 1);

    edges.of(TERMS, "PIECED: the fewest other PEOPLE whose LISTS together are just the PERSON's LIST (of an empty one nobody), "
        + "of like ones the least set.");
    LoatheMatch y = Checks.of("thing;thing;thing;person age 1 loathes 0 1;person age 1 loathes 0;person age 1 loathes 1;"
        + "person age 1 loathes 0 1 2;person age 1;person age 1;person age 1 loathes 1;");
    edges.due("two", y.pieced(0, 0), 2);
    edges.due("of like ones the least set", y.pieced(0, 1), 6);
    edges.due("an empty one: nobody, though another is empty", y.pieced(4, 0), 0);
    edges.due("an empty one, as bits", y.pieced(4, 1), 0);
    edges.due("just it, no more", y.pieced(1, 0), -1);
    edges.due("just it, no less", y.pieced(3, 0), -1);

    edges.of(TERMS, "A CHILD of two gets what either LOATHES, less the one that is least RARE of these (of like ones the last).");
    LoatheMatch z = Checks.of("thing;thing;thing;person age 1 loathes 0 1;person age 1 loathes 2;person age 1 loathes 0;"
        + "person age 1;");
    edges.due("the least RARE", z.child(0, 1), 6);
    edges.due("the least RARE, told the other way", z.child(1, 0), 6);
    LoatheMatch like = Checks.of("thing;thing;thing;person age 1 loathes 0 1;person age 1 loathes 2;");
    edges.due("of like ones the last", like.child(0, 1), 3);
    edges.due("of one none", z.child(1, 3), 0);
    edges.due("of one, as RARE as can be", Checks.of("thing;person age 1 loathes 0;" + "person age 1;".repeat(7)).child(0, 1), 0);
    edges.due("of none none", Checks.of(TWO).child(0, 1), 0);

    edges.of(TERMS, "A HOUSE of n: a set of n PEOPLE who all LOATHE k THINGS or more, all the same.");
    LoatheMatch h = Checks.of("thing;thing;thing;person age 1 loathes 0 1 2;person age 1 loathes 0 1;person age 1 loathes 1 2;");
    edges.due("all the same", h.houses(2, 2), 2);
    edges.due("or more", h.houses(1, 2), 3);
    edges.due("of all", h.houses(3, 1), 1);
    edges.due("not the same", h.houses(3, 2), 0);
    edges.due("no THINGS", h.houses(2, 0), 3);

    edges.of(TERMS, "PEACE: THINGS that somebody LOATHES and another one is.");
    LoatheMatch self = Checks.of("thing;thing;person age 1 is 0 1 loathes 0 1;person age 1 is 1;");
    edges.due("not who is it alone", self.peace(), 2);
  }

  private static long nextSeed(long x) {
    return 1103515245L * x + 12345 & 0xffffffffL;
  }

  /** The same deeds one by one: each is drawn here and done by a tray. */
  private static int inSingleDeeds(LoatheMatch x, int seed, int times) {
    long drawn = seed & 0xffffffffL;
    int done = 0;
    for (int i = 0; i < times; i++) {
      drawn = nextSeed(drawn);
      int kind = (int) (drawn >>> 16) % 4;
      long deed = -1;
      if (kind > 0) {
        drawn = nextSeed(drawn);
        long p = (drawn >>> 16) % x.count(1);
        drawn = nextSeed(drawn);
        long other = (drawn >>> 16) % x.count(kind == 2 ? 0 : 1);
        deed = 1000 * (kind - 1) + 100 * p + other;
      }
      x.numbers(3, 3, 1);
      x.write(3, 0, deed);
      done += x.perform(3);
    }
    return done;
  }

  private void seeds() {
    edges.of(TERMS, "A YEAR by a SEED (x, an int; a DRAW: x becomes 1103515245 x + 12345, it is x >>> 16): "
        + "so many times (1 to 40): DRAW modulo 4: 0 a YEAR, 1 WED or PARTED by PEOPLE DRAW, DRAW modulo PEOPLE, "
        + "2 TAKEN or GIVEN UP by PERSON DRAW modulo PEOPLE THING DRAW modulo THINGS, "
        + "3 PERSON DRAW COPIES DRAW (both modulo PEOPLE); as in a TRAY, if it can be.");
    String text = "room 2;thing wanes 3;thing;thing;person age 1 loathes 0;person age 9;person age 5 loathes 1 2;"
        + "person age 6;person age 7;may : apart < 7;";
    int[] extreme = {0, 1, -1, 12345, -12345, 65535, 65536, 1 << 30, Integer.MAX_VALUE, Integer.MIN_VALUE};
    for (int seed : extreme) {
      for (int times : new int[] {1, 2, 39, 40}) {
        LoatheMatch x = Checks.of(text);
        LoatheMatch y = Checks.of(text);
        String call = "season(" + seed + ", " + times + ")";
        edges.due(call, x.season(seed, times), inSingleDeeds(y, seed, times));
        for (int p = 0; p < 5; p++) {
          for (int what = 0; what < 4; what++) {
            edges.due(call + ": person(" + p + ", " + what + ")", x.person(p, what), y.person(p, what));
          }
        }
        edges.due(call + ": YEARS gone by", x.count(2), y.count(2));
      }
    }
  }

  private void traysAndImages() {
    edges.of(TERMS, "TRAYS 0 to 3 are MISSING at first, or have 0 to 40 numbers of 8 bits (sort 0), 16 (1), 32 (2), 64 (3).");
    LoatheMatch x = new LoatheMatch();
    for (int tray = 0; tray < 4; tray++) {
      edges.due("MISSING " + tray, x.perform(tray), -6);
      edges.due("0 numbers", x.numbers(tray, tray, 0), 0);
      edges.due("none to write", x.write(tray, 0, 1), -7);
      edges.due("40 numbers", x.numbers(tray, tray, 40), 0);
      edges.due("the last", x.write(tray, 39, -2), -2);
      edges.due("none behind", x.write(tray, 40, 1), -7);
    }
    edges.due("no TRAY 4", x.perform(4), -2);
    edges.due("8 bits", x.write(0, 0, 128), -128);
    edges.due("16 bits", x.write(1, 0, 32768), -32768);
    edges.due("32 bits", x.write(2, 0, 1L << 31), Integer.MIN_VALUE);
    edges.due("64 bits", x.write(3, 0, 1L << 63), Long.MIN_VALUE);

    edges.of(TERMS, "IMAGES 0 to 1: THE BUREAU and what a call could bring back by UNDOING; "
        + "nothing can be UNDONE behind (none at first).");
    LoatheMatch y = Checks.of("thing;" + TWO + "bar 7;");
    edges.due("none at first", y.restore(0) + y.restore(1), -10);
    y.takes(0, 0);
    y.wed(0, 1);
    y.years(2);
    edges.due("made", y.image(1), 0);
    edges.due("no other is", y.restore(0), -5);
    Checks.tell(y, "bar 1;");
    edges.due("is as it was", y.restore(1), 0);
    edges.due("THE BUREAU", y.count(4), 7);
    edges.due("LIST and its YEARS", y.person(0, 2) * 10 + y.since(0, 0), 12);
    edges.due("wed", y.person(1, 3), 0);
    edges.due("YEARS gone by, AGE", y.count(2) * 100 + y.person(0, 0), 209);
    edges.due("nothing can be UNDONE", y.undo(1), -3);
    edges.due("no IMAGE 2", y.image(2), -2);
  }

  private static LoatheMatch start() {
    return BureauEdges.start();
  }

  private void codes() {
    edges.of(TERMS, "Refused calls answer by a code and change nothing: -2 there is none such; -3 a number can't be; -4 too many; "
        + "-5 it can't be now; -6 a TRAY is MISSING; -7 it has no such number; -11 to -14 why not (1 to 4); "
        + "-30 less the FAULT: a text.");
    edges.refused(TermEdges::start, "image(2)", x -> x.image(2), -2);
    edges.refused(TermEdges::start, "years(61)", x -> x.years(61), -3);
    edges.refused(TermEdges::start, "part(2)", x -> x.part(2), -5);
    edges.refused(TermEdges::start, "perform(2)", x -> x.perform(2), -6);
    edges.refused(TermEdges::start, "write(1, 0, 5)", x -> x.write(1, 0, 5), -7);
    edges.refused(TermEdges::start, "wed(0, 0)", x -> x.wed(0, 0), -11);
    edges.refused(TermEdges::start, "wed(0, 2)", x -> x.wed(0, 2), -12);
    edges.refused(TermEdges::start, "wed(2, 4)", x -> x.wed(2, 4), -13);
    edges.refused(TermEdges::start, "takes(1, 0)", x -> x.takes(1, 0), -14);
    String[] faults = {"bar 1,", "bar 1", "room 0;", "thing;".repeat(15)};
    for (int kind = 1; kind <= 4; kind++) {
      LoatheMatch x = start();
      edges.due("a text of FAULT " + kind, x.bureau(0) + Checks.tell(x, faults[kind - 1]), -30 - kind);
    }
  }

  private void order() {
    edges.of(TERMS, "(Of several that which the call tells first; all these ahead of NONE.)");
    LoatheMatch x = start();
    edges.due("wed: -11 ahead of -12", x.wed(0, 0), -11);
    edges.due("wed: -12 ahead of -13", x.wed(0, 4), -12);
    edges.due("part: -2 ahead of -5", x.part(5), -2);
    edges.due("takes: -11 ahead of -14", x.takes(1, 4), -11);
    edges.due("judge: -2 ahead of -6", x.judge(2, 4), -2);
    edges.due("season: -3 ahead of -5", new LoatheMatch().season(1, 0), -3);
    edges.due("lasting: -2 ahead of -3", x.lasting(41, 2), -2);
    edges.due("later: -2 ahead of -3", x.later(5, 61), -2);
    edges.due("biggest: -2 ahead of -3", x.biggest(15, 2), -2);
    edges.due("numbers: -2 ahead of -3", x.numbers(4, 0, 41), -2);
    edges.due("numbers: -2 of a sort ahead of -3", x.numbers(0, 4, 41), -2);
    edges.due("write: -2 ahead of -7", x.write(4, 99, 0), -2);
    edges.due("write: -6 ahead of -7", x.write(2, 99, 0), -6);
    edges.due("since: -2 ahead of NONE", x.since(0, 4), -2);
    edges.due("leftFor: -2 ahead of NONE", x.leftFor(0, 4, 2), -2);
    edges.due("which is NONE", x.leftFor(0, 4, 1), -1);
    edges.due("fib: -2 ahead of NONE", x.fib(2, 3, 2), -2);
    edges.due("which is NONE", x.fib(2, 3, 1), -1);
    edges.due("pieced: -2 ahead of NONE", x.pieced(2, 2), -2);
    edges.due("which is NONE", x.pieced(2, 1), -1);
    edges.due("byWhen: -2 ahead of NONE", x.byWhen(5, 0), -2);
    edges.due("most: -2 ahead of NONE", x.most(15), -2);

    edges.of(TERMS, "`NONE = -1`: There is none.");
    edges.due("NONE", LoatheMatch.NONE, -1);
  }
}
