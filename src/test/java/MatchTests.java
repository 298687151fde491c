/** Promises 20 to 40: matchings, years to come, sent away, fibs, copies, children, houses. */
public final class MatchTests {
  private final Checks checks = new Checks();

  private static LoatheMatch base() {
    return Checks.of(BureauTests.BASE);
  }

  /** Eight people who may all marry; good is 0 for all. */
  private static LoatheMatch eight() {
    return Checks.of("person age 1;".repeat(8));
  }

  private void counting() {
    LoatheMatch x = base();
    int[] due = {1, 5, 2, 0, 0};
    for (int n = 0; n < due.length; n++) {
      checks.due("matchings(" + n + ")", x.matchings(n), due[n]);
    }
    checks.due("matchings(5)", x.matchings(5), -3);
    checks.due("matchings(-1)", x.matchings(-1), -3);
    LoatheMatch all = eight();
    int[] many = {1, 28, 210, 420, 105};
    for (int n = 0; n < many.length; n++) {
      checks.due("of eight: matchings(" + n + ")", all.matchings(n), many[n]);
    }
    x.wed(0, 1);
    checks.due("whoever is wed", x.matchings(2), 2);
  }

  private void seats(String name, int[] got, int... due) {
    for (int p = 0; p < due.length; p++) {
      checks.due(name + " of " + p, got[p], due[p]);
    }
  }

  private void mostPairs() {
    LoatheMatch x = base();
    checks.due("most(0)", x.most(0), 2);
    checks.due("most(1)", x.most(1), 3);
    seats("most", new int[] {x.most(10), x.most(11), x.most(12), x.most(13)}, 2, 3, 0, 1);
    for (int what : new int[] {-1, 2, 9, 14, Integer.MIN_VALUE, Integer.MAX_VALUE}) {
      checks.due("most(" + what + ")", x.most(what), -2);
      checks.due("stable(" + what + ")", x.stable(what), -2);
      checks.due("lasting(0, " + what + ")", x.lasting(0, what), -2);
    }
    LoatheMatch all = eight();
    seats("the first of eight", new int[] {all.most(10), all.most(12), all.most(14), all.most(16)}, 1, 3, 5, 7);
    LoatheMatch three = Checks.of("person age 1;".repeat(3));
    seats("alone behind all", new int[] {three.most(10), three.most(11), three.most(12)}, 1, 0, -1);
    LoatheMatch pairs = Checks.of("thing;person age 1 loathes 0;person age 2;person age 3;person age 4 loathes 0;"
        + "good : 5 - insult;may : apart < 3;");
    checks.due("more pairs ahead of GOOD", pairs.most(0), 2);
    LoatheMatch alone = Checks.of("person age 1;person age 3;person age 4;may : apart < 3;good : 9 - apart;");
    seats("alone for more GOOD", new int[] {alone.most(10), alone.most(11), alone.most(12)}, -1, 2, 1);
    checks.due("its pairs", alone.most(0), 1);
    checks.due("its GOOD", alone.most(1), 8);
    LoatheMatch below = Checks.of("person age 1;person age 1;good : 0 - 999;");
    checks.due("a bad pair is a pair", below.most(0), 1);
    checks.due("its GOOD", below.most(1), -999);
  }

  private void stableOnes() {
    LoatheMatch x = base();
    checks.due("stable(0)", x.stable(0), 2);
    checks.due("stable(1)", x.stable(1), 1);
    seats("stable", new int[] {x.stable(10), x.stable(11), x.stable(12), x.stable(13)}, 1, 0, 3, 2);
    checks.due("breaks()", x.breaks(), 1);
    x.wed(0, 2);
    x.wed(1, 3);
    checks.due("breaks()", x.breaks(), 1);
    x.matchAll();
    checks.due("matchAll is not stable", x.breaks(), 1);
    LoatheMatch y = base();
    y.wed(0, 1);
    checks.due("who is alone breaks", y.breaks(), 23);
    y.wed(2, 3);
    checks.due("STABLE", y.breaks(), -1);
    LoatheMatch like = Checks.of("person age 1;".repeat(4));
    like.wed(0, 3);
    like.wed(1, 2);
    checks.due("no more GOOD, no break", like.breaks(), -1);
    like.part(0);
    checks.due("both must rather", like.breaks(), 3);
    LoatheMatch rather = Checks.of("person age 1;person age 3;person age 4;person age 6;good : 9 - apart;");
    seats("the first that is STABLE", new int[] {rather.stable(10), rather.stable(11), rather.stable(12), rather.stable(13)},
        3, 2, 1, 0);
    checks.due("its GOOD", rather.stable(1), 12);
    LoatheMatch even = Checks.of("person age 5;person age 3;person age 7;person age 12;good : 9 - apart;");
    even.wed(0, 1);
    even.wed(2, 3);
    checks.due("0 has as much: no break", even.breaks(), -1);
    even.part(0);
    even.part(2);
    even.wed(0, 2);
    even.wed(1, 3);
    checks.due("0 has as much by 1: no break", even.breaks(), -1);
    LoatheMatch notMay = Checks.of("person age 1;person age 2;may : year = 0;");
    notMay.wed(0, 1);
    notMay.years(1);
    notMay.part(0);
    checks.due("they MAY no more", notMay.breaks(), -1);
    checks.due("stable of none", notMay.stable(0), 0);
    checks.due("NONE", notMay.stable(10), -1);
  }

  private void matchingAll() {
    LoatheMatch x = base();
    x.wed(0, 1);
    checks.due("matchAll()", x.matchAll(), 2);
    seats("wed", new int[] {x.person(0, 3), x.person(1, 3), x.person(2, 3), x.person(3, 3)}, 2, 3, 0, 1);
    checks.due("undo(1)", x.undo(1), 1);
    checks.due("as it was", x.person(0, 3), 1);
    checks.due("of nobody", new LoatheMatch().matchAll(), 0);
  }

  private void dear() {
    LoatheMatch x = base();
    seats("dearest", new int[] {x.dearest(0), x.dearest(1), x.dearest(2), x.dearest(3)}, 1, 0, 0, 1);
    checks.due("dearest(4)", x.dearest(4), -2);
    checks.due("dearest(-1)", x.dearest(-1), -2);
    checks.due("it MAY nobody", Checks.of("person age 1;person age 2;may : 1 = 2;").dearest(0), -1);
    checks.due("of one", Checks.of("person age 1;").dearest(0), -1);
    checks.due("below 0", Checks.of("person age 1;person age 2;good : 0 - 5;").dearest(1), 0);
  }

  private void holding() {
    LoatheMatch x = base();
    checks.due("holds(0, 1)", x.holds(0, 1), 40);
    checks.due("holds(0, 2)", x.holds(0, 2), 0);
    checks.due("holds(1, 1)", x.holds(1, 1), -2);
    checks.due("holds(1, 4)", x.holds(1, 4), -2);
    int[] due = {5, 7, 7, 4, 4};
    for (int n = 0; n < due.length; n++) {
      checks.due("goodIn(0, 1, " + n + ")", x.goodIn(0, 1, n), due[n]);
      checks.due("goodIn(1, 0, " + n + ")", x.goodIn(1, 0, n), due[n]);
    }
    checks.due("goodIn 61", x.goodIn(0, 1, 61), -2000000);
    checks.due("goodIn -1", x.goodIn(0, 1, -1), -2000000);
    checks.due("goodIn both one", x.goodIn(0, 0, 1), -2000000);
    checks.due("goodIn 60", x.goodIn(0, 1, 60), 4);
    checks.due("nothing changes", x.count(2) + x.count(6), 0);
    x.wed(0, 2);
    checks.due("they alone being wed", x.goodIn(0, 1, 1), 7);
    String two = "person age 20;person age 30;bar 30;good : ";
    checks.due("till it is below bar", Checks.of(two + "35 - year;").holds(0, 1), 6);
    checks.due("AGES go on", Checks.of(two + "oldest;").goodIn(0, 1, 7), 37);
    checks.due("39 YEARS on", Checks.of(two + "69 - year;").holds(0, 1), 40);
    checks.due("38 YEARS on", Checks.of(two + "68 - year;").holds(0, 1), 39);
    checks.due("on end", Checks.of(two + "30 + (year - 3) * (year - 5);").holds(0, 1), 4);
    LoatheMatch others = Checks.of("thing wanes 2;bar 1;person age 1 loathes 0;person age 1 loathes 0;"
        + "person age 1 loathes 0;good : rare;");
    checks.due("now", others.goodIn(0, 1, 0), 1);
    checks.due("it wanes for both", others.holds(0, 1), 2);
    LoatheMatch stay = Checks.of("thing;thing wanes 1;bar 1;person age 1 loathes 0;person age 1;person age 1 loathes 0 1;"
        + "person age 1 loathes 0;");
    checks.due("RARE as LISTS are then", stay.goodIn(0, 1, 1), 1);
  }

  private void lastingOnes() {
    LoatheMatch x = base();
    checks.due("lasting(0, 0)", x.lasting(0, 0), 2);
    checks.due("lasting(1, 0)", x.lasting(1, 0), 1);
    checks.due("lasting(1, 1)", x.lasting(1, 1), 5);
    seats("lasting", new int[] {x.lasting(1, 10), x.lasting(1, 12), x.lasting(1, 13)}, 1, -1, -1);
    checks.due("lasting(40, 0)", x.lasting(40, 0), 1);
    checks.due("lasting(41, 0)", x.lasting(41, 0), -3);
    checks.due("lasting(-1, 0)", x.lasting(-1, 0), -3);
    checks.due("-2 first", x.lasting(41, 2), -2);
    LoatheMatch y = Checks.of("person age 1;person age 2;bar 5;good : 9 - year;");
    checks.due("just so long", y.lasting(5, 0), 1);
    checks.due("no longer", y.lasting(6, 0), 0);
    checks.due("GOOD as now", y.lasting(5, 1), 9);
    LoatheMatch no = Checks.of("person age 1;person age 2;bar 0;may : 1 = 2;");
    checks.due("pairs that MAY", no.lasting(0, 0), 0);
  }

  private void tastesToCome() {
    LoatheMatch x = base();
    checks.due("alone", x.later(0, 3), 4);
    checks.due("never", x.byWhen(0, 3), -1);
    x.wed(0, 1);
    int[] due = {6, 14, 14, 12, 12};
    for (int n = 0; n < due.length; n++) {
      checks.due("later(0, " + n + ")", x.later(0, n), due[n]);
    }
    checks.due("later(0, 60)", x.later(0, 60), 12);
    checks.due("later(0, 61)", x.later(0, 61), -3);
    checks.due("later(0, -1)", x.later(0, -1), -3);
    checks.due("later(4, 61)", x.later(4, 61), -2);
    checks.due("byWhen(0, 1)", x.byWhen(0, 1), 0);
    checks.due("byWhen(0, 3)", x.byWhen(0, 3), 1);
    checks.due("byWhen(0, 0)", x.byWhen(0, 0), -1);
    checks.due("byWhen(0, 4)", x.byWhen(0, 4), -2);
    checks.due("byWhen(4, 0)", x.byWhen(4, 0), -2);
    LoatheMatch slow = Checks.of("thing wanes 60;thing;room 1;person age 1 loathes 0;person age 1 loathes 1;");
    slow.wed(0, 1);
    checks.due("in 60 YEARS", slow.byWhen(0, 1), 60);
    LoatheMatch late = Checks.of("thing wanes 61;thing;room 1;person age 1 loathes 0;person age 1 loathes 1;");
    late.wed(0, 1);
    checks.due("not in these", late.byWhen(0, 1), -1);
  }

  private void sentAway() {
    LoatheMatch x = base();
    checks.due("leftFor(0, 1, 0)", x.leftFor(0, 1, 0), 1);
    checks.due("leftFor(0, 1, 1)", x.leftFor(0, 1, 1), 4);
    checks.due("leftFor(2, 3, 0)", x.leftFor(2, 3, 0), 2);
    checks.due("leftFor(3, 2, 1)", x.leftFor(3, 2, 1), 3);
    checks.due("they are already", x.leftFor(1, 3, 0), 0);
    checks.due("nobody", x.leftFor(1, 3, 1), 0);
    checks.due("never", x.leftFor(0, 3, 0), -1);
    checks.due("never", x.leftFor(0, 3, 1), -1);
    checks.due("both one", x.leftFor(0, 0, 0), -2);
    checks.due("no such", x.leftFor(0, 4, 0), -2);
    checks.due("what", x.leftFor(0, 1, 2), -2);
    checks.due("what", x.leftFor(0, 1, -1), -2);
    checks.due("the first of like ones counts", eight().leftFor(0, 2, 1), 2);
  }

  private void fibs() {
    LoatheMatch x = base();
    checks.due("fib(0, 2, 0)", x.fib(0, 2, 0), 1);
    checks.due("fib(0, 2, 1)", x.fib(0, 2, 1), 1);
    checks.due("none is needed", x.fib(0, 1, 0), 0);
    checks.due("the empty set", x.fib(0, 1, 1), 0);
    checks.due("both one", x.fib(0, 0, 0), -2);
    checks.due("no such", x.fib(4, 0, 0), -2);
    checks.due("what", x.fib(0, 1, 2), -2);
    checks.due("nothing changes", x.count(6) + x.count(9), 8);
    LoatheMatch higher = Checks.of(BureauTests.BASE + "bar 4;");
    checks.due("RARE is less by the fib", higher.fib(0, 2, 0), -1);
    checks.due("none does", higher.fib(0, 2, 1), -1);
    String things = "thing;".repeat(14);
    LoatheMatch most = Checks.of(things + "room 1;bar 14;person age 1;"
        + "person age 1 loathes 0 1 2 3 4 5 6 7 8 9 10 11 12 13;good : common;");
    checks.due("all 14, room aside", most.fib(0, 1, 0), 14);
    checks.due("as bits", most.fib(0, 1, 1), 16383);
    LoatheMatch least = Checks.of(things + "bar 2;person age 1 loathes 0;person age 1 loathes 3 5 9;good : common;");
    checks.due("the least set", least.fib(0, 1, 1), 40);
    LoatheMatch insult = Checks.of("thing;thing;bar 1;person age 1;person age 1 is 0;good : insult;");
    checks.due("an insult helps", insult.fib(0, 1, 1), 1);
    LoatheMatch liar = Checks.of("thing;thing;bar 2;person age 1 loathes 0 1;person age 1 loathes 1;person age 1;good : common;");
    checks.due("of 1 to 0", liar.fib(1, 0, 1), 1);
    checks.due("of 2 to 0", liar.fib(2, 0, 1), 3);
    checks.due("of 0 to 2", liar.fib(0, 2, 1), -1);
    LoatheMatch longer = Checks.of("thing;thing;thing;bar 3;person age 1 loathes 1;person age 1;good : lists;");
    checks.due("not what is on the LIST", longer.fib(0, 1, 1), 5);
    checks.due("nobody is any", insult.fib(1, 0, 0), -1);
    LoatheMatch rarest = Checks.of("thing;thing;thing;bar 3;person age 1;person age 1 loathes 0 1 2;person age 1 loathes 0;"
        + "person age 1 loathes 0 1;");
    checks.due("one RARE enough", rarest.fib(0, 1, 0), 1);
    checks.due("the last one", rarest.fib(0, 1, 1), 4);
  }

  private void striking() {
    LoatheMatch x = base();
    checks.due("strikes(0, 1, 2)", x.strikes(0, 1, 2), 2);
    checks.due("strikes(0, 1, 1)", x.strikes(0, 1, 1), 3);
    checks.due("on no LIST", x.strikes(0, 1, 0), 0);
    checks.due("on one LIST", x.strikes(0, 1, 3), 0);
    checks.due("more GOOD", x.strikes(2, 3, 0), -2);
    checks.due("no such THING", x.strikes(0, 1, 4), -2000000);
    checks.due("no such THING", x.strikes(0, 1, -1), -2000000);
    checks.due("both one", x.strikes(1, 1, 0), -2000000);
    checks.due("no such", x.strikes(1, 4, 0), -2000000);
    checks.due("nothing changes", x.count(9), 8);
  }

  private void sharing() {
    LoatheMatch x = base();
    seats("sharer", new int[] {x.sharer(0), x.sharer(1), x.sharer(2), x.sharer(3)}, 1, 0, 0, 1);
    checks.due("sharer(4)", x.sharer(4), -2);
    checks.due("nobody shares", Checks.of("thing;person age 1 loathes 0;person age 1;").sharer(0), -1);
    LoatheMatch rare = Checks.of("thing;thing;thing;person age 1 loathes 0 1 2;person age 1 loathes 0;"
        + "person age 1 loathes 0;person age 1 loathes 0;person age 1 loathes 2;");
    checks.due("the RAREST", rare.sharer(0), 4);
    checks.due("pieced(1, 0)", x.pieced(1, 0), 2);
    checks.due("pieced(1, 1)", x.pieced(1, 1), 9);
    checks.due("by none", x.pieced(0, 0), -1);
    checks.due("by none", x.pieced(0, 1), -1);
    checks.due("pieced(4, 0)", x.pieced(4, 0), -2);
    checks.due("pieced(0, 2)", x.pieced(0, 2), -2);
    LoatheMatch pieces = Checks.of("thing;thing;thing;person age 1 loathes 0 1;person age 1 loathes 0;person age 1 loathes 1;"
        + "person age 1 loathes 0 1;person age 1;");
    checks.due("the fewest", pieces.pieced(0, 1), 8);
    checks.due("an empty LIST: nobody", pieces.pieced(4, 0), 0);
    checks.due("an empty LIST: nobody", pieces.pieced(4, 1), 0);
    checks.due("just the LIST", pieces.pieced(1, 0), -1);
    LoatheMatch alike = Checks.of("thing;person age 1 loathes 0;person age 1 loathes 0;person age 1 loathes 0;");
    checks.due("the least set", alike.pieced(0, 1), 2);
    checks.due("the least set", alike.pieced(2, 1), 1);
  }

  private void children() {
    LoatheMatch x = base();
    checks.due("child(0, 1)", x.child(0, 1), 10);
    checks.due("child(0, 2)", x.child(0, 2), 3);
    checks.due("both one", x.child(2, 2), -2);
    checks.due("no such", x.child(2, 4), -2);
    LoatheMatch like = Checks.of("thing;thing;thing;person age 1 loathes 0;person age 1 loathes 1 2;person age 1;person age 1;");
    checks.due("of like ones the last", like.child(0, 1), 3);
    checks.due("of nothing nothing", like.child(2, 3), 0);
    checks.due("of one nothing", like.child(0, 2), 0);
  }

  private void housing() {
    LoatheMatch x = base();
    checks.due("houses(2, 1)", x.houses(2, 1), 4);
    checks.due("houses(2, 2)", x.houses(2, 2), 1);
    checks.due("houses(3, 1)", x.houses(3, 1), 1);
    checks.due("houses(2, 0)", x.houses(2, 0), 6);
    checks.due("houses(5, 0)", x.houses(5, 0), 0);
    checks.due("houses(1, 14)", x.houses(1, 14), 0);
    checks.due("houses(0, 0)", x.houses(0, 0), -3);
    checks.due("houses(9, 0)", x.houses(9, 0), -3);
    checks.due("houses(1, 15)", x.houses(1, 15), -3);
    checks.due("houses(1, -1)", x.houses(1, -1), -3);
    checks.due("biggest(1, 0)", x.biggest(1, 0), 3);
    checks.due("biggest(1, 1)", x.biggest(1, 1), 7);
    checks.due("biggest(0, 1)", x.biggest(0, 1), 15);
    checks.due("biggest(3, 1)", x.biggest(3, 1), 2);
    LoatheMatch all = Checks.of("thing;thing;person age 1 loathes 0 1;person age 1 loathes 0;");
    checks.due("all of them", all.houses(2, 1), 1);
    checks.due("0 alone", all.houses(1, 2), 1);
    checks.due("0 alone", all.biggest(2, 1), 1);
    checks.due("houses(8, 14)", x.houses(8, 14), 0);
    checks.due("biggest(14, 0)", x.biggest(14, 0), 0);
    checks.due("biggest(4, 0)", x.biggest(4, 0), 0);
    checks.due("biggest(4, 1)", x.biggest(4, 1), 0);
    checks.due("biggest(15, 0)", x.biggest(15, 0), -3);
    checks.due("biggest(-1, 0)", x.biggest(-1, 0), -3);
    checks.due("biggest(15, 2)", x.biggest(15, 2), -2);
    LoatheMatch sets = Checks.of("thing;thing;person age 1 loathes 0;person age 1 loathes 1;person age 1 loathes 1;"
        + "person age 1 loathes 0;");
    checks.due("the least such set", sets.biggest(1, 1), 6);
  }

  private void peaceAndAnger() {
    LoatheMatch x = base();
    checks.due("peace()", x.peace(), 9);
    checks.due("angry()", x.angry(), 14);
    LoatheMatch self = Checks.of("thing;person age 1 is 0 loathes 0;person age 2;");
    checks.due("another one", self.peace(), 0);
    checks.due("another one", self.angry(), 0);
    self.takes(1, 0);
    checks.due("peace()", self.peace(), 1);
    checks.due("angry()", self.angry(), 2);
    LoatheMatch first = Checks.of("thing;person age 1 loathes 0;person age 2 is 0;");
    checks.due("0 is angry", first.angry(), 1);
    checks.due("peace()", first.peace(), 1);
    checks.due("of nobody", new LoatheMatch().peace() + new LoatheMatch().angry(), 0);
  }

  public static void main(String[] args) {
    MatchTests tests = new MatchTests();
    tests.counting();
    tests.mostPairs();
    tests.stableOnes();
    tests.matchingAll();
    tests.dear();
    tests.holding();
    tests.lastingOnes();
    tests.tastesToCome();
    tests.sentAway();
    tests.fibs();
    tests.striking();
    tests.sharing();
    tests.children();
    tests.housing();
    tests.peaceAndAnger();
    tests.checks.end("matchings and what comes of them");
  }
}
