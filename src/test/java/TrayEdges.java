/** Promises 41 to 46. */
final class TrayEdges {
  private static final int MIN = Integer.MIN_VALUE;
  private static final int MAX = Integer.MAX_VALUE;

  private final Edges edges;

  TrayEdges(Edges edges) {
    this.edges = edges;
  }

  private static LoatheMatch start() {
    return BureauEdges.start();
  }

  void run() {
    numbers();
    write();
    lists();
    image();
    restore();
    count();
  }

  private void numbers() {
    edges.promise(41, "A TRAY has n numbers of a sort, all 0 (in place of another one): 0.");
    LoatheMatch x = new LoatheMatch();
    for (int tray = 0; tray < 4; tray++) {
      edges.due("numbers(" + tray + ", " + tray + ", 40)", x.numbers(tray, tray, 40), 0);
      edges.due("the last", x.write(tray, 39, -1), -1);
      edges.due("numbers(" + tray + ", 0, 0)", x.numbers(tray, 0, 0), 0);
      edges.due("none is there", x.write(tray, 0, 1), -7);
    }
    LoatheMatch y = Checks.of("person age 1;person age 1;");
    y.numbers(0, 3, 40);
    for (int i = 0; i < 40; i++) {
      y.write(0, i, -1);
    }
    edges.due("all can be", y.judge(0, 0), -1);
    y.numbers(0, 3, 40);
    for (int i = 0; i < 40; i++) {
      edges.due("place " + i + " is 0, which can't be", y.judge(0, 0), i);
      y.write(0, i, -1);
    }
    y.numbers(0, 0, 1);
    edges.due("in place of another one: another sort", y.write(0, 0, 300), 44);
    edges.due("as many", y.write(0, 1, 1), -7);

    edges.promise(41, "-2: no such TRAY, sort;");
    for (int bad : new int[] {-1, 4, MIN, MAX}) {
      edges.refused(TrayEdges::start, "numbers(" + bad + ", 0, 1)", o -> o.numbers(bad, 0, 1), -2);
      edges.refused(TrayEdges::start, "numbers(0, " + bad + ", 1)", o -> o.numbers(0, bad, 1), -2);
      edges.refused(TrayEdges::start, "numbers(2, " + bad + ", 1)", o -> o.numbers(2, bad, 1), -2);
    }

    edges.promise(41, "-3, and the TRAY stays: n is below 0 or above 40.");
    for (int bad : new int[] {-1, 41, MIN, MAX}) {
      edges.refused(TrayEdges::start, "numbers(0, 0, " + bad + ")", o -> o.numbers(0, 0, bad), -3);
      edges.refused(TrayEdges::start, "numbers(1, 0, " + bad + ")", o -> o.numbers(1, 0, bad), -3);
      edges.refused(TrayEdges::start, "numbers(2, 0, " + bad + "): MISSING still", o -> o.numbers(2, 0, bad), -3);
    }
    LoatheMatch z = new LoatheMatch();
    z.numbers(0, 0, 2);
    edges.due("refused", z.numbers(0, 3, 41), -3);
    edges.due("the sort stays", z.write(0, 1, 256), 0);
    edges.due("its places stay", z.write(0, 2, 1), -7);
  }

  private void written(int sort, long v, long due) {
    LoatheMatch x = new LoatheMatch();
    x.numbers(1, sort, 3);
    edges.due("write(1, 2, " + v + ") of sort " + sort, x.write(1, 2, v), due);
  }

  private void write() {
    edges.promise(42, "Number i of a TRAY is v, cut to its sort: as it is there.");
    long[] same = {0, 1, -1, 127, -128};
    for (int sort = 0; sort < 4; sort++) {
      for (long v : same) {
        written(sort, v, v);
      }
    }
    written(0, 128, -128);
    written(0, 255, -1);
    written(0, 256, 0);
    written(0, -129, 127);
    written(0, Long.MIN_VALUE, 0);
    written(0, Long.MAX_VALUE, -1);
    written(1, 128, 128);
    written(1, 32767, 32767);
    written(1, 32768, -32768);
    written(1, 65535, -1);
    written(1, 65536, 0);
    written(1, -32769, 32767);
    written(2, 65536, 65536);
    written(2, Integer.MAX_VALUE, Integer.MAX_VALUE);
    written(2, 1L << 31, Integer.MIN_VALUE);
    written(2, (1L << 32) - 1, -1);
    written(2, 1L << 32, 0);
    written(3, 1L << 32, 1L << 32);
    written(3, Long.MAX_VALUE, Long.MAX_VALUE);
    written(3, Long.MIN_VALUE, Long.MIN_VALUE);
    LoatheMatch x = Checks.of("person age 1;person age 1;");
    x.numbers(0, 0, 2);
    x.write(0, 0, 255);
    edges.due("the number that is there is cut: a YEAR", x.judge(0, 0), 1);
    x.write(0, 1, 257);
    edges.due("and WED", x.judge(0, 2), 2);
    x.numbers(1, 1, 1);
    x.write(1, 0, 257);
    edges.due("no number of a deed", x.judge(1, 1), 1);

    edges.promise(42, "-2: no such TRAY;");
    for (int bad : new int[] {-1, 4, MIN, MAX}) {
      edges.refused(TrayEdges::start, "write(" + bad + ", 0, 1)", o -> o.write(bad, 0, 1), -2);
    }

    edges.promise(42, "-6;");
    edges.refused(TrayEdges::start, "write(2, 0, 1)", o -> o.write(2, 0, 1), -6);
    edges.refused(TrayEdges::start, "write(3, -1, 1)", o -> o.write(3, -1, 1), -6);

    edges.promise(42, "-7.");
    for (int bad : new int[] {-1, 2, 40, MIN, MAX}) {
      edges.refused(TrayEdges::start, "write(0, " + bad + ", 1)", o -> o.write(0, bad, 1), -7);
    }
    edges.refused(TrayEdges::start, "write(1, 0, 1) of no places", o -> o.write(1, 0, 1), -7);
  }

  private void lists() {
    edges.promise(43, "LISTS of PEOPLE, as bits, come into a TRAY, as many as it has places: how many.");
    String text = "thing;".repeat(14) + "person age 1 loathes 0;person age 1 loathes 0;person age 1 loathes 0 13;";
    LoatheMatch x = Checks.of(text);
    x.numbers(0, 2, 0);
    edges.due("no places", x.lists(0), 0);
    x.numbers(0, 2, 1);
    edges.due("one place", x.lists(0), 1);
    x.numbers(0, 2, 2);
    edges.due("two places", x.lists(0), 2);
    edges.due("LIST 1 is WED 0 and 1, then they part", x.judge(0, 0) + x.judge(0, 2), -1);
    x.numbers(0, 2, 3);
    edges.due("three places", x.lists(0), 3);
    edges.due("LIST 8193 is no deed", x.judge(0, 0), 2);
    x.numbers(0, 2, 40);
    x.write(0, 3, -1);
    edges.due("more places than PEOPLE", x.lists(0), 3);
    x.write(0, 2, -1);
    edges.due("the places behind stay", x.judge(0, 0), 4);
    x.numbers(0, 0, 3);
    x.lists(0);
    edges.due("cut to 8 bits: WED again", x.judge(0, 0) * 10 + x.judge(0, 2), -8);
    x.numbers(0, 1, 3);
    x.lists(0);
    edges.due("not cut in 16", x.judge(0, 0), 2);
    LoatheMatch nobody = new LoatheMatch();
    nobody.numbers(0, 0, 40);
    edges.due("no PEOPLE", nobody.lists(0), 0);
    edges.due("no deed", x.count(6), 0);

    edges.promise(43, "-2;");
    for (int bad : new int[] {-1, 4, MIN, MAX}) {
      edges.refused(TrayEdges::start, "lists(" + bad + ")", o -> o.lists(bad), -2);
    }

    edges.promise(43, "-6.");
    edges.refused(TrayEdges::start, "lists(2)", o -> o.lists(2), -6);
    edges.refused(TrayEdges::start, "lists(1) of no places", o -> o.lists(1), 0);
  }

  private void image() {
    edges.promise(44, "An IMAGE is made: 0.");
    LoatheMatch x = start();
    edges.due("image(0), in place of another one", x.image(0), 0);
    edges.due("image(1)", x.image(1), 0);
    edges.due("what can be UNDONE stays", x.count(6), 2);
    x.undo(2);
    x.image(0);
    x.restore(1);
    edges.due("IMAGE 1", x.count(2), 1);
    x.restore(0);
    edges.due("IMAGE 0, the latest", x.count(2), 0);

    edges.promise(44, "-2.");
    for (int bad : new int[] {-1, 2, MIN, MAX}) {
      edges.refused(TrayEdges::start, "image(" + bad + ")", o -> o.image(bad), -2);
    }
    LoatheMatch empty = new LoatheMatch();
    edges.due("of a new object", empty.image(0), 0);
    Checks.tell(empty, "thing;bar 1;");
    edges.due("restored", empty.restore(0) + empty.count(0), 0);
    edges.due("its bar", empty.count(4), 10);
  }

  private void restore() {
    edges.promise(45, "All that is in an IMAGE is as it was: 0.");
    LoatheMatch x = start();
    x.takes(4, 0);
    x.part(0);
    edges.due("restore(0)", x.restore(0), 0);
    edges.due("wed", x.person(0, 3), 1);
    edges.due("YEARS gone by, of a LIST", x.count(2) * 10 + x.since(0, 1), 0);
    edges.due("LISTS", x.person(4, 2), 0);
    edges.due("AGES", x.person(4, 0), 90);
    edges.due("nothing can be UNDONE", x.count(6) * 10 + x.undo(1), -3);
    edges.due("THE TAPE is in none", x.count(7), 20);
    edges.due("TRAYS are in none", x.judge(0, 0) * 10 + x.judge(2, 0), -16);
    x.years(1);
    edges.due("an IMAGE stays", x.restore(0) + x.count(2), 0);
    Checks.tell(x, "bar 9;");
    edges.due("LINES behind another BUREAU", x.restore(0) + x.count(8), 12);

    edges.promise(45, "-2;");
    for (int bad : new int[] {-1, 2, MIN, MAX}) {
      edges.refused(TrayEdges::start, "restore(" + bad + ")", o -> o.restore(bad), -2);
    }

    edges.promise(45, "-5: none was made.");
    edges.refused(TrayEdges::start, "restore(1)", o -> o.restore(1), -5);
    edges.refused(LoatheMatch::new, "restore(0)", o -> o.restore(0), -5);
  }

  private void count() {
    edges.promise(46, "0 THINGS, 1 PEOPLE, 2 YEARS gone by, 3 pairs that are wed, 4 bar, 5 room, 6 calls that can be UNDONE, "
        + "7 bytes on THE TAPE, 8 LINES, 9 THINGS on all LISTS.");
    LoatheMatch x = start();
    int[] due = {4, 5, 1, 1, 3, 3, 2, 20, 12, 9};
    for (int what = 0; what < due.length; what++) {
      edges.due("count(" + what + ")", x.count(what), due[what]);
    }
    LoatheMatch all = Checks.of("thing;".repeat(14) + "person age 1 loathes 0 1 2 3 4 5 6 7 8 9 10 11 12 13;".repeat(8));
    int[] most = {14, 8, 60, 4, 10, 14, 2, 0, 22, 112};
    all.matchAll();
    all.years(60);
    for (int what = 0; what < most.length; what++) {
      edges.due("all full: count(" + what + ")", all.count(what), most[what]);
    }

    edges.promise(46, "NONE for others.");
    for (int what : new int[] {-1, 10, 11, MIN, MAX}) {
      edges.due("count(" + what + ")", x.count(what), -1);
    }
  }
}
