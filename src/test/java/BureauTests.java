/** Promises 1 to 10: the tape, texts and their faults, what a bureau tells. */
public final class BureauTests {
  static final String BASE = "thing;thing wanes 3;thing;thing;"
      + "person age 20 is 0 loathes 1 2;"
      + "person age 30 loathes 1 2 3;"
      + "person age 25 is 3 loathes 0 2;"
      + "person age 40 is 0 loathes 3;"
      + "bar 3;room 3;may : apart < 16;";

  private final Checks checks = new Checks();

  private void newObject() {
    LoatheMatch x = new LoatheMatch();
    int[] first = {0, 0, 0, 0, 10, 14, 0, 0, 0, 0};
    for (int what = 0; what < first.length; what++) {
      checks.due("new: count(" + what + ")", x.count(what), first[what]);
    }
    checks.due("new: person(0, 0)", x.person(0, 0), -2);
    checks.due("new: thing(0, 0)", x.thing(0, 0), -2);
    checks.due("new: breaks()", x.breaks(), -1);
    checks.due("new: houses(1, 0)", x.houses(1, 0), 0);
    checks.due("NONE", LoatheMatch.NONE, -1);
  }

  private void feeding() {
    LoatheMatch x = new LoatheMatch();
    for (int i = 1; i <= 45; i++) {
      checks.due("feed " + i, x.feed(0x20202020, 0x20202020, 0x20202020, 0x20202020, 0x20202020), 20 * i);
    }
    checks.due("feed 46", x.feed(0, 0, 0, 0, 0), -5);
    checks.due("count(7)", x.count(7), 900);
    checks.due("bureau(901)", x.bureau(901), -3);
    checks.due("bureau(-1)", x.bureau(-1), -3);
    checks.due("the tape stays", x.count(7), 900);
    checks.due("bureau(900) of blanks", x.bureau(900), 0);
    checks.due("the tape is empty", x.count(7), 0);
    x.feed(0x62617220, 0x373b2020, 0x20202020, 0x20202020, 0x20202020);
    checks.due("the highest byte first: 'bar 7;'", x.bureau(6), 1);
    checks.due("its bar", x.count(4), 7);
    Checks.feed(x, "room 5;bar 9;");
    checks.due("the first 7 bytes", x.bureau(7), 1);
    checks.due("room", x.count(5), 5);
    checks.due("bar is told no more", x.count(4), 10);
    checks.due("what is behind is gone", x.feed(0, 0, 0, 0, 0), 20);
    checks.due("bureau(0)", x.bureau(0), 0);
    checks.due("empties THE TAPE", x.count(7), 0);
    checks.due("bureau(0) of an empty TAPE", x.bureau(0), 0);
    Checks.feed(x, "bar 12;");
    checks.due("a number is cut", x.bureau(5), -32);
    checks.due("where the text ends", x.fault(1), 5);
    Checks.feed(x, "bar 1234;");
    checks.due("what is cut off is no digit", x.bureau(6), -32);
    checks.due("where the text ends", x.fault(1), 6);
    Checks.feed(x, "thinga");
    checks.due("a word is cut", x.bureau(5), -32);
    checks.due("where the text ends", x.fault(1), 5);
    checks.due("900 bytes, a word at the end", Checks.tell(x, " ".repeat(895) + "thing"), -32);
    checks.due("at 900", x.fault(1), 900);
    checks.due("900 bytes, a number at the end", Checks.tell(x, " ".repeat(895) + "bar 1"), -32);
    checks.due("at 900", x.fault(1), 900);
    checks.due("900 bytes of a law", Checks.tell(x, "good:" + "1+".repeat(446) + "1 ;"), 1);
    checks.due("with two more", Checks.tell(x, "person age 1;person age 1;good:" + "1+".repeat(433) + "1;"), 3);
    checks.due("GOOD by a long law", x.good(0, 1), 434);
  }

  private void reading() {
    LoatheMatch x = Checks.of(BASE);
    checks.due("LINES", x.count(8), 11);
    x.wed(0, 1);
    x.years(4);
    checks.due("a text of none", Checks.tell(x, " \n "), 0);
    checks.due("no PEOPLE", x.count(1), 0);
    checks.due("nothing can be UNDONE", x.count(6), 0);
    checks.due("no YEARS gone by", x.count(2), 0);
    Checks.tell(x, BASE);
    x.wed(0, 1);
    x.years(1);
    checks.due("a text with a fault", Checks.tell(x, "thing;hate;"), -32);
    checks.due("all stays: THINGS", x.count(0), 4);
    checks.due("all stays: wed", x.person(0, 3), 1);
    checks.due("all stays: UNDO", x.count(6), 2);
    checks.due("all stays: LINES", x.count(8), 11);
    checks.due("THE TAPE is empty", x.count(7), 0);
    Checks.tell(x, BASE);
    checks.due("nobody wed", x.person(0, 3), -1);
    checks.due("LISTS as told", x.person(0, 2), 6);
    checks.due("since told", x.since(0, 1), 0);
    Checks.tell(x, "good : 7;may : 1 = 2;room 2;bar 5;thing;person age 5 is 0 loathes 0;person age 6 is 0 loathes 0;");
    checks.due("a law", x.good(0, 1), 7);
    Checks.tell(x, "thing;person age 5;person age 6;");
    checks.due("nothing of an elder text: good", x.good(0, 1), 0);
    checks.due("nothing of an elder text: may", x.may(0, 1), 1);
    checks.due("nothing of an elder text: bar", x.count(4), 10);
    checks.due("nothing of an elder text: room", x.count(5), 14);
    checks.due("nothing of an elder text: is", x.person(0, 1), 0);
    checks.due("nothing of an elder text: LIST", x.person(0, 2), 0);
    checks.due("nothing of an elder text: who", x.thing(0, 1), 0);
    checks.due("nothing of an elder text: LISTS", x.count(9), 0);
    Checks.tell(x, "hate;");
    checks.due("a fault", x.fault(1), 0);
    checks.due("the fault stays", x.bureau(99), -3);
    checks.due("the fault stays", x.fault(0), 2);
    Checks.tell(x, "bar 1;");
    checks.due("no fault any more", x.fault(0), 0);
    checks.due("no place", x.fault(1), -1);
  }

  private void fault(String text, int kind, int place) {
    LoatheMatch x = new LoatheMatch();
    int answer = Checks.tell(x, text);
    if (kind == 0) {
      checks.due("sound: " + text, Math.min(answer, 0), 0);
    } else {
      checks.due("bureau: " + text, answer, -30 - kind);
    }
    checks.due("fault(0): " + text, x.fault(0), kind);
    checks.due("fault(1): " + text, x.fault(1), place);
    checks.due("fault(2)", x.fault(2), -1);
    checks.due("fault(-1)", x.fault(-1), -1);
  }

  private void tokens() {
    fault("bar 1000;", 1, 4);
    fault("bar 0001;", 1, 4);
    fault("bar 999;", 0, -1);
    fault("bar 007;", 0, -1);
    fault("bar\n1\n;", 0, -1);
    fault("bar\t1;", 1, 3);
    fault("Bar 1;", 1, 0);
    fault("bar 1,", 1, 5);
    fault("bar 1;\u00e9", 1, 6);
    fault("bar 1;\u0000", 1, 6);
    fault("bar1;", 0, -1);
    fault("bar 1", 2, 5);
    fault("bar 1  \n", 2, 8);
    fault("bar", 2, 3);
    fault(";", 2, 0);
    fault("bar 1;;", 2, 6);
    fault("bars 1;", 2, 0);
    fault("ba r 1;", 2, 0);
    fault("far 1;", 2, 0);
    fault("z;", 2, 0);
    fault("a;", 2, 0);
    fault("bar 9;`", 1, 6);
    fault("bar 9;{", 1, 6);
    fault("bar 9;/", 1, 6);
    fault("bar 0;:", 2, 6);
    fault("room 15,", 3, 5);
    fault("room 15 1000;", 3, 5);
    fault("thing;person age 1 is 1,", 3, 22);
    fault("person age 1is 0;", 3, 15);
  }

  private void linesAndBounds() {
    fault("thing wanes 1;", 0, -1);
    fault("thing wanes 99;", 0, -1);
    fault("thing wanes 0;", 3, 12);
    fault("thing wanes 100;", 3, 12);
    fault("thing wanes;", 2, 11);
    fault("thing 1;", 2, 6);
    fault("person;", 2, 6);
    fault("person age;", 2, 10);
    fault("person age 0;person age 99;", 0, -1);
    fault("person age 100;", 3, 11);
    fault("person age 1 is 0;", 3, 16);
    fault("person age 1 is 0;thing;", 3, 16);
    fault("thing;person age 1 is 0 0 loathes 0 0;", 0, -1);
    fault("thing;person age 1 is;", 2, 21);
    fault("thing;person age 1 loathes 0 is 0;", 2, 29);
    fault("thing;person age 1 loathes 0 1;", 3, 29);
    fault("room 0;", 3, 5);
    fault("room 1;room 14;", 0, -1);
    fault("room 15;", 3, 5);
    String things = "thing;".repeat(14);
    fault(things, 0, -1);
    fault(things + "thing;", 4, 84);
    fault(things + "thing,", 4, 84);
    fault(things + "person age 1 is 13;", 0, -1);
    String people = "person age 1;".repeat(8);
    fault(people, 0, -1);
    fault(people + "person;", 4, 104);
  }

  private void laws() {
    fault("good 1;", 2, 5);
    fault("good : ;", 2, 7);
    fault("good : love;", 2, 7);
    fault("good : 1 = 1;", 2, 9);
    fault("good : not 1;", 2, 7);
    fault("good : [1];", 2, 7);
    fault("good : 1 + ;", 2, 11);
    fault("good : - 1;", 2, 7);
    fault("good : (1;", 2, 9);
    fault("good : 1);", 2, 8);
    fault("good : common*rare*insult*lists+apart-oldest+year;", 0, -1);
    fault("may : 1;", 2, 7);
    fault("may : (1 = 1);", 2, 9);
    fault("may : [1] = 1;", 2, 8);
    fault("may : [1 = 1;", 2, 12);
    fault("may : 1 = 1 = 1;", 2, 12);
    fault("may : 1 = 1 and;", 2, 15);
    fault("may : 1 = 1 or not;", 2, 18);
    fault("may : (1) < (2) and not [ 3 > 2 or 1 = 1 ];", 0, -1);
    fault("good : ((((((1))))));", 0, -1);
    fault("good : (((((((1;", 4, 13);
    fault("good : (((((((,", 4, 13);
    fault("good : ((((((1)))))) + ((((((2))))));", 0, -1);
    fault("may : not not not not not not 1 = 1;", 0, -1);
    fault("may : not not not not not not not 1 = 1;", 4, 30);
    fault("may : not [ not [ not [ (1) = 1 ] ] ];", 4, 24);
    fault("may : not [ not [ ((1)) = 1 ] ] and not 1 = (2);", 0, -1);
    fault("may : not not not not not not (1) = 1;", 4, 30);
    fault("may : 1 = ( ( ( ( ( ( not 1", 2, 22);
  }

  private void people() {
    LoatheMatch x = Checks.of(BASE);
    checks.due("AGE", x.person(3, 0), 40);
    checks.due("is", x.person(2, 1), 8);
    checks.due("LIST", x.person(1, 2), 14);
    checks.due("wed to nobody", x.person(1, 3), -1);
    checks.due("person(1, 4)", x.person(1, 4), -2);
    checks.due("person(1, -1)", x.person(1, -1), -2);
    checks.due("person(4, 0)", x.person(4, 0), -2);
    checks.due("person(-1, 0)", x.person(-1, 0), -2);
    checks.due("since 0", x.since(0, 1), 0);
    checks.due("since(0, 0)", x.since(0, 0), -1);
    checks.due("since(0, 4)", x.since(0, 4), -2);
    checks.due("since(4, 0)", x.since(4, 0), -2);
    checks.due("since(-1, -1)", x.since(-1, -1), -2);
    x.years(2);
    checks.due("since 2", x.since(0, 1), 2);
    checks.due("AGE then", x.person(3, 0), 42);
    x.takes(0, 0);
    checks.due("since anew", x.since(0, 0), 0);
  }

  private void things() {
    LoatheMatch x = Checks.of(BASE);
    checks.due("wanes", x.thing(1, 0), 3);
    checks.due("never wanes", x.thing(0, 0), 0);
    checks.due("who LOATHE it", x.thing(3, 1), 10);
    checks.due("RARE 0", x.thing(0, 2), 4);
    checks.due("RARE 2", x.thing(2, 2), 2);
    checks.due("who are it", x.thing(0, 3), 9);
    checks.due("who are it", x.thing(3, 3), 4);
    checks.due("nobody is it", x.thing(1, 3), 0);
    checks.due("thing(0, 4)", x.thing(0, 4), -2);
    checks.due("thing(0, -1)", x.thing(0, -1), -2);
    checks.due("thing(4, 0)", x.thing(4, 0), -2);
    checks.due("RARE of nobody's", Checks.of("thing;").thing(0, 2), 1);
  }

  private void pairs() {
    LoatheMatch x = Checks.of(BASE);
    int[] due = {1, 2, 1, 4, 5, 4};
    for (int what = 0; what < due.length; what++) {
      checks.due("pair(0, 2, " + what + ")", x.pair(0, 2, what), due[what]);
      checks.due("pair(2, 0, " + what + ")", x.pair(2, 0, what), due[what]);
    }
    checks.due("insult both ways", x.pair(2, 3, 2), 2);
    checks.due("pair(0, 1, 6)", x.pair(0, 1, 6), -8);
    checks.due("pair(0, 1, -1)", x.pair(0, 1, -1), -8);
    checks.due("pair(0, 0, 0)", x.pair(0, 0, 0), -8);
    checks.due("pair(0, 4, 0)", x.pair(0, 4, 0), -8);
    LoatheMatch both = Checks.of("thing;person age 1 is 0 loathes 0;person age 1 is 0 loathes 0;");
    checks.due("one THING insults both", both.pair(0, 1, 2), 2);
  }

  private void goodByLaw() {
    LoatheMatch x = Checks.of(BASE);
    checks.due("good(0, 1)", x.good(0, 1), 5);
    checks.due("good(2, 3)", x.good(2, 3), -4);
    checks.due("good(3, 3)", x.good(3, 3), -2000000);
    checks.due("good(0, 4)", x.good(0, 4), -2000000);
    checks.due("good(-1, 0)", x.good(-1, 0), -2000000);
    String two = "thing;thing;person age 7 loathes 0 1;person age 10 loathes 0;";
    checks.due("terms", Checks.of("good : common*100 + lists*10 + apart;" + two).good(0, 1), 133);
    checks.due("oldest, rare", Checks.of("good : oldest*10+rare;" + two).good(0, 1), 101);
    checks.due("left to right", Checks.of("good : 10-3-2+1*2*3;" + two).good(0, 1), 11);
    checks.due("( )", Checks.of("good : 10-(3-2)*4;" + two).good(0, 1), 6);
    checks.due("kept below", Checks.of("good : 999*999*999 - 1;" + two).good(0, 1), 999999);
    checks.due("kept above", Checks.of("good : 0 - 999*999*999 - 5 + 1;" + two).good(0, 1), -999999);
    checks.due("kept sums", Checks.of("good : 999*999 + 999*999 - 1000000*0;".replace("1000000", "999") + two).good(0, 1),
        1000000);
    checks.due("later ones strike", Checks.of("good : 1;good : 2;" + two + "good : 3;").good(0, 1), 3);
    LoatheMatch year = Checks.of("good : year;" + two);
    year.years(5);
    checks.due("year", year.good(0, 1), 5);
  }

  private void mayByLaw() {
    LoatheMatch x = Checks.of(BASE);
    checks.due("may(0, 1)", x.may(0, 1), 1);
    checks.due("may(0, 3)", x.may(0, 3), 0);
    checks.due("may(2, 3)", x.may(2, 3), 1);
    checks.due("may(1, 1)", x.may(1, 1), -2);
    checks.due("may(4, 1)", x.may(4, 1), -2);
    String two = "person age 7;person age 10;";
    checks.due("no law", Checks.of(two).may(0, 1), 1);
    String[] hold = {"1 = 1", "1 < 2", "2 > 1", "not 1 = 2", "1 = 2 or 1 = 1", "1 = 1 or 1 = 2 and 1 = 2",
        "[ 1 = 2 or 1 = 1 ] and 1 = 1", "not [ 1 = 1 and 1 = 2 ]", "not 1 = 2 and 1 = 1", "apart = 3", "(1+1)*2 = 4",
        "not not 1 = 1", "0 - 1 < 0"};
    for (String law : hold) {
      checks.due(law, Checks.of(two + "may : " + law + ";").may(0, 1), 1);
    }
    String[] dont = {"1 = 2", "2 < 2", "1 > 1", "not 1 = 1", "[ 1 = 1 or 1 = 2 ] and 1 = 2", "not 1 = 1 or 1 = 2",
        "1 = 1 and 1 = 2", "not [ 1 = 2 or 1 = 1 ]", "not 1 = 2 and 1 = 2"};
    for (String law : dont) {
      checks.due(law, Checks.of(two + "may : " + law + ";").may(0, 1), 0);
    }
  }

  public static void main(String[] args) {
    BureauTests tests = new BureauTests();
    tests.newObject();
    tests.feeding();
    tests.reading();
    tests.tokens();
    tests.linesAndBounds();
    tests.laws();
    tests.people();
    tests.things();
    tests.pairs();
    tests.goodByLaw();
    tests.mayByLaw();
    tests.checks.end("the bureau");
  }
}
