/** Terms, 1: the text of the bureau, its tokens and faults. */
final class TextEdges {
  private static final String TERMS = "Terms";
  private static final String TWO = "person age 7;person age 10;";

  private final Edges edges;

  TextEdges(Edges edges) {
    this.edges = edges;
  }

  void run() {
    longestText();
    noText();
    lines();
    thingLine();
    personLine();
    otherLines();
    truths();
    units();
    sums();
    atoms();
    depth();
    wanes();
    manyThings();
    ages();
    toldAhead();
    manyPeople();
    bars();
    rooms();
    strike();
    longTokens();
    blanks();
    words();
    digits();
    signs();
    firstFault();
    leastKind();
    noToken();
    cantStand();
    outOfBounds();
    tooMany();
  }

  private void longestText() {
    edges.of(TERMS, "THE BUREAU is a TEXT of at most 900 bytes");
    edges.text("bar 1;" + " ".repeat(894), 0, 1);
    edges.text("bar 1;".repeat(150), 0, 150);
    edges.text(" ".repeat(894) + "room 2", 2, 900);
    edges.text("good : 1" + " + 1".repeat(222) + "   ;", 0, 1);
  }

  private void noText() {
    edges.of(TERMS, "(without one: no THINGS, no PEOPLE)");
    LoatheMatch x = new LoatheMatch();
    edges.due("THINGS", x.count(0), 0);
    edges.due("PEOPLE", x.count(1), 0);
    edges.due("LINES", x.count(8), 0);
  }

  private void lines() {
    edges.of(TERMS, "{ LINE ; }");
    edges.text("", 0, 0);
    edges.text(" \n", 0, 0);
    edges.text("thing;", 0, 1);
    edges.text("thing ;\nthing ;", 0, 2);
    edges.text("thing", 2, 5);
    edges.text(";", 2, 0);
    edges.text("thing;;", 2, 6);
    edges.text("thing thing;", 2, 6);
    edges.text("thing:", 2, 5);
  }

  private void thingLine() {
    edges.of(TERMS, "thing [ wanes N ]");
    edges.text("thing;", 0, 1);
    edges.text("thing wanes 5;", 0, 1);
    edges.text("thing wanes;", 2, 11);
    edges.text("thing 5;", 2, 6);
    edges.text("thing wanes 5 5;", 2, 14);
    edges.text("thing wanes 5 wanes 5;", 2, 14);
    edges.text("wanes 5;", 2, 0);
  }

  private void personLine() {
    edges.of(TERMS, "person age N [ is N { N } ] [ loathes N { N } ]");
    edges.text("person age 5;", 0, 1);
    edges.text("thing;person age 5 is 0;", 0, 2);
    edges.text("thing;person age 5 loathes 0;", 0, 2);
    edges.text("thing;thing;person age 5 is 0 1 0 loathes 1 0 1;", 0, 3);
    edges.text("person;", 2, 6);
    edges.text("person 5;", 2, 7);
    edges.text("person age;", 2, 10);
    edges.text("person age is;", 2, 11);
    edges.text("person age 5 5;", 2, 13);
    edges.text("thing;person age 5 is;", 2, 21);
    edges.text("thing;person age 5 is loathes 0;", 2, 22);
    edges.text("thing;person age 5 loathes;", 2, 26);
    edges.text("thing;person age 5 loathes 0 is 0;", 2, 29);
    edges.text("thing;person age 5 is 0 is 0;", 2, 24);
    edges.text("thing;person is 0 age 5;", 2, 13);
  }

  private void otherLines() {
    edges.of(TERMS, "good : SUM | may : TRUTH | bar N | room N.");
    edges.text("good : 1;may : 1 = 1;bar 1;room 1;", 0, 4);
    edges.text("good 1;", 2, 5);
    edges.text("good : ;", 2, 7);
    edges.text("good : 1 = 1;", 2, 9);
    edges.text("may 1 = 1;", 2, 4);
    edges.text("may : ;", 2, 6);
    edges.text("may : 1;", 2, 7);
    edges.text("bar;", 2, 3);
    edges.text("bar : 1;", 2, 4);
    edges.text("bar 1 1;", 2, 6);
    edges.text("bar - 1;", 2, 4);
    edges.text("room;", 2, 4);
    edges.text("room year;", 2, 5);
  }

  private void may(String law, int due) {
    LoatheMatch x = Checks.of(TWO + "may : " + law + ";");
    edges.due("may : " + law, x.may(0, 1), due);
    edges.due("may : " + law + ", the other way", x.may(1, 0), due);
  }

  private void truths() {
    edges.of(TERMS, "TRUTH: BOTH { or BOTH }; BOTH: UNIT { and UNIT };");
    may("1 = 1 or 1 = 2 and 1 = 2", 1);
    may("1 = 2 and 1 = 2 or 1 = 1", 1);
    may("1 = 2 or 1 = 2 or 1 = 1", 1);
    may("1 = 1 and 1 = 1 and 1 = 2", 0);
    may("1 = 2 or 1 = 2", 0);
    edges.text("may : or 1 = 1;", 2, 6);
    edges.text("may : 1 = 1 or;", 2, 14);
    edges.text("may : 1 = 1 and;", 2, 15);
    edges.text("may : 1 = 1 or and 1 = 1;", 2, 15);
    edges.text("may : 1 = 1 1 = 1;", 2, 12);
  }

  private void units() {
    edges.of(TERMS, "UNIT: not UNIT, [ TRUTH ], or SUM, one of = < >, SUM.");
    may("not 1 = 1 or 1 = 1", 1);
    may("not 1 = 2 and 1 = 2", 0);
    may("not [ 1 = 2 and 1 = 2 ]", 1);
    may("not not 1 = 1", 1);
    may("not 1 = 1", 0);
    may("not [ 1 = 1 or 1 = 2 ]", 0);
    may("1 = 1 and 1 < 2 and 2 > 1", 1);
    may("[ 1 = 1 or 1 = 1 ] and 1 = 2", 0);
    may("1 < 1", 0);
    may("1 > 1", 0);
    may("1 < 2", 1);
    may("2 > 1", 1);
    may("2 < 1", 0);
    may("1 + 1 = 2", 1);
    edges.text("may : not;", 2, 9);
    edges.text("may : [];", 2, 7);
    edges.text("may : [ 1 = 1;", 2, 13);
    edges.text("may : 1 = 1 ];", 2, 12);
    edges.text("may : [ 1 ] = 1;", 2, 10);
    edges.text("may : ( 1 = 1 );", 2, 10);
    edges.text("may : = 1;", 2, 6);
    edges.text("may : 1 =;", 2, 9);
    edges.text("may : 1 < = 1;", 2, 10);
    edges.text("may : 1 = 1 = 1;", 2, 12);
    edges.text("may : 1 = not 1;", 2, 10);
  }

  private void good(String law, int due) {
    edges.due("good : " + law, Checks.of(TWO + "good : " + law + ";").good(0, 1), due);
  }

  private void sums() {
    edges.of(TERMS, "SUM: TERM { + TERM | - TERM }; TERM: ATOM { * ATOM };");
    good("9 - 4 - 3", 2);
    good("9 - 4 + 3", 8);
    good("2 + 3 * 4", 14);
    good("3 * 4 - 2", 10);
    good("2 * 3 * 4", 24);
    edges.text("good : + 1;", 2, 7);
    edges.text("good : - 1;", 2, 7);
    edges.text("good : * 1;", 2, 7);
    edges.text("good : 1 +;", 2, 10);
    edges.text("good : 1 -;", 2, 10);
    edges.text("good : 1 *;", 2, 10);
    edges.text("good : 1 - - 1;", 2, 11);
    edges.text("good : 1 1;", 2, 9);
  }

  private void atoms() {
    edges.of(TERMS, "ATOM: N, common, rare, insult, lists, apart, oldest, year, ( SUM ).");
    good("0", 0);
    good("999", 999);
    good("common + rare + insult + lists + year", 0);
    good("apart * 100 + oldest", 310);
    good("(4)", 4);
    good("9 - (4 - 3)", 8);
    good("(2 + 3) * 4", 20);
    edges.text("good : ();", 2, 8);
    edges.text("good : (1;", 2, 9);
    edges.text("good : 1);", 2, 8);
    edges.text("good : [ 1 ];", 2, 7);
    edges.text("good : not 1;", 2, 7);
    edges.text("good : age;", 2, 7);
    edges.text("good : years;", 2, 7);
    edges.text("good : rar;", 2, 7);
  }

  private void depth() {
    edges.of(TERMS, "At most six of not [ ( within one another.");
    good("((((((5))))))", 5);
    edges.text("good : (((((((5)))))));", 4, 13);
    may("not not not not not not 1 = 1", 1);
    edges.text("may : not not not not not not not 1 = 1;", 4, 30);
    may("[[[[[[1 = 1]]]]]]", 1);
    edges.text("may : [[[[[[[1 = 1]]]]]]];", 4, 12);
    may("not [ not [ ((1)) = 1 ] ]", 1);
    edges.text("may : not [ not [ (((1))) = 1 ] ];", 4, 20);
    edges.text("may : not [ not [ 1 = (((1))) ] ];", 4, 24);
    may("not not not not not not 1 = 1 and not not not not not not 1 = 1", 1);
    may("[ 1 = 1 ] and [ 1 = 1 ] and [ 1 = 1 ] and [ 1 = 1 ] and [ 1 = 1 ] and [ 1 = 1 ] and [ 1 = 1 ]", 1);
    may("(1) = (1) and (1)+(1)+(1)+(1)+(1)+(1)+(1) = 7", 1);
    good("((((((1)))))) * ((((((2))))))", 2);
  }

  private void wanes() {
    edges.of(TERMS, "thing: wanes 1 to 99 (0: never);");
    edges.due("1", Checks.of("thing wanes 1;").thing(0, 0), 1);
    edges.due("99", Checks.of("thing wanes 99;").thing(0, 0), 99);
    edges.due("untold", Checks.of("thing wanes 9;thing;").thing(1, 0), 0);
    edges.text("thing wanes 0;", 3, 12);
    edges.text("thing wanes 100;", 3, 12);
    edges.text("thing wanes 999;", 3, 12);
  }

  private void manyThings() {
    edges.of(TERMS, "numbered from 0 on, 14 at most.");
    LoatheMatch x = Checks.of("thing wanes 1;".repeat(13) + "thing wanes 14;");
    edges.due("14 THINGS", x.count(0), 14);
    edges.due("the last", x.thing(13, 0), 14);
    edges.due("none behind", x.thing(14, 0), -2);
    edges.text("thing;".repeat(15), 4, 84);
  }

  private void ages() {
    edges.of(TERMS, "person: AGE 0 to 99,");
    edges.due("0", Checks.of("person age 0;").person(0, 0), 0);
    edges.due("99", Checks.of("person age 99;").person(0, 0), 99);
    edges.text("person age 100;", 3, 11);
    edges.text("person age 999;", 3, 11);
  }

  private void toldAhead() {
    edges.of(TERMS, "THINGS told ahead that it is, that it LOATHES;");
    edges.text("person age 1 is 0;thing;", 3, 16);
    edges.text("person age 1 loathes 0;thing;", 3, 21);
    edges.text("thing;person age 1 is 1;thing;", 3, 22);
    edges.text("thing;person age 1 loathes 0 1;thing;", 3, 29);
    edges.text("thing;person age 1 is 0;thing;person age 1 loathes 1;", 0, 4);
    LoatheMatch last = Checks.of("thing;".repeat(14) + "person age 1 is 0 13 loathes 13 0;");
    edges.due("is", last.person(0, 1), 8193);
    edges.due("LOATHES", last.person(0, 2), 8193);
    edges.text("thing;".repeat(14) + "person age 1 is 14;", 3, 100);
  }

  private void manyPeople() {
    edges.of(TERMS, "numbered from 0 on, 8 at most.");
    LoatheMatch x = Checks.of("person age 1;".repeat(7) + "person age 8;");
    edges.due("8 PEOPLE", x.count(1), 8);
    edges.due("the last", x.person(7, 0), 8);
    edges.due("none behind", x.person(8, 0), -2);
    edges.text("person age 1;".repeat(9), 4, 104);
  }

  private void bars() {
    edges.of(TERMS, "bar: 0 to 999 (10);");
    edges.due("untold", Checks.of("thing;").count(4), 10);
    edges.due("0", Checks.of("bar 0;").count(4), 0);
    edges.due("999", Checks.of("bar 999;").count(4), 999);
    edges.text("bar 1000;", 1, 4);
  }

  private void rooms() {
    edges.of(TERMS, "room: how many a LIST may have, 1 to 14 (14).");
    edges.due("untold", Checks.of("thing;").count(5), 14);
    edges.due("1", Checks.of("room 1;").count(5), 1);
    edges.due("14", Checks.of("room 14;").count(5), 14);
    edges.text("room 0;", 3, 5);
    edges.text("room 15;", 3, 5);
    LoatheMatch all = Checks.of("thing;".repeat(14) + "person age 1 loathes 0 1 2 3 4 5 6 7 8 9 10 11 12;");
    edges.due("the 14th", all.takes(0, 13), 14);
  }

  private void strike() {
    edges.of(TERMS, "Later ones of good, may, bar, room strike.");
    LoatheMatch x = Checks.of("good : 1;may : 1 = 1;bar 1;room 1;" + TWO + "good : 2;may : 1 = 2;bar 2;room 2;");
    edges.due("good", x.good(0, 1), 2);
    edges.due("may", x.may(0, 1), 0);
    edges.due("bar", x.count(4), 2);
    edges.due("room", x.count(5), 2);
    edges.due("all are LINES", x.count(8), 10);
    LoatheMatch shorter = Checks.of("good : 1 + 1 + 1 + 1;good : 7;may : 1 = 1 and 1 = 2;may : 1 = 1;" + TWO);
    edges.due("a shorter good", shorter.good(0, 1), 7);
    edges.due("a shorter may", shorter.may(0, 1), 1);
    edges.due("the first that is told strikes none", Checks.of("bar 10;bar 0;").count(4), 0);
    edges.text("bar 1000;bar 1;", 1, 4);
  }

  private void longTokens() {
    edges.of(TERMS, "TOKENS, as long as they go on,");
    edges.text("thingwanes 5;", 2, 0);
    edges.text("things;", 2, 0);
    edges.text("bar12;", 0, 1);
    edges.due("12, not 1 and 2", Checks.of("bar 12;").count(4), 12);
    edges.text("bar 1 2;", 2, 6);
    edges.text("ba r 1;", 2, 0);
    edges.text("personage 1;", 2, 0);
    edges.text("thing;person age5loathes0;", 0, 2);
    edges.text("bar 12345678901234567890;", 1, 4);
  }

  private void blanks() {
    edges.of(TERMS, "between them blanks (10, 32):");
    edges.text("\n \n bar \n 1 \n ; \n ", 0, 1);
    for (int c : new int[] {0, 9, 11, 12, 13, 31, 133, 160}) {
      edges.text("bar" + (char) c + "1;", 1, 3);
    }
  }

  private void words() {
    edges.of(TERMS, "words (small letters),");
    edges.text("a;", 2, 0);
    edges.text("z;", 2, 0);
    for (char c : new char[] {'A', 'Z', '@', '`', '{', '_', 225}) {
      edges.text(c + ";", 1, 0);
    }
    edges.text("Bar 1;", 1, 0);
    edges.text("far 1;", 2, 0);
    edges.text("bat 1;", 2, 0);
    edges.text("bAr 1;", 2, 0);
    edges.text("barR 1;", 1, 3);
  }

  private void digits() {
    edges.of(TERMS, "N (1 to 3 digits),");
    edges.due("1", Checks.of("bar 9;").count(4), 9);
    edges.due("2", Checks.of("bar 09;").count(4), 9);
    edges.due("3", Checks.of("bar 009;").count(4), 9);
    edges.text("bar 0009;", 1, 4);
    edges.text("bar /;", 1, 4);
    edges.text("bar :;", 2, 4);
  }

  private void signs() {
    edges.of(TERMS, "the signs ; : + - * ( ) [ ] = < >.");
    String known = ";:+-*()[]=<>0123456789abcdefghijklmnopqrstuvwxyz";
    for (char c = 0; c < 256; c++) {
      if (c == 10 || c == 32) {
        edges.text("bar 1;" + c, 0, 1);
      } else {
        edges.text("bar 1;" + c, known.indexOf(c) >= 0 ? 2 : 1, 6);
      }
    }
  }

  private void firstFault() {
    edges.of(TERMS, "FAULTS, the first along the text,");
    edges.text("bar ;bar 1000;", 2, 4);
    edges.text("bar 1000;bar ;", 1, 4);
    edges.text("room 0;,", 3, 5);
    edges.text("room 0,", 3, 5);
    edges.text("hate,", 2, 0);
    edges.text("thing;".repeat(15) + ",", 4, 84);
    edges.text("room 15;" + "thing;".repeat(15), 3, 5);
    edges.text("good : (((((((,", 4, 13);
    edges.text("good : ((((((,", 1, 13);
  }

  private void leastKind() {
    edges.of(TERMS, "of one TOKEN the least kind:");
    edges.text("thing 1000;", 1, 6);
    edges.text("thing 100;", 2, 6);
    edges.text("thing wanes 1000;", 1, 12);
    edges.text("person age 1 is 1000;", 1, 16);
    edges.text("thing;".repeat(14) + "bar thing;", 2, 88);
    edges.text("person age 1;".repeat(8) + "bar person;", 2, 108);
    edges.text("good : ((((((not 1;", 2, 13);
    edges.text("good : (((((([1;", 2, 13);
    edges.text("may : [[[[[[1 ( 1;", 2, 14);
    edges.text("may : [[[[[[1 [ 1;", 2, 14);
  }

  private void noToken() {
    edges.of(TERMS, "1 no TOKEN begins so (4 digits and more: at their first).");
    edges.text("bar 1,", 1, 5);
    edges.text(",", 1, 0);
    edges.text("bar 1;\"", 1, 6);
    edges.text("bar 1234;", 1, 4);
    edges.text("bar 0000;", 1, 4);
    edges.text("bar 12345;", 1, 4);
    edges.text("good : 1 + 1000;", 1, 11);
    edges.text("bar 1;1234;", 1, 6);
    edges.text("thing;person age 1 loathes 0 0000;", 1, 29);
  }

  private void cantStand() {
    edges.of(TERMS, "2 it can't stand there (the end: the text's length).");
    edges.text("hate;", 2, 0);
    edges.text("bar", 2, 3);
    edges.text("bar 1", 2, 5);
    edges.text("bar 1 \n  ", 2, 9);
    edges.text("good : (", 2, 8);
    edges.text("may : 1 = 1 and ", 2, 16);
    edges.text("person age 1 ", 2, 13);
    edges.text("1;", 2, 0);
    LoatheMatch cut = new LoatheMatch();
    Checks.feed(cut, "bar 123;");
    edges.due("the end is where n is", cut.bureau(6), -32);
    edges.due("its place", cut.fault(1), 6);
    Checks.feed(cut, "thinga");
    edges.due("a word ends there too", cut.bureau(5), -32);
    edges.due("its place", cut.fault(1), 5);
    edges.text(" ".repeat(895) + "thing", 2, 900);
  }

  private void outOfBounds() {
    edges.of(TERMS, "3 an N out of its bounds (a THING that isn't told).");
    edges.text("thing wanes 0;", 3, 12);
    edges.text("thing wanes 100;", 3, 12);
    edges.text("person age 100;", 3, 11);
    edges.text("room 0;", 3, 5);
    edges.text("room 15;", 3, 5);
    edges.text("thing;thing;person age 1 is 0 2;", 3, 30);
    edges.text("thing;thing;person age 1 is 1 loathes 1 2;", 3, 40);
    edges.text("person age 1 loathes 0;", 3, 21);
    edges.text("good : 999;", 0, 1);
  }

  private void tooMany() {
    edges.of(TERMS, "4 the first TOKEN of a 15th thing, a 9th person; a seventh of not [ (.");
    edges.text("thing;".repeat(14) + " thing wanes 0;", 4, 85);
    edges.text("person age 1;".repeat(8) + " person age 100;", 4, 105);
    edges.text("thing;".repeat(14) + "person age 1;".repeat(8), 0, 22);
    edges.text("thing;".repeat(7) + "person age 1;".repeat(4) + "thing;".repeat(7) + "thing", 4, 136);
    edges.text("may : not not not not not not not", 4, 30);
    edges.text("may : [ [ [ [ [ [ [", 4, 18);
    edges.text("good : ( ( ( ( ( ( (", 4, 19);
    edges.text("may : not [ not [ not [ not", 4, 24);
    edges.text("may : not [ not [ ( ( (", 4, 22);
  }
}
