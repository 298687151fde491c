/** What the tests of this project share: texts are fed here, and answers looked at. */
final class Checks {
  private int wrong;
  private int made;

  void due(String call, long got, long want) {
    made++;
    if (got != want) {
      wrong++;
      System.out.println(call + " answered " + got + ", due is " + want);
    }
  }

  /** Feeds a text, filled up with blanks, and has just its own bytes read. */
  static int tell(LoatheMatch x, String text) {
    feed(x, text);
    return x.bureau(text.length());
  }

  static void feed(LoatheMatch x, String text) {
    for (int i = 0; i < text.length(); i += 20) {
      int[] five = new int[5];
      for (int j = 0; j < 20; j++) {
        int c = i + j < text.length() ? text.charAt(i + j) : ' ';
        five[j / 4] = five[j / 4] << 8 | c;
      }
      x.feed(five[0], five[1], five[2], five[3], five[4]);
    }
  }

  static LoatheMatch of(String text) {
    LoatheMatch x = new LoatheMatch();
    int lines = tell(x, text);
    if (lines < 0) {
      throw new IllegalArgumentException(text + " has fault " + lines + " at " + x.fault(1));
    }
    return x;
  }

  /** Lays a tray of 32 bits and writes all these numbers. */
  static void fill(LoatheMatch x, int tray, long... numbers) {
    x.numbers(tray, 2, numbers.length);
    for (int i = 0; i < numbers.length; i++) {
      x.write(tray, i, numbers[i]);
    }
  }

  void end(String what) {
    System.out.println(what + ": " + made + " checks, " + wrong + " wrong");
    System.exit(wrong == 0 ? 0 : 1);
  }
}
