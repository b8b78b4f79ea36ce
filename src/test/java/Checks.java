/** What the tests share: they count what is as due, and end with exit code 1 if anything isn't. */
final class Checks {
  static final int BEYOND = -1000000001;
  static final int NONE = -1000000002;
  static final int STATE = -1000000003;
  static final int FULL = -1000000004;
  static final int KIND = -1000000005;
  static final int PARTED = -1000000006;

  /** Ints that no range of the document reaches, and those just around its ranges. */
  static final int[] WILD = {Integer.MIN_VALUE, Integer.MIN_VALUE + 1, -1000000001, -256, -2, -1,
      100, 255, 1000, 65536, Integer.MAX_VALUE - 1, Integer.MAX_VALUE};

  /** A call, or a row of them, on a ship. */
  interface Act {
    int on(DailyRelief x);
  }

  private static int right = 0;
  private static int wrong = 0;

  private Checks() {}

  static void due(String what, long got, long want) {
    if (got == want) {
      right++;
    } else {
      wrong++;
      System.out.println(what + ": answered " + got + ", due is " + want);
    }
  }

  static void end(String name) {
    System.out.println(name + ": " + right + " as due, " + wrong + " not");
    if (wrong != 0) {
      System.exit(1);
    }
  }

  /** Feeds a whole text to THE TAPE. */
  static void feed(DailyRelief x, String text) {
    for (int i = 0; i < text.length(); i++) {
      x.feed(text.charAt(i), 1);
    }
  }

  static int text(DailyRelief x, int use, String text) {
    feed(x, text);
    return x.text(use);
  }

  /** How many acts have answered an ERROR so far. */
  static int errors(DailyRelief x) {
    int all = 0;
    for (int k = 1; k <= 6; k++) {
      all += x.told(k);
    }
    return all;
  }

  /** A ship with these men, by km. */
  static DailyRelief ship(int... kms) {
    DailyRelief x = new DailyRelief();
    for (int km : kms) {
      x.bunk(km);
    }
    return x;
  }
}
