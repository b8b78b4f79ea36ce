/** Promises 30 to 34: sheets. */
public final class SheetsTest {
  public static void main(String[] args) {
    sheet();
    put();
    move();
    moveBeyond();
    rosters();
    judge();
    Checks.end("SheetsTest");
  }

  private static void sheet() {
    DailyRelief x = new DailyRelief();
    for (int bits = 8; bits <= 32; bits *= 2) {
      Checks.due("30: 24 numbers", x.sheet(3, bits, 24), 1);
      Checks.due("30: the last", x.put(3, 23, 0), 1);
      Checks.due("30: not more", x.put(3, 24, 0), Checks.BEYOND);
      Checks.due("30: 25 numbers", x.sheet(3, bits, 25), Checks.BEYOND);
      Checks.due("30: n below 0", x.sheet(3, bits, -1), Checks.STATE);
      Checks.due("30: n far below 0", x.sheet(3, bits, Integer.MIN_VALUE), Checks.STATE);
      Checks.due("30: n far above", x.sheet(3, bits, Integer.MAX_VALUE), Checks.BEYOND);
      Checks.due("30: it stays", x.put(3, 23, 0), 1);
    }
    Checks.due("30: no numbers", x.sheet(0, 8, 0), 1);
    Checks.due("30: has none", x.put(0, 0, 0), Checks.BEYOND);
    Checks.due("30: isn't missing", x.rosters(0), 0);
    Checks.due("30: missing", x.sheet(0, 0, Integer.MIN_VALUE), 1);
    Checks.due("30: is missing", x.rosters(0), Checks.NONE);
    Checks.due("30: missing, n above", x.sheet(3, 0, 25), 1);
    Checks.due("30: that, too", x.put(3, 0, 0), Checks.NONE);
    Checks.due("30: sheet 4", x.sheet(4, 8, -1), Checks.BEYOND);
    Checks.due("30: sheet -1", x.sheet(-1, 8, 1), Checks.BEYOND);
    for (int bits : new int[] {1, 7, 9, 24, 64, -8, -1}) {
      Checks.due("30: bits " + bits, x.sheet(0, bits, -1), Checks.BEYOND);
    }
    for (int v : Checks.WILD) {
      Checks.due("30: sheet " + v, x.sheet(v, 8, 1), Checks.BEYOND);
      Checks.due("30: bits " + v, x.sheet(0, v, 1), Checks.BEYOND);
    }
    newNumbers();
  }

  /** A SHEET's numbers are all 0 when it is made, whatever stood there. */
  private static void newNumbers() {
    DailyRelief x = Checks.ship(0, 0);
    x.sheet(0, 8, 2);
    x.put(0, 0, 5);
    x.put(0, 1, 5);
    Checks.due("30: numbers", x.judge(0), 0);
    x.sheet(0, 8, 2);
    Checks.due("30: all 0", x.judge(0), -1);
  }

  private static void put() {
    DailyRelief x = Checks.ship(0);
    x.know(0, 0, 1);
    Checks.due("31: missing", x.put(0, -1, 0), Checks.NONE);
    Checks.due("31: no such SHEET", x.put(4, 0, 0), Checks.BEYOND);
    int[] bits = {8, 16, 32};
    int[] above = {256 + 1, 65536 + 1, 1};
    for (int i = 0; i < 3; i++) {
      x.sheet(0, bits[i], 1);
      Checks.due("31: put", x.put(0, 0, above[i]), 1);
      Checks.due("31: lowest bits", x.judge(0), -1);
      x.put(0, 0, -1);
      Checks.due("31: another", x.judge(0), 0);
      Checks.due("31: number -1", x.put(0, -1, 1), Checks.BEYOND);
      Checks.due("31: number 1", x.put(0, 1, 1), Checks.BEYOND);
      for (int v : Checks.WILD) {
        Checks.due("31: number " + v, x.put(0, v, 1), Checks.BEYOND);
        Checks.due("31: sheet " + v, x.put(v, 0, 1), Checks.BEYOND);
      }
      Checks.due("31: stays", x.judge(0), 0);
    }
    x.sheet(0, 16, 1);
    x.put(0, 0, 257);
    Checks.due("31: 16 bits hold more than 8", x.judge(0), 0);
    x.sheet(0, 32, 1);
    x.put(0, 0, 65537);
    Checks.due("31: 32 bits hold more than 16", x.judge(0), 0);
  }

  /** Whether a SHEET holds these, by men who KNOW just so. */
  private static void holds(String what, DailyRelief x, int sheet, int... knacks) {
    for (int i = 0; i < knacks.length; i++) {
      for (int knack = 0; knack < 6; knack++) {
        x.know(i, knack, (knacks[i] >> knack & 1) - 1);
      }
    }
    Checks.due(what, x.judge(sheet), -1);
  }

  private static DailyRelief twoSheets(int bits) {
    DailyRelief x = Checks.ship(0, 0, 0, 0, 0);
    x.sheet(0, bits, 5);
    x.sheet(1, bits, 5);
    for (int i = 0; i < 5; i++) {
      x.put(0, i, 10 + i);
      x.put(1, i, 20 + i);
    }
    return x;
  }

  private static void move() {
    for (int bits = 8; bits <= 32; bits *= 2) {
      DailyRelief x = twoSheets(bits);
      Checks.due("32: to another", x.move(0, 1, 1, 2, 3), 3);
      holds("32: it has them", x, 1, 20, 21, 11, 12, 13);
      holds("32: the first has still", x, 0, 10, 11, 12, 13, 14);
      Checks.due("32: on itself, behind", x.move(0, 0, 0, 1, 4), 4);
      holds("32: as they all were", x, 0, 10, 10, 11, 12, 13);
      Checks.due("32: on itself, ahead", x.move(0, 2, 0, 0, 3), 3);
      holds("32: ahead", x, 0, 11, 12, 13, 12, 13);
      Checks.due("32: all", x.move(1, 0, 0, 0, 5), 5);
      holds("32: all of them", x, 0, 20, 21, 11, 12, 13);
      Checks.due("32: none", x.move(1, 5, 0, 5, 0), 0);
    }
    DailyRelief x = twoSheets(8);
    x.sheet(1, 16, 5);
    Checks.due("32: unlike bits", x.move(0, -1, 1, 0, 1), Checks.KIND);
    Checks.due("32: unlike bits of none", x.move(0, 0, 1, 0, 0), Checks.KIND);
    Checks.due("32: missing", x.move(0, 0, 2, 0, 1), Checks.NONE);
    Checks.due("32: missing first", x.move(2, 0, 0, 0, 1), Checks.NONE);
    Checks.due("32: missing both", x.move(2, 0, 2, 0, 0), Checks.NONE);
    Checks.due("32: no such SHEET", x.move(4, 0, 2, 0, 1), Checks.BEYOND);
    Checks.due("32: no such other", x.move(2, 0, -1, 0, 1), Checks.BEYOND);
  }

  private static void moveBeyond() {
    DailyRelief x = twoSheets(8);
    x.sheet(1, 8, 3);
    int[][] wrong = {{-1, 0, 1}, {0, -1, 1}, {0, 0, -1}, {5, 0, 1}, {0, 3, 1}, {0, 0, 4},
        {3, 0, 3}, {0, 1, 3}, {6, 0, 0}, {0, 4, 0}};
    for (int[] w : wrong) {
      Checks.due("32: doesn't stand there", x.move(0, w[0], 1, w[1], w[2]), Checks.BEYOND);
    }
    for (int v : Checks.WILD) {
      Checks.due("32: i " + v, x.move(0, v, 1, 0, 1), Checks.BEYOND);
      Checks.due("32: j " + v, x.move(0, 0, 1, v, 1), Checks.BEYOND);
      Checks.due("32: n " + v, x.move(0, 0, 1, 0, v), Checks.BEYOND);
      Checks.due("32: i, n " + v, x.move(0, v, 1, 0, v), Checks.BEYOND);
      Checks.due("32: all " + v, x.move(0, v, 1, v, v), Checks.BEYOND);
      Checks.due("32: sheet " + v, x.move(v, 0, 1, 0, 1), Checks.BEYOND);
      Checks.due("32: other " + v, x.move(0, 0, v, 0, 1), Checks.BEYOND);
    }
    holds("32: all stays", x, 0, 10, 11, 12, 13, 14);
  }

  private static void row(DailyRelief x, int sheet, int bits, int... numbers) {
    x.sheet(sheet, bits, numbers.length);
    for (int i = 0; i < numbers.length; i++) {
      x.put(sheet, i, numbers[i]);
    }
  }

  private static void rosters() {
    DailyRelief x = Checks.ship(0);
    row(x, 0, 32, 11, 1, 12, 63, 13, 0, 14);
    Checks.due("33: three are whole", x.rosters(0), 3);
    Checks.due("33: men", x.count(1), 3);
    row(x, 1, 8, 15, 4, 70, 0, 16, 0);
    Checks.due("33: up to a wrong km", x.rosters(1), 1);
    row(x, 2, 16, 16, 0, 17, -1, 18, 0);
    Checks.due("33: up to wrong KNACKS", x.rosters(2), 1);
    row(x, 2, 16, 19, 2);
    Checks.due("33: one pair", x.rosters(2), 1);
    Checks.due("33: no numbers", none(x), 0);
    Checks.due("33: again", x.rosters(0), 3);
    Checks.due("33: up to 12", x.rosters(0), 3);
    Checks.due("33: is full", x.rosters(0), 0);
    Checks.due("33: no ERROR", x.told(1) + x.told(2) + x.told(4), 0);
    Checks.due("33: men now", x.count(1), 12);
    x.days(2);
    Checks.due("33: m of the second", x.bunkIs(0, 1), 2);
    Checks.due("33: KNACKS of the second", x.bunkIs(0, 3), 63);
    x.sheet(3, 0, 0);
    Checks.due("33: missing", x.rosters(3), Checks.NONE);
    Checks.due("33: sheet 4", x.rosters(4), Checks.BEYOND);
    for (int v : Checks.WILD) {
      Checks.due("33: sheet " + v, x.rosters(v), Checks.BEYOND);
    }
  }

  private static int none(DailyRelief x) {
    x.sheet(3, 8, 0);
    return x.rosters(3);
  }

  private static void judge() {
    DailyRelief x = Checks.ship(0, 0, 0);
    x.know(1, 5, 0);
    x.know(2, 0, 7);
    row(x, 0, 8, 0, 32, 1);
    Checks.due("34: all are", x.judge(0), -1);
    row(x, 0, 16, 0, 32, 1, 0);
    Checks.due("34: one is too many", x.judge(0), 3);
    row(x, 0, 32, 0, 32);
    Checks.due("34: one lacks", x.judge(0), 2);
    row(x, 0, 8);
    Checks.due("34: all lack", x.judge(0), 0);
    row(x, 0, 8, 0, 33, 2, 5);
    Checks.due("34: the first that isn't so", x.judge(0), 1);
    Checks.due("34: missing", x.judge(1), Checks.NONE);
    Checks.due("34: sheet 4", x.judge(4), Checks.BEYOND);
    for (int v : Checks.WILD) {
      Checks.due("34: sheet " + v, x.judge(v), Checks.BEYOND);
    }
    DailyRelief six = Checks.ship(0, 0, 0, 0, 0, 0);
    row(six, 0, 8, 0, 0, 0, 0, 0, 0);
    Checks.due("34: six", six.judge(0), -1);
    row(six, 0, 8, 0, 0, 0, 0, 0, 1);
    Checks.due("34: the sixth", six.judge(0), 5);
    DailyRelief empty = new DailyRelief();
    empty.sheet(0, 8, 0);
    Checks.due("34: none, none", empty.judge(0), -1);
  }
}
