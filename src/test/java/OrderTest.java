/** Where a call could answer several ERRORS, it answers the one that the document names first. */
public final class OrderTest {
  public static void main(String[] args) {
    bunk();
    as();
    roster();
    feed();
    days();
    ahead();
    handed();
    voice();
    sheet();
    put();
    move();
    rostersAndJudge();
    check();
    Checks.end("OrderTest");
  }

  private static void due(String what, DailyRelief x, Checks.Act act, int error) {
    int k = -1000000000 - error;
    int ahead = x.told(k);
    int all = Checks.errors(x);
    Checks.due(what, act.on(x), error);
    Checks.due(what + ": told", x.told(k), ahead + 1);
    Checks.due(what + ": no other", Checks.errors(x), all + 1);
  }

  private static DailyRelief fullShip() {
    return Checks.ship(0, 10, 20, 30, 40, 50);
  }

  private static void bunk() {
    due("2: BEYOND, FULL", fullShip(), x -> x.bunk(-1), Checks.BEYOND);
    due("2: BEYOND, FULL", fullShip(), x -> x.bunk(70), Checks.BEYOND);
    due("2: FULL", fullShip(), x -> x.bunk(69), Checks.FULL);
  }

  private static void as() {
    due("4: BEYOND bunk, KIND", fullShip(), x -> x.as(6, 1), Checks.BEYOND);
    due("4: BEYOND bunk, KIND", fullShip(), x -> x.as(-1, 1), Checks.BEYOND);
    due("4: BEYOND kind", fullShip(), x -> x.as(0, 7), Checks.BEYOND);
    due("4: BEYOND kind", fullShip(), x -> x.as(0, -1), Checks.BEYOND);
    due("4: KIND", fullShip(), x -> x.as(0, 6), Checks.KIND);
  }

  private static void roster() {
    DailyRelief x = new DailyRelief();
    for (int i = 0; i < 12; i++) {
      x.roster(0, 0);
    }
    due("7: BEYOND km, FULL", x, y -> y.roster(70, 0), Checks.BEYOND);
    due("7: BEYOND km, FULL", x, y -> y.roster(-1, 0), Checks.BEYOND);
    due("7: BEYOND brings, FULL", x, y -> y.roster(0, 64), Checks.BEYOND);
    due("7: BEYOND brings, FULL", x, y -> y.roster(0, -1), Checks.BEYOND);
    due("7: FULL", x, y -> y.roster(69, 63), Checks.FULL);
  }

  private static void feed() {
    DailyRelief x = new DailyRelief();
    for (int i = 0; i < 15; i++) {
      x.feed(0, 4);
    }
    for (int n : new int[] {-1, 0, 9, Integer.MAX_VALUE, Integer.MIN_VALUE}) {
      due("11: BEYOND " + n + ", FULL", x, y -> y.feed(0, n), Checks.BEYOND);
    }
    due("11: FULL", x, y -> y.feed(0, 1), Checks.FULL);
    due("11: FULL", x, y -> y.feed(0, 8), Checks.FULL);
  }

  private static void days() {
    DailyRelief x = new DailyRelief();
    for (int i = 0; i < 111; i++) {
      x.days(90);
    }
    x.days(9);
    for (int n : new int[] {0, -1, 91, Integer.MAX_VALUE, Integer.MIN_VALUE}) {
      due("14: BEYOND " + n + ", STATE", x, y -> y.days(n), Checks.BEYOND);
      due("15: BEYOND " + n + ", STATE", x, y -> y.draws(n), Checks.BEYOND);
    }
    due("14: STATE", x, y -> y.days(1), Checks.STATE);
    due("15: STATE", x, y -> y.draws(90), Checks.STATE);
  }

  /** BEYOND comes ahead of NONE, whichever number is out of its range. */
  private static void ahead() {
    DailyRelief x = Checks.ship(0);
    x.know(0, 0, 1);
    due("20: NONE", x, y -> y.lost(0, 90), Checks.NONE);
    due("20: BEYOND n", x, y -> y.lost(0, 91), Checks.BEYOND);
    due("20: BEYOND n", x, y -> y.lost(0, -1), Checks.BEYOND);
    due("20: BEYOND knack", x, y -> y.lost(6, 0), Checks.BEYOND);
    due("21: NONE", x, y -> y.teachers(1, 1, 0), Checks.NONE);
    due("21: NONE, the set", x, y -> y.teachers(1, 1, 1), Checks.NONE);
    due("21: BEYOND n", x, y -> y.teachers(1, 0, 0), Checks.BEYOND);
    due("21: BEYOND n", x, y -> y.teachers(1, 31, 1), Checks.BEYOND);
    due("21: BEYOND what", x, y -> y.teachers(1, 1, 2), Checks.BEYOND);
    due("21: BEYOND what", x, y -> y.teachers(1, 1, -1), Checks.BEYOND);
    due("21: BEYOND knack", x, y -> y.teachers(-1, 1, 0), Checks.BEYOND);
    due("22: NONE", x, y -> y.storm(1), Checks.NONE);
    due("22: BEYOND", x, y -> y.storm(2), Checks.BEYOND);
    due("22: BEYOND", x, y -> y.storm(-1), Checks.BEYOND);
    due("25: NONE", x, y -> y.began(1, 1), Checks.NONE);
    due("25: BEYOND version", x, y -> y.began(1, 1000), Checks.BEYOND);
    due("25: BEYOND version", x, y -> y.began(1, -1), Checks.BEYOND);
    due("25: BEYOND knack", x, y -> y.began(6, 1), Checks.BEYOND);
    Checks.due("22: how many is never NONE", x.storm(0), 0);
  }

  private static void handed() {
    due("26: STATE", fullShip(), x -> x.handed(0, 0), Checks.STATE);
    due("26: BEYOND knack", fullShip(), x -> x.handed(0, 6), Checks.BEYOND);
    due("26: BEYOND knack", fullShip(), x -> x.handed(0, -1), Checks.BEYOND);
    due("26: BEYOND bunk", fullShip(), x -> x.handed(6, 0), Checks.BEYOND);
    due("26: BEYOND bunk", fullShip(), x -> x.handed(-1, 0), Checks.BEYOND);
  }

  private static void voice() {
    due("28: PARTED", fullShip(), x -> x.voice(0, 3, 5), Checks.PARTED);
    due("28: BEYOND voice", fullShip(), x -> x.voice(0, 4, 5), Checks.BEYOND);
    due("28: BEYOND voice", fullShip(), x -> x.voice(0, -1, 5), Checks.BEYOND);
    due("28: BEYOND bunk", fullShip(), x -> x.voice(6, 3, 5), Checks.BEYOND);
    due("28: BEYOND bunk", new DailyRelief(), x -> x.voice(0, 3, 5), Checks.BEYOND);
  }

  private static void sheet() {
    int[] wrongBits = {-8, -1, 1, 7, 9, 24, 33, 64, Integer.MIN_VALUE, Integer.MAX_VALUE};
    for (int bits : wrongBits) {
      due("30: BEYOND bits, STATE", new DailyRelief(), x -> x.sheet(0, bits, -1), Checks.BEYOND);
      due("30: BEYOND bits", new DailyRelief(), x -> x.sheet(0, bits, 25), Checks.BEYOND);
    }
    for (int sheet : new int[] {-1, 4, Integer.MIN_VALUE, Integer.MAX_VALUE}) {
      due("30: BEYOND sheet, STATE", new DailyRelief(), x -> x.sheet(sheet, 8, -1), Checks.BEYOND);
      due("30: BEYOND sheet", new DailyRelief(), x -> x.sheet(sheet, 0, -1), Checks.BEYOND);
    }
    for (int bits = 8; bits <= 32; bits *= 2) {
      int of = bits;
      due("30: STATE", new DailyRelief(), x -> x.sheet(3, of, -1), Checks.STATE);
      due("30: STATE", new DailyRelief(), x -> x.sheet(3, of, Integer.MIN_VALUE), Checks.STATE);
      due("30: BEYOND n", new DailyRelief(), x -> x.sheet(3, of, 25), Checks.BEYOND);
    }
  }

  private static DailyRelief sheets() {
    DailyRelief x = new DailyRelief();
    x.sheet(0, 8, 2);
    x.sheet(1, 16, 2);
    return x;
  }

  private static void put() {
    due("31: BEYOND sheet, number", sheets(), x -> x.put(4, 2, 0), Checks.BEYOND);
    due("31: BEYOND sheet", sheets(), x -> x.put(-1, 0, 0), Checks.BEYOND);
    due("31: NONE, BEYOND number", sheets(), x -> x.put(2, -1, 0), Checks.NONE);
    due("31: NONE, BEYOND number", sheets(), x -> x.put(2, 24, 0), Checks.NONE);
    due("31: BEYOND number", sheets(), x -> x.put(0, 2, 0), Checks.BEYOND);
    due("31: BEYOND number", sheets(), x -> x.put(0, -1, 0), Checks.BEYOND);
  }

  private static void move() {
    due("32: BEYOND sheet, NONE", sheets(), x -> x.move(4, 0, 2, 0, 1), Checks.BEYOND);
    due("32: NONE, BEYOND other", sheets(), x -> x.move(2, 0, 4, 0, 1), Checks.BEYOND);
    due("32: BEYOND other, KIND", sheets(), x -> x.move(0, 0, -1, 0, 1), Checks.BEYOND);
    due("32: NONE, KIND", sheets(), x -> x.move(0, 0, 2, 0, 1), Checks.NONE);
    due("32: NONE, KIND", sheets(), x -> x.move(2, 0, 1, 0, 1), Checks.NONE);
    due("32: NONE, BEYOND n", sheets(), x -> x.move(2, 0, 3, 0, -1), Checks.NONE);
    due("32: NONE, BEYOND i", sheets(), x -> x.move(2, -1, 0, 0, 1), Checks.NONE);
    due("32: KIND, BEYOND n", sheets(), x -> x.move(0, 0, 1, 0, -1), Checks.KIND);
    due("32: KIND, BEYOND n", sheets(), x -> x.move(0, 0, 1, 0, 3), Checks.KIND);
    due("32: KIND, BEYOND i", sheets(), x -> x.move(0, 3, 1, 0, 0), Checks.KIND);
    due("32: KIND, BEYOND j", sheets(), x -> x.move(1, 0, 0, -1, 0), Checks.KIND);
    due("32: BEYOND n", sheets(), x -> x.move(0, 0, 0, 0, 3), Checks.BEYOND);
    due("32: BEYOND i", sheets(), x -> x.move(0, -1, 0, 0, 1), Checks.BEYOND);
    due("32: BEYOND j", sheets(), x -> x.move(0, 0, 0, 2, 1), Checks.BEYOND);
  }

  private static void rostersAndJudge() {
    for (int sheet : new int[] {-1, 4}) {
      due("33: BEYOND", sheets(), x -> x.rosters(sheet), Checks.BEYOND);
      due("34: BEYOND", sheets(), x -> x.judge(sheet), Checks.BEYOND);
    }
    due("33: NONE", sheets(), x -> x.rosters(2), Checks.NONE);
    due("34: NONE", sheets(), x -> x.judge(3), Checks.NONE);
  }

  private static void check() {
    DailyRelief x = Checks.ship(0);
    x.tell(5);
    due("38: BEYOND, though the first isn't so", x, y -> y.check(6), Checks.BEYOND);
    x.tell(0);
    due("38: BEYOND, though all are so", x, y -> y.check(-1), Checks.BEYOND);
    Checks.due("38: none wait", x.count(8), 0);
  }
}
