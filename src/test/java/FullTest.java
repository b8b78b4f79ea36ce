/** What is full, and what is held at its most or at its least. */
public final class FullTest {
  public static void main(String[] args) {
    bunks();
    roster();
    rosterBySheet();
    tape();
    longestText();
    waiting();
    lastDay();
    needs();
    mostLessons();
    wages();
    versions();
    misheardVersions();
    tasksCount();
    Checks.end("FullTest");
  }

  private static void bunks() {
    DailyRelief x = new DailyRelief();
    for (int i = 0; i < 6; i++) {
      Checks.due("2: behind all", x.bunk(10 * i), i);
      Checks.due("39: BUNKS", x.count(0), 1 + i);
    }
    for (int km = 0; km <= 69; km++) {
      Checks.due("2: FULL", x.bunk(km), Checks.FULL);
    }
    Checks.due("40: FULL, each time", x.told(4), 70);
    Checks.due("39: at most 6", x.count(0), 6);
    for (int i = 0; i < 6; i++) {
      Checks.due("2: they stay", x.bunkIs(i, 0), i);
    }
    DailyRelief y = Checks.ship(0, 0, 0, 0, 0);
    y.image();
    y.bunk(0);
    Checks.due("2: FULL now", y.bunk(0), Checks.FULL);
    y.restore();
    Checks.due("36: there is room again", y.bunk(0), 5);
  }

  private static void roster() {
    DailyRelief x = Checks.ship(0);
    for (int i = 1; i <= 12; i++) {
      Checks.due("7: how many", x.roster(i, i), i);
      Checks.due("39: men", x.count(1), i);
    }
    Checks.due("7: FULL", x.roster(0, 0), Checks.FULL);
    Checks.due("7: FULL still", x.roster(69, 63), Checks.FULL);
    Checks.due("39: at most 12", x.count(1), 12);
    for (int i = 1; i <= 25; i++) {
      x.days(1);
      int man = (i - 1) % 12 + 1;
      Checks.due("14: KIND and m", 10 * x.bunkIs(0, 0) + x.bunkIs(0, 1), man);
      Checks.due("14: what he brings", x.bunkIs(0, 3), man);
      Checks.due("14: NEXT goes round", x.count(2), i % 12);
    }
  }

  private static void rosterBySheet() {
    for (int there = 0; there <= 12; there++) {
      DailyRelief x = Checks.ship(0);
      for (int i = 0; i < there; i++) {
        x.roster(0, 0);
      }
      x.sheet(0, 8, 24);
      Checks.due("33: up to 12", x.rosters(0), 12 - there);
      Checks.due("33: no ERROR", Checks.errors(x), 0);
      Checks.due("39: 12", x.count(1), 12);
      Checks.due("33: none more", x.rosters(0), 0);
      Checks.due("33: no ERROR either", Checks.errors(x), 0);
      Checks.due("7: FULL", x.roster(0, 0), Checks.FULL);
    }
  }

  /** With each number of bytes on THE TAPE, each n that has room still, and the first that hasn't. */
  private static void tape() {
    for (int there = 53; there <= 60; there++) {
      for (int n = 1; n <= 8; n++) {
        DailyRelief x = new DailyRelief();
        for (int i = 0; i < there; i++) {
          x.feed('1', 1);
        }
        boolean room = there + n <= 60;
        Checks.due("11: " + n + " more", x.feed(-1L, n), room ? there + n : Checks.FULL);
        Checks.due("11: bytes", x.count(7), room ? there + n : there);
        Checks.due("40: FULL", x.told(4), room ? 0 : 1);
        Checks.due("12: what stands there", x.text(0), -14);
        Checks.due("11: there is room again", x.feed(0, 8), 8);
      }
    }
  }

  private static void longestText() {
    StringBuilder ones = new StringBuilder("1");
    while (ones.length() < 59) {
      ones.append("+1");
    }
    DailyRelief x = Checks.ship(60);
    Checks.due("12: 59 bytes", Checks.text(x, 0, ones.toString()), 1);
    Checks.due("12: thirty ones", x.bunkIs(0, 18), 30);
    Checks.due("12: 60 bytes", Checks.text(x, 0, ones + "5"), 1);
    Checks.due("12: the last is 15", x.bunkIs(0, 18), 44);
    Checks.due("12: ends too early", Checks.text(x, 0, ones + "+"), -70);
    Checks.due("12: the last byte", Checks.text(x, 0, ones + "x"), -69);
    Checks.due("12: stays", x.bunkIs(0, 18), 44);
    StringBuilder nots = new StringBuilder();
    for (int i = 0; i < 10; i++) {
      nots.append("!!!!1+");
    }
    nots.setLength(59);
    Checks.due("12: ten times four !", Checks.text(x, 0, nots.toString()), 1);
    Checks.due("12: ten", x.bunkIs(0, 18), 10);
    // As many steps as bytes: each is a NAME or a sign.
    StringBuilder names = new StringBuilder("!k");
    while (names.length() < 60) {
      names.append("+k");
    }
    Checks.due("12: sixty steps", Checks.text(x, 0, names.toString()), 1);
    Checks.due("12: of KNACK 2", x.bunkIs(0, 20), 58);
    Checks.due("12: of KNACK 0", x.bunkIs(0, 18), 1);
  }

  private static void waiting() {
    DailyRelief x = Checks.ship(0, 0);
    x.know(0, 0, 1);
    for (int i = 1; i <= 24; i++) {
      Checks.due("37: how many", x.tell(1), i);
    }
    Checks.due("37: FULL", x.tell(1), Checks.FULL);
    Checks.due("37: FULL still", x.tell(Integer.MIN_VALUE), Checks.FULL);
    Checks.due("39: 24 wait", x.count(8), 24);
    Checks.due("38: all 24 are so", x.check(0), 0);
    for (int i = 1; i <= 24; i++) {
      Checks.due("37: there is room again", x.tell(i < 24 ? 1 : 0), i);
    }
    x.tell(1);
    Checks.due("38: the last isn't so", x.check(0), 24);
    for (int i = 1; i <= 24; i++) {
      x.tell(1);
    }
    Checks.due("38: BEYOND", x.check(-1), Checks.BEYOND);
    Checks.due("37: none waits then, too", x.tell(1), 1);
  }

  private static DailyRelief onDay(int day) {
    DailyRelief x = Checks.ship(0, 0);
    x.roster(0, 0);
    for (int i = day; i > 0; i -= 90) {
      x.days(Math.min(90, i));
    }
    return x;
  }

  /** STATE is told just if DAY would be above 9999, for each n. */
  private static void lastDay() {
    for (int n = 1; n <= 90; n += n < 4 ? 1 : 43) {
      DailyRelief x = onDay(9999 - n);
      Checks.due("14: one too many", n < 90 ? x.days(n + 1) : Checks.STATE, Checks.STATE);
      Checks.due("14: just 9999", x.days(n), n);
      Checks.due("39: DAY", x.count(3), 9999);
      DailyRelief y = onDay(9999 - n);
      Checks.due("15: one too many", n < 90 ? y.draws(n + 1) : Checks.STATE, Checks.STATE);
      Checks.due("15: just 9999", y.draws(n), 0);
      Checks.due("39: DAY", y.count(3), 9999);
    }
    DailyRelief x = onDay(9999);
    for (int n = 1; n <= 90; n++) {
      Checks.due("14: not on 9999", x.days(n), Checks.STATE);
      Checks.due("15: not on 9999", x.draws(n), Checks.STATE);
    }
    Checks.due("39: DAY", x.count(3), 9999);
    Checks.due("18: AHEAD goes on", x.then(1, 1, 2), 9999);
    Checks.due("18: beyond", x.then(90, 0, 2), 10088);
    Checks.due("36: an IMAGE of the last DAY", x.image(), 1);
    Checks.due("36: it is", x.restore(), 9999);
    staysBeyond();
  }

  /** A STAYER of m 0 stays on even DAYS, on those beyond 9999, too. */
  private static void staysBeyond() {
    DailyRelief x = onDay(9999);
    DailyRelief y = Checks.ship(50);
    for (int i = 0; i < 111; i++) {
      y.days(90);
    }
    y.days(9);
    y.roster(50, 0);
    int[] came = {-1, 9999, 9999, 10001, 10001, 10003, 10003};
    for (int n = 0; n < came.length; n++) {
      Checks.due("18: a STAYER beyond 9999", y.then(n, 0, 2), came[n]);
    }
    Checks.text(x, 1, "d");
    Checks.due("27: DAYS since he CAME, beyond 9999", x.wages(3), 3 * (1 + 2));
  }

  private static void needs() {
    String[] texts = {"0-9999", "0-1", "0", "1", "2", "98", "99", "100", "9999", "9999*9999"};
    int[] due = {1, 1, 1, 1, 2, 98, 99, 99, 99, 99};
    for (int i = 0; i < texts.length; i++) {
      DailyRelief x = Checks.ship(65);
      Checks.text(x, 0, texts[i]);
      Checks.due("3: NEEDS of " + texts[i], x.bunkIs(0, 18), due[i]);
    }
    // A MUTE one's NEEDS are never out of 1 .. 99.
    Checks.due("3: the most of a MUTE one", Checks.ship(29).bunkIs(0, 18), 11);
  }

  /** One who NEEDS 99 has 98 LESSONS without KNOWING it, and 99 when he does. */
  private static void mostLessons() {
    DailyRelief x = Checks.ship(0, 60);
    Checks.text(x, 0, "999");
    x.know(0, 1, 5);
    x.set(0, 4, 1);
    x.days(90);
    x.days(8);
    Checks.due("14: 98", x.bunkIs(1, 13), 98);
    Checks.due("14: not yet", x.bunkIs(1, 3), 0);
    x.days(1);
    Checks.due("14: 99", x.bunkIs(1, 13), 99);
    Checks.due("14: he KNOWS it", x.bunkIs(1, 7), 5);
    x.days(90);
    Checks.due("14: 99 at most", x.bunkIs(1, 13), 99);
    Checks.due("6: not any more", x.know(1, 1, -1), 5);
    Checks.due("6: none", x.bunkIs(1, 13), 0);
    lessonsOverNeeds();
  }

  /** NEEDS may fall below the LESSONS so far: the next one is enough then. */
  private static void lessonsOverNeeds() {
    DailyRelief x = Checks.ship(0, 29);
    x.know(0, 1, 5);
    x.set(0, 4, 1);
    x.days(7);
    x.set(1, 0, 1);
    Checks.due("14: not without a LESSON", x.bunkIs(1, 3), 0);
    x.days(1);
    Checks.due("14: NEEDS or more", x.bunkIs(1, 3), 2);
    Checks.due("14: LESSONS", x.bunkIs(1, 13), 8);
  }

  private static void wages() {
    String[] texts = {"0-9999", "0-1", "0", "1", "998", "999", "1000", "9999", "9999*9999"};
    int[] due = {0, 0, 0, 1, 998, 999, 999, 999, 999};
    for (int i = 0; i < texts.length; i++) {
      DailyRelief x = Checks.ship(5, 5);
      Checks.text(x, 1, texts[i]);
      Checks.due("3: WAGES of " + texts[i], x.bunkIs(0, 5), due[i]);
      Checks.due("27: each is held", x.wages(3), 6 * due[i]);
    }
    DailyRelief x = Checks.ship(0, 0, 0, 0, 0, 0);
    Checks.text(x, 1, "1000");
    Checks.due("27: the most", x.wages(90), 999 * 6 * 90);
  }

  private static int taught(int km, int knack, int version) {
    DailyRelief x = Checks.ship(km, 10);
    x.know(0, knack, version);
    x.set(0, 4, knack);
    x.days(1);
    return x.bunkIs(1, 6 + knack);
  }

  /** The VERSION that one tells is held within 0 .. 999. */
  private static void versions() {
    Checks.due("14: a MAN's 999", taught(9, 1, 999), 999);
    Checks.due("14: a LIAR's 990", taught(39, 0, 990), 999);
    Checks.due("14: a LIAR's 991", taught(39, 0, 991), 999);
    Checks.due("14: a LIAR's 999", taught(39, 0, 999), 999);
    Checks.due("14: with m 0", taught(30, 0, 999), 999);
    Checks.due("14: a LIAR's 989", taught(39, 0, 989), 998);
    Checks.due("14: a TWIN's 998", taught(40, 1, 998), 999);
    Checks.due("14: a TWIN's 999", taught(40, 1, 999), 999);
    Checks.due("14: of an even KNACK", taught(40, 4, 998), 998);
    Checks.due("14: a LIAR's 0", taught(39, 0, 0), 9);
    Checks.due("14: a MAN's 0", taught(9, 1, 0), 0);
  }

  /** A VERSION misheard is 1 more than the one told, 999 at most. */
  private static void misheardVersions() {
    int[] versions = {0, 997, 998, 999};
    int[] due = {1, 998, 999, 999};
    for (int i = 0; i < versions.length; i++) {
      DailyRelief x = Checks.ship(0, 10);
      x.misheard(16);
      x.know(0, 3, versions[i]);
      x.set(0, 4, 3);
      x.draws(1);
      Checks.due("15: misheard " + versions[i], x.bunkIs(1, 9), due[i]);
    }
    DailyRelief x = Checks.ship(39, 10);
    x.misheard(16);
    x.know(0, 3, 995);
    x.set(0, 4, 3);
    x.draws(1);
    Checks.due("15: held already", x.bunkIs(1, 9), 999);
  }

  /** DONE and FAILED can't come to 999999 in 512 calls; as far as they come, each DAY counts. */
  private static void tasksCount() {
    DailyRelief x = Checks.ship(0);
    x.know(0, 0, 0);
    x.task(0, 0, 1);
    x.task(1, 0, 2);
    for (int i = 0; i < 111; i++) {
      x.days(90);
    }
    x.draws(9);
    Checks.due("10: DONE on each DAY", x.taskIs(0, 3), 9999);
    Checks.due("10: FAILED on none", x.taskIs(0, 4), 0);
    Checks.due("10: FAILED on each DAY", x.taskIs(1, 4), 9999);
    Checks.due("19: beyond 9999, too", x.thenTask(90, 0, 3), 10089);
  }
}
