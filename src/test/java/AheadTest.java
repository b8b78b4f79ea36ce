/** Promises 18 to 27: what would be. */
public final class AheadTest {
  public static void main(String[] args) {
    then();
    thenTask();
    lost();
    teachers();
    storm();
    saves();
    changes();
    began();
    handed();
    wages();
    nothingChanges();
    Checks.end("AheadTest");
  }

  /** Men of all KINDS, a ROSTER, TASKS, TEXTS: what there can be. */
  private static DailyRelief full() {
    DailyRelief x = Checks.ship(3, 41, 22, 35, 51, 64);
    for (int i = 0; i < 6; i++) {
      x.know(i, i, 10 * i);
      x.know(i, 5 - i, i);
      x.set(i, 4, i);
    }
    x.roster(12, 3);
    x.roster(40, 0);
    x.roster(33, 20);
    x.roster(54, 0);
    x.roster(60, 32);
    x.task(0, 0, 2);
    x.task(1, 1, 3);
    x.task(2, 3, 1);
    Checks.text(x, 0, "h+k%2");
    Checks.text(x, 1, "d*2+h*(k+1)");
    return x;
  }

  private static void then() {
    DailyRelief ahead = full();
    DailyRelief x = full();
    for (int n = 0; n <= 12; n++) {
      for (int bunk = 0; bunk < 6; bunk++) {
        for (int what = 0; what < 24; what++) {
          // An object has 512 calls.
          DailyRelief y = what == 0 ? full() : ahead;
          ahead = y;
          Checks.due("18: then(" + n + ", " + bunk + ", " + what + ")", y.then(n, bunk, what),
              after(n).bunkIs(bunk, what));
        }
      }
    }
    Checks.due("18: n -1", x.then(-1, 0, 0), Checks.BEYOND);
    Checks.due("18: n 91", x.then(91, 0, 0), Checks.BEYOND);
    Checks.due("18: n 90", x.then(90, 0, 2), after(90).bunkIs(0, 2));
    Checks.due("18: bunk 6", x.then(0, 6, 0), Checks.BEYOND);
    Checks.due("18: what 24", x.then(0, 0, 24), Checks.BEYOND);
    for (int v : Checks.WILD) {
      Checks.due("18: n " + v, x.then(v, 0, 0), Checks.BEYOND);
      Checks.due("18: bunk " + v, x.then(0, v, 0), Checks.BEYOND);
      Checks.due("18: what " + v, x.then(0, 0, v), Checks.BEYOND);
    }
  }

  private static DailyRelief after(int n) {
    DailyRelief x = full();
    if (n > 0) {
      x.days(n);
    }
    return x;
  }

  private static void thenTask() {
    DailyRelief x = full();
    for (int n = 0; n <= 20; n++) {
      for (int task = 0; task < 4; task++) {
        for (int what = 0; what < 5; what++) {
          Checks.due("19: thenTask", x.thenTask(n, task, what), after(n).taskIs(task, what));
        }
      }
    }
    Checks.due("19: n 90", x.thenTask(90, 0, 3), after(90).taskIs(0, 3));
    Checks.due("19: task 4", x.thenTask(0, 4, 0), Checks.BEYOND);
    Checks.due("19: what 5", x.thenTask(0, 0, 5), Checks.BEYOND);
    Checks.due("19: n 91", x.thenTask(91, 0, 0), Checks.BEYOND);
    Checks.due("19: n -1", x.thenTask(-1, 0, 0), Checks.BEYOND);
    for (int v : Checks.WILD) {
      Checks.due("19: n " + v, x.thenTask(v, 0, 0), Checks.BEYOND);
      Checks.due("19: task " + v, x.thenTask(0, v, 0), Checks.BEYOND);
      Checks.due("19: what " + v, x.thenTask(0, 0, v), Checks.BEYOND);
    }
  }

  private static void lost() {
    DailyRelief x = Checks.ship(0, 0, 0, 0);
    x.know(2, 1, 4);
    Checks.due("20: no ROSTER", x.lost(1, 90), Checks.NONE);
    Checks.due("20: none KNOWS it now", x.lost(0, 0), 0);
    x.roster(0, 0);
    Checks.due("20: on DAY 2", x.lost(1, 90), 3);
    Checks.due("20: just by n", x.lost(1, 3), 3);
    Checks.due("20: not by n", x.lost(1, 2), Checks.NONE);
    Checks.due("20: n 0", x.lost(1, 0), Checks.NONE);
    x.set(2, 4, 1);
    Checks.due("20: taught on", x.lost(1, 90), 4);
    x.set(3, 4, 1);
    Checks.due("20: round", x.lost(1, 90), 5);
    Checks.due("20: without BUNKS", new DailyRelief().lost(0, 0), 0);
    Checks.due("20: DAY", x.count(3), 0);
    Checks.due("20: NONE", x.told(2), 3);
    Checks.due("20: n 91", x.lost(1, 91), Checks.BEYOND);
    Checks.due("20: n -1", x.lost(1, -1), Checks.BEYOND);
    for (int v : Checks.WILD) {
      Checks.due("20: n " + v, x.lost(0, v), Checks.BEYOND);
      Checks.due("20: knack " + v, x.lost(v, 0), Checks.BEYOND);
    }
    Checks.due("20: knack 6", x.lost(6, 0), Checks.BEYOND);
    Checks.due("20: knack -1", x.lost(-1, 0), Checks.BEYOND);
  }

  /** The same by trying each set of BUNKS out on an object of its own. */
  private static int[] bestTeachers(int knack, int n) {
    int[] best = {99, 0};
    for (int set = 0; set < 64; set++) {
      DailyRelief x = full();
      for (int i = 0; i < 6; i++) {
        x.set(i, 4, (set >> i & 1) != 0 ? knack : -1);
      }
      boolean known = true;
      for (int i = 0; i < n && known; i++) {
        x.days(1);
        known = (x.count(4) >> knack & 1) != 0;
      }
      if (known && Integer.bitCount(set) < best[0]) {
        best[0] = Integer.bitCount(set);
        best[1] = set;
      }
    }
    return best;
  }

  private static void teachers() {
    DailyRelief x = full();
    for (int knack = 0; knack < 6; knack++) {
      for (int n = 1; n <= 30; n++) {
        int[] best = bestTeachers(knack, n);
        boolean none = best[0] == 99;
        Checks.due("21: " + knack + " by " + n, x.teachers(knack, n, 0), none ? Checks.NONE : best[0]);
        Checks.due("21: set", x.teachers(knack, n, 1), none ? Checks.NONE : best[1]);
      }
    }
    fewestTeachers();
    othersTeachNothing();
    Checks.due("21: n 0", x.teachers(0, 0, 0), Checks.BEYOND);
    Checks.due("21: n 31", x.teachers(0, 31, 0), Checks.BEYOND);
    Checks.due("21: what 2", x.teachers(0, 1, 2), Checks.BEYOND);
    Checks.due("21: knack 6", x.teachers(6, 1, 0), Checks.BEYOND);
    for (int v : Checks.WILD) {
      Checks.due("21: knack " + v, x.teachers(v, 1, 0), Checks.BEYOND);
      Checks.due("21: n " + v, x.teachers(0, v, 0), Checks.BEYOND);
      Checks.due("21: what " + v, x.teachers(0, 1, v), Checks.BEYOND);
    }
  }

  private static void fewestTeachers() {
    DailyRelief x = Checks.ship(10, 10, 10, 10);
    x.roster(10, 0);
    x.know(1, 2, 4);
    Checks.due("21: by one DAY none", x.teachers(2, 1, 0), 0);
    Checks.due("21: by two DAYS one", x.teachers(2, 2, 0), 1);
    Checks.due("21: BUNK 1 hands it on", x.teachers(2, 2, 1), 2);
    Checks.due("21: BUNK 2, too", x.teachers(2, 3, 1), 6);
    Checks.due("21: BUNK 3, too", x.teachers(2, 4, 1), 14);
    x.set(2, 0, 0);
    Checks.due("21: a MAN in BUNK 2 has no time", x.teachers(2, 2, 0), Checks.NONE);
    fewestIsNotLeast();
    Checks.due("21: nobody KNOWS it", x.teachers(0, 1, 0), Checks.NONE);
    Checks.due("21: without BUNKS", new DailyRelief().teachers(0, 1, 1), Checks.NONE);
    // One who doesn't KNOW it now may bring it along on the first DAY.
    DailyRelief brought = Checks.ship(0);
    brought.roster(0, 1);
    Checks.due("21: brought", brought.teachers(0, 30, 0), 0);
    Checks.due("21: the set of none", brought.teachers(0, 30, 1), 0);
  }

  /** Of each KNACK: those outside the set teach nothing, though now all teach it. */
  private static void othersTeachNothing() {
    for (int knack = 0; knack < 6; knack++) {
      DailyRelief x = Checks.ship(10, 10, 10, 10);
      x.roster(10, 0);
      x.know(1, knack, 4);
      for (int i = 0; i < 4; i++) {
        x.set(i, 4, knack);
      }
      Checks.due("21: one is enough", x.teachers(knack, 2, 0), 1);
      Checks.due("21: BUNK 1, of KNACK " + knack, x.teachers(knack, 2, 1), 2);
    }
  }

  /** A ship in which the STAYERS in BUNKS 2 and 4 stay for ever, and all others go. */
  private static DailyRelief twoForEver() {
    DailyRelief x = Checks.ship(0, 10, 50, 0, 50, 0);
    x.days(4);
    x.roster(10, 0);
    x.know(3, 0, 1);
    return x;
  }

  /** The fewest come ahead of the least as bits, which is asked among sets of one size alone. */
  private static void fewestIsNotLeast() {
    DailyRelief x = twoForEver();
    x.know(0, 0, 1);
    Checks.due("21: not 0 and 1", x.teachers(0, 30, 0), 1);
    Checks.due("21: but 3", x.teachers(0, 30, 1), 8);
    x.know(1, 0, 1);
    Checks.due("21: 1 or 3", x.teachers(0, 30, 0), 1);
    Checks.due("21: 1 is less", x.teachers(0, 30, 1), 2);
    x.know(3, 0, -1);
    x.know(1, 0, -1);
    Checks.due("21: now 0 and 1", x.teachers(0, 30, 1), 3);
    x.set(0, 4, 0);
    Checks.due("21: BUNK 0 teaches nothing unless it must", x.teachers(0, 30, 1), 3);
  }

  private static void storm() {
    DailyRelief x = new DailyRelief();
    Checks.due("22: no pair", x.storm(0), 0);
    Checks.due("22: no first", x.storm(1), Checks.NONE);
    x.bunk(0);
    Checks.due("22: one man is none", x.storm(0), 0);
    x.bunk(55);
    Checks.due("22: STAYERS, too", x.storm(0), 1);
    Checks.due("22: first", x.storm(1), 1);
    x.bunk(0);
    x.bunk(0);
    Checks.due("22: six pairs", x.storm(0), 6);
    x.task(0, 1, 1);
    Checks.due("22: not done even now", x.storm(0), 0);
    x.know(0, 1, 3);
    Checks.due("22: all but 0", x.storm(0), 3);
    Checks.due("22: 1 and 2", x.storm(1), 12);
    x.know(1, 1, 9);
    Checks.due("22: not both", x.storm(0), 5);
    Checks.due("22: 0 and 2", x.storm(1), 2);
    x.task(1, 5, 1);
    x.know(2, 5, 0);
    Checks.due("22: two TASKS", x.storm(0), 2);
    Checks.due("22: 0 and 3", x.storm(1), 3);
    x.task(2, 5, 2);
    Checks.due("22: none", x.storm(1), Checks.NONE);
    x.task(2, 5, 0);
    Checks.due("22: no such TASK any more", x.storm(0), 2);
    DailyRelief three = Checks.ship(0, 0, 0);
    three.task(0, 2, 1);
    three.know(1, 2, 0);
    three.know(2, 2, 0);
    Checks.due("22: one of those who KNOW it", three.storm(0), 2);
    Checks.due("22: the first of them", three.storm(1), 1);
    Checks.due("22: what 2", x.storm(2), Checks.BEYOND);
    for (int v : Checks.WILD) {
      Checks.due("22: what " + v, x.storm(v), Checks.BEYOND);
    }
  }

  private static void saves() {
    for (int book = 0; book < 64; book += 9) {
      for (int knack = 0; knack < 6; knack++) {
        for (int n = 0; n <= 90; n += 15) {
          DailyRelief x = full();
          x.book(book);
          int with = doneWith(book | 1 << knack, n);
          int without = doneWith(book & ~(1 << knack), n);
          Checks.due("23: saves", x.saves(knack, n), with - without);
          Checks.due("23: THE BOOK stays", x.count(5), book);
        }
      }
    }
    DailyRelief x = Checks.ship(0, 0);
    x.roster(0, 0);
    x.task(0, 3, 1);
    x.task(1, 3, 2);
    Checks.due("23: two TASKS", x.saves(3, 4), 4 + 3);
    Checks.due("23: no DAYS", x.saves(3, 0), 0);
    x.book(8);
    Checks.due("23: as if it weren't written", x.saves(3, 4), 7);
    Checks.due("23: n 91", x.saves(0, 91), Checks.BEYOND);
    Checks.due("23: n -1", x.saves(0, -1), Checks.BEYOND);
    Checks.due("23: knack 6", x.saves(6, 0), Checks.BEYOND);
    for (int v : Checks.WILD) {
      Checks.due("23: knack " + v, x.saves(v, 0), Checks.BEYOND);
      Checks.due("23: n " + v, x.saves(0, v), Checks.BEYOND);
    }
  }

  private static int doneWith(int book, int n) {
    DailyRelief x = full();
    x.book(book);
    int done = 0;
    for (int task = 0; task < 4; task++) {
      done += x.thenTask(n, task, 3);
    }
    return done;
  }

  private static void changes() {
    DailyRelief x = Checks.ship(0, 0, 0, 0, 0, 0);
    Checks.due("24: nobody KNOWS it", x.changes(2, 5), 0);
    x.know(0, 2, 5);
    x.know(2, 2, 7);
    x.know(3, 2, 7);
    x.know(5, 2, 5);
    Checks.due("24: as at first", x.changes(2, 5), 2);
    Checks.due("24: another at first", x.changes(2, 7), 3);
    Checks.due("24: 0 at first", x.changes(2, 0), 3);
    Checks.due("24: 999", x.changes(2, 999), 3);
    x.know(4, 2, 0);
    Checks.due("24: VERSION 0 is one", x.changes(2, 5), 3);
    Checks.due("24: v 1000", x.changes(2, 1000), Checks.BEYOND);
    Checks.due("24: v -1", x.changes(2, -1), Checks.BEYOND);
    Checks.due("24: knack 6", x.changes(6, 0), Checks.BEYOND);
    for (int v : Checks.WILD) {
      Checks.due("24: knack " + v, x.changes(v, 0), Checks.BEYOND);
    }
  }

  private static void began() {
    DailyRelief x = Checks.ship(0, 0, 0);
    Checks.due("25: nobody has it", x.began(0, 0), Checks.NONE);
    x.roster(0, 1);
    x.days(7);
    Checks.due("25: least DAY", x.began(0, 1), 4);
    Checks.due("25: another VERSION", x.began(0, 2), Checks.NONE);
    Checks.due("25: another KNACK", x.began(1, 0), Checks.NONE);
    x.know(0, 0, 8);
    Checks.due("25: one has it so", x.began(0, 8), 6);
    x.know(1, 0, 9);
    Checks.due("25: of the others", x.began(0, 1), 5);
    x.bunk(0);
    x.know(3, 0, 1);
    Checks.due("25: by hand", x.began(0, 1), -1);
    x.bunk(0);
    x.bunk(0);
    Checks.due("25: among six", x.began(0, 8), 6);
    Checks.due("25: version 1000", x.began(0, 1000), Checks.BEYOND);
    Checks.due("25: version -1", x.began(0, -1), Checks.BEYOND);
    Checks.due("25: knack 6", x.began(6, 0), Checks.BEYOND);
    for (int v : Checks.WILD) {
      Checks.due("25: knack " + v, x.began(v, 0), Checks.BEYOND);
    }
  }

  private static void handed() {
    DailyRelief x = Checks.ship(0, 19, 39, 49, 29, 69);
    for (int i = 0; i < 6; i++) {
      Checks.due("26: doesn't KNOW it", x.handed(i, 3), Checks.STATE);
    }
    int[] due = {4, 3, 2, 1, 0, 5};
    for (int i = 0; i < 6; i++) {
      x.know(i, 3, 1);
      Checks.due("26: from " + i, x.handed(i, 3), due[i]);
      x.know(i, 3, -1);
    }
    x.know(2, 3, 1);
    x.set(4, 0, 5);
    Checks.due("26: a STAYER is MUTE", x.handed(2, 3), 2);
    x.set(4, 0, 0);
    Checks.due("26: all others", x.handed(2, 3), 5);
    x.know(4, 3, 1);
    Checks.due("26: one of them KNOWS it", x.handed(2, 3), 5);
    Checks.due("26: nobody else", handedAlone(), 0);
    Checks.due("26: bunk 6", x.handed(6, 3), Checks.BEYOND);
    Checks.due("26: knack 6", x.handed(2, 6), Checks.BEYOND);
    for (int v : Checks.WILD) {
      Checks.due("26: bunk " + v, x.handed(v, 3), Checks.BEYOND);
      Checks.due("26: knack " + v, x.handed(0, v), Checks.BEYOND);
    }
  }

  private static int handedAlone() {
    DailyRelief x = Checks.ship(0);
    x.know(0, 3, 1);
    return x.handed(0, 3);
  }

  private static void wages() {
    DailyRelief x = full();
    int all = 0;
    for (int n = 1; n <= 50; n++) {
      DailyRelief then = after(n);
      for (int bunk = 0; bunk < 6; bunk++) {
        all += then.bunkIs(bunk, 5);
      }
      Checks.due("27: wages(" + n + ")", x.wages(n), all);
    }
    Checks.due("27: without BUNKS", new DailyRelief().wages(90), 0);
    DailyRelief dear = Checks.ship(0, 0, 0, 0, 0, 0);
    Checks.text(dear, 1, "9999");
    Checks.due("27: the most", dear.wages(90), 90 * 6 * 999);
    Checks.due("27: 0", x.wages(0), Checks.BEYOND);
    Checks.due("27: 91", x.wages(91), Checks.BEYOND);
    for (int v : Checks.WILD) {
      Checks.due("27: " + v, x.wages(v), Checks.BEYOND);
    }
  }

  /** What would be is told, but doesn't come to be. */
  private static void nothingChanges() {
    DailyRelief x = full();
    Checks.feed(x, "1+");
    x.tell(7);
    x.then(90, 0, 0);
    x.thenTask(90, 0, 0);
    x.lost(0, 90);
    x.teachers(0, 30, 0);
    x.storm(0);
    x.saves(0, 90);
    x.handed(0, 0);
    x.wages(90);
    DailyRelief same = full();
    Checks.feed(same, "1+");
    same.tell(7);
    for (int bunk = 0; bunk < 6; bunk++) {
      for (int what = 0; what < 24; what++) {
        Checks.due("18: a man stays", x.bunkIs(bunk, what), same.bunkIs(bunk, what));
      }
    }
    for (int task = 0; task < 4; task++) {
      for (int what = 0; what < 5; what++) {
        Checks.due("19: a TASK stays", x.taskIs(task, what), same.taskIs(task, what));
      }
    }
    for (int what = 0; what <= 10; what++) {
      Checks.due("18: count stays", x.count(what), same.count(what));
    }
  }
}
