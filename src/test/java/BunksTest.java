/** Promises 1 to 10: bunks, the roster, tasks. */
public final class BunksTest {
  public static void main(String[] args) {
    newObject();
    bunk();
    bunkIs();
    as();
    set();
    know();
    roster();
    book();
    task();
    taskIs();
    Checks.end("BunksTest");
  }

  private static void newObject() {
    DailyRelief x = new DailyRelief();
    int[] counts = {0, 0, 0, 0, 0, 0, 4, 0, 0, 0, 1};
    for (int what = 0; what < counts.length; what++) {
      Checks.due("1: count(" + what + ")", x.count(what), counts[what]);
    }
    for (int task = 0; task < 4; task++) {
      for (int what = 0; what < 5; what++) {
        Checks.due("1: taskIs(" + task + ", " + what + ")", x.taskIs(task, what), 0);
      }
    }
    for (int k = 1; k <= 6; k++) {
      Checks.due("1: told(" + k + ")", x.told(k), 0);
    }
    Checks.due("1: bunkIs", x.bunkIs(0, 0), Checks.BEYOND);
    Checks.due("1: untell(0)", x.untell(0), 0);
    Checks.due("1: untell(1)", x.untell(1), 0);
    Checks.due("1: judge(0)", x.judge(0), Checks.NONE);
    Checks.due("1: restore()", x.restore(), Checks.NONE);
    Checks.due("1: body(0)", x.body(0), Checks.NONE);
    Checks.due("1: days(2) without bunks", x.days(2), 0);
    Checks.due("1: DAY goes on", x.count(3), 2);
  }

  private static void bunk() {
    DailyRelief x = new DailyRelief();
    Checks.due("2: -1", x.bunk(-1), Checks.BEYOND);
    Checks.due("2: 70", x.bunk(70), Checks.BEYOND);
    for (int v : Checks.WILD) {
      Checks.due("2: bunk(" + v + ")", x.bunk(v), Checks.BEYOND);
    }
    Checks.due("2: none came", x.count(0), 0);
    x.book(63);
    for (int i = 0; i < 6; i++) {
      Checks.due("2: number", x.bunk(10 * i + 9 - i), i);
      Checks.due("2: KIND", x.bunkIs(i, 0), i);
      Checks.due("2: m", x.bunkIs(i, 1), 9 - i);
      Checks.due("2: KNOWS nothing", x.bunkIs(i, 3), 0);
      Checks.due("2: by hand", x.bunkIs(i, 2), -1);
      Checks.due("2: teaches none", x.bunkIs(i, 4), -1);
    }
    Checks.due("2: full", x.bunk(0), Checks.FULL);
    Checks.due("2: BEYOND ahead of FULL", x.bunk(70), Checks.BEYOND);
    Checks.due("2: still six", x.count(0), 6);
    Checks.due("2: 69", Checks.ship(69).bunkIs(0, 0), 6);
    bunkOnOldPlace();
  }

  /** A BUNK that a restore() took away is new when it comes again. */
  private static void bunkOnOldPlace() {
    DailyRelief x = new DailyRelief();
    x.image();
    x.bunk(25);
    x.know(0, 3, 7);
    x.set(0, 4, 3);
    x.restore();
    x.bunk(0);
    int[] due = {0, 0, -1, 0, -1, 1, 0, 0, 0, 0, 0, 0, 0, 0, 0, 0, 0, 0, 2, 2, 2, 2, 2, 2};
    for (int what = 0; what < due.length; what++) {
      Checks.due("2: bunkIs(0, " + what + ")", x.bunkIs(0, what), due[what]);
    }
  }

  private static void bunkIs() {
    DailyRelief x = Checks.ship(13, 29);
    x.know(1, 0, 5);
    x.know(1, 5, 999);
    x.set(1, 4, 5);
    x.set(0, 4, 2);
    x.know(0, 2, 8);
    x.days(2);
    int[] quick = {1, 3, -1, 4, 2, 2, 0, 0, 8, 0, 0, 0, 0, 0, 0, 0, 0, 0, 1, 1, 1, 1, 1, 1};
    int[] mute = {2, 9, -1, 33, 5, 3, 5, 0, 0, 0, 0, 999, 0, 0, 2, 0, 0, 0, 11, 11, 11, 11, 11, 11};
    for (int what = 0; what < 24; what++) {
      Checks.due("3: quick " + what, x.bunkIs(0, what), quick[what]);
      Checks.due("3: mute " + what, x.bunkIs(1, what), mute[what]);
    }
    needs();
    Checks.due("3: what 24", x.bunkIs(0, 24), Checks.BEYOND);
    Checks.due("3: what -1", x.bunkIs(0, -1), Checks.BEYOND);
    Checks.due("3: bunk 2", x.bunkIs(2, 0), Checks.BEYOND);
    for (int v : Checks.WILD) {
      Checks.due("3: bunk " + v, x.bunkIs(v, 0), Checks.BEYOND);
      Checks.due("3: what " + v, x.bunkIs(0, v), Checks.BEYOND);
    }
  }

  private static void needs() {
    int[] kms = {9, 19, 29, 39, 49, 59, 69, 60, 61, 20};
    int[] due = {2, 1, 11, 2, 1, 2, 9, 1, 1, 2};
    for (int i = 0; i < kms.length; i++) {
      Checks.due("3: NEEDS of " + kms[i], Checks.ship(kms[i]).bunkIs(0, 18 + i % 6), due[i]);
    }
  }

  private static void as() {
    int[][] under = {{0}, {0, 1}, {0, 2}, {0, 3}, {0, 1, 4}, {0, 2, 5}, {0, 6}};
    for (int kind = 0; kind < 7; kind++) {
      DailyRelief x = Checks.ship(10 * kind);
      x.know(0, 1, 0);
      x.know(0, 4, 3);
      for (int above = 0; above < 7; above++) {
        boolean is = false;
        for (int k : under[kind]) {
          is |= k == above;
        }
        Checks.due("4: " + kind + " as " + above, x.as(0, above), is ? 18 : Checks.KIND);
      }
      Checks.due("4: told", x.told(5), 7 - under[kind].length);
      Checks.due("4: bunk 1", x.as(1, 0), Checks.BEYOND);
      Checks.due("4: kind 7", x.as(0, 7), Checks.BEYOND);
      Checks.due("4: kind -1", x.as(0, -1), Checks.BEYOND);
    }
    for (int v : Checks.WILD) {
      Checks.due("4: bunk " + v, Checks.ship(0).as(v, 0), Checks.BEYOND);
      Checks.due("4: kind " + v, Checks.ship(0).as(0, v), Checks.BEYOND);
    }
  }

  private static void set() {
    DailyRelief x = Checks.ship(34);
    x.know(0, 0, 5);
    Checks.due("5: KIND", x.set(0, 0, 6), 3);
    Checks.due("5: KIND again", x.set(0, 0, 0), 6);
    Checks.due("5: m", x.set(0, 1, 9), 4);
    Checks.due("5: m again", x.set(0, 1, 0), 9);
    Checks.due("5: taught", x.set(0, 4, 5), -1);
    Checks.due("5: taught again", x.set(0, 4, 0), 5);
    Checks.due("5: none taught", x.set(0, 4, -1), 0);
    Checks.due("5: none was taught", x.set(0, 4, 2), -1);
    Checks.due("5: what he KNOWS stays", x.bunkIs(0, 3), 1);
    int[][] wrong = {{0, 7}, {0, -1}, {1, 10}, {1, -1}, {4, 6}, {4, -2}, {2, 0}, {3, 0}, {5, 0},
        {6, 0}, {-1, 0}, {24, 0}};
    for (int[] w : wrong) {
      Checks.due("5: what " + w[0] + ", v " + w[1], x.set(0, w[0], w[1]), Checks.BEYOND);
    }
    Checks.due("5: bunk 1", x.set(1, 0, 0), Checks.BEYOND);
    Checks.due("5: bunk -1", x.set(-1, 0, 0), Checks.BEYOND);
    Checks.due("5: KIND is", x.bunkIs(0, 0), 0);
    Checks.due("5: m is", x.bunkIs(0, 1), 0);
    Checks.due("5: taught is", x.bunkIs(0, 4), 2);
  }

  private static void know() {
    DailyRelief x = Checks.ship(0, 20);
    Checks.due("6: not known", x.know(0, 3, 999), -1);
    Checks.due("6: as it was", x.know(0, 3, 0), 999);
    Checks.due("6: VERSION 0", x.know(0, 3, 4), 0);
    Checks.due("6: bits", x.bunkIs(0, 3), 8);
    x.set(0, 4, 3);
    x.days(1);
    Checks.due("6: a LESSON", x.bunkIs(1, 15), 1);
    Checks.due("6: not any more, never was", x.know(1, 3, -1), -1);
    Checks.due("6: LESSONS are 0", x.bunkIs(1, 15), 0);
    x.days(2);
    Checks.due("6: he KNOWS", x.bunkIs(1, 9), 4);
    Checks.due("6: LESSONS stay", x.bunkIs(1, 15), 2);
    Checks.due("6: by hand", x.know(1, 3, 6), 4);
    Checks.due("6: LESSONS still stay", x.bunkIs(1, 15), 2);
    Checks.due("6: not any more", x.know(1, 3, -1), 6);
    Checks.due("6: bits of none", x.bunkIs(1, 3), 0);
    Checks.due("6: VERSION of none", x.bunkIs(1, 9), 0);
    Checks.due("6: LESSONS of none", x.bunkIs(1, 15), 0);
    int[][] wrong = {{2, 0, 0}, {-1, 0, 0}, {0, 6, 0}, {0, -1, 0}, {0, 0, 1000}, {0, 0, -2}};
    for (int[] w : wrong) {
      Checks.due("6: wrong", x.know(w[0], w[1], w[2]), Checks.BEYOND);
    }
    for (int v : Checks.WILD) {
      Checks.due("6: bunk " + v, x.know(v, 0, 0), Checks.BEYOND);
      Checks.due("6: knack " + v, x.know(0, v, 0), Checks.BEYOND);
    }
    Checks.due("6: bits as ahead", x.bunkIs(0, 3), 8);
  }

  private static void roster() {
    DailyRelief x = Checks.ship(0, 0);
    Checks.due("7: km 70", x.roster(70, 0), Checks.BEYOND);
    Checks.due("7: km -1", x.roster(-1, 0), Checks.BEYOND);
    Checks.due("7: brings 64", x.roster(0, 64), Checks.BEYOND);
    Checks.due("7: brings -1", x.roster(0, -1), Checks.BEYOND);
    Checks.due("7: first", x.roster(69, 63), 1);
    for (int i = 2; i <= 12; i++) {
      Checks.due("7: more", x.roster(i, i), i);
    }
    Checks.due("7: full", x.roster(0, 0), Checks.FULL);
    Checks.due("7: BEYOND ahead of FULL", x.roster(0, 64), Checks.BEYOND);
    Checks.due("7: men", x.count(1), 12);
    x.days(2);
    Checks.due("7: first comes", x.bunkIs(0, 0), 6);
    Checks.due("7: first's m", x.bunkIs(0, 1), 9);
    Checks.due("7: first brings", x.bunkIs(0, 3), 63);
    Checks.due("7: VERSION 1", x.bunkIs(0, 11), 1);
    Checks.due("7: second's m", x.bunkIs(1, 1), 2);
    Checks.due("7: second brings", x.bunkIs(1, 3), 2);
  }

  private static void book() {
    DailyRelief x = Checks.ship(0);
    Checks.due("8: none at first", x.book(63), 0);
    Checks.due("8: as it was", x.book(6), 63);
    Checks.due("8: 64", x.book(64), Checks.BEYOND);
    Checks.due("8: -1", x.book(-1), Checks.BEYOND);
    Checks.due("8: is", x.count(5), 6);
    Checks.due("8: nobody reads it by hand", x.bunkIs(0, 3), 0);
    x.roster(0, 5);
    x.days(1);
    Checks.due("8: a new man KNOWS them", x.bunkIs(0, 3), 7);
    Checks.due("8: VERSION 1 if brought", x.bunkIs(0, 8), 1);
    Checks.due("8: VERSION 0 if read", x.bunkIs(0, 7), 0);
    Checks.due("8: none again", x.book(0), 6);
  }

  private static void task() {
    DailyRelief x = Checks.ship(0);
    Checks.due("9: at first", x.task(3, 5, 6), 0);
    Checks.due("9: as it was", x.task(3, 4, 0), 56);
    Checks.due("9: no such TASK", x.task(3, 0, 1), 40);
    x.days(2);
    Checks.due("9: FAILED", x.taskIs(3, 4), 2);
    Checks.due("9: changed", x.task(3, 1, 2), 1);
    Checks.due("9: FAILED stays", x.taskIs(3, 4), 2);
    int[][] wrong = {{4, 0, 0}, {-1, 0, 0}, {0, 6, 0}, {0, -1, 0}, {0, 0, 7}, {0, 0, -1}};
    for (int[] w : wrong) {
      Checks.due("9: wrong", x.task(w[0], w[1], w[2]), Checks.BEYOND);
    }
    for (int v : Checks.WILD) {
      Checks.due("9: task " + v, x.task(v, 0, 0), Checks.BEYOND);
      Checks.due("9: knack " + v, x.task(0, v, 0), Checks.BEYOND);
      Checks.due("9: n " + v, x.task(0, 0, v), Checks.BEYOND);
    }
  }

  private static void taskIs() {
    DailyRelief x = Checks.ship(0, 0, 0);
    x.task(1, 2, 2);
    x.know(0, 2, 3);
    Checks.due("10: KNACK", x.taskIs(1, 0), 2);
    Checks.due("10: must", x.taskIs(1, 1), 2);
    Checks.due("10: do", x.taskIs(1, 2), 1);
    x.days(3);
    Checks.due("10: DONE", x.taskIs(1, 3), 0);
    Checks.due("10: FAILED", x.taskIs(1, 4), 3);
    x.know(2, 2, 0);
    x.days(2);
    Checks.due("10: do now", x.taskIs(1, 2), 2);
    Checks.due("10: DONE now", x.taskIs(1, 3), 2);
    Checks.due("10: FAILED still", x.taskIs(1, 4), 3);
    Checks.due("10: no TASK isn't DONE", x.taskIs(0, 3), 0);
    Checks.due("10: what 5", x.taskIs(0, 5), Checks.BEYOND);
    Checks.due("10: task 4", x.taskIs(4, 0), Checks.BEYOND);
    for (int v : Checks.WILD) {
      Checks.due("10: task " + v, x.taskIs(v, 0), Checks.BEYOND);
      Checks.due("10: what " + v, x.taskIs(0, v), Checks.BEYOND);
    }
  }
}
