/** Promises 14 to 17, and what the Terms say of A DAY, by days and by draws. */
public final class DaysTest {
  public static void main(String[] args) {
    days();
    relief();
    stayers();
    lessons();
    tells();
    tasks();
    lastDay();
    draws();
    drawsByHand();
    misheard();
    seed();
    Checks.end("DaysTest");
  }

  private static void days() {
    DailyRelief x = Checks.ship(0, 0, 0);
    Checks.due("14: no ROSTER", x.days(90), 0);
    x.roster(0, 0);
    Checks.due("14: one a DAY", x.days(7), 7);
    Checks.due("14: DAY", x.count(3), 97);
    Checks.due("14: 0", x.days(0), Checks.BEYOND);
    Checks.due("14: 91", x.days(91), Checks.BEYOND);
    for (int v : Checks.WILD) {
      Checks.due("14: " + v, x.days(v), Checks.BEYOND);
    }
    Checks.due("14: DAY stays", x.count(3), 97);
    DailyRelief none = new DailyRelief();
    none.roster(0, 0);
    Checks.due("14: no BUNKS", none.days(5), 0);
    Checks.due("14: NEXT stays", none.count(2), 0);
  }

  private static void relief() {
    DailyRelief x = Checks.ship(0, 0, 0);
    x.set(1, 4, 5);
    x.know(1, 2, 7);
    x.roster(11, 1);
    x.roster(22, 2);
    x.days(1);
    Checks.due("14: BUNK 0 on DAY 0", x.bunkIs(0, 0), 1);
    Checks.due("14: CAME", x.bunkIs(0, 2), 0);
    Checks.due("14: NEXT", x.count(2), 1);
    x.days(1);
    Checks.due("14: BUNK 1 on DAY 1", x.bunkIs(1, 1), 2);
    Checks.due("14: CAME on DAY 1", x.bunkIs(1, 2), 1);
    Checks.due("14: KNOWS what he brings", x.bunkIs(1, 3), 2);
    Checks.due("14: VERSION 1", x.bunkIs(1, 7), 1);
    Checks.due("14: the old one's VERSION went", x.bunkIs(1, 8), 0);
    Checks.due("14: what the BUNK teaches stays", x.bunkIs(1, 4), 5);
    Checks.due("14: round THE ROSTER", x.count(2), 0);
    x.roster(33, 4);
    x.days(3);
    Checks.due("14: BUNK 2", x.bunkIs(2, 0), 1);
    Checks.due("14: BUNK 0 again", x.bunkIs(0, 0), 2);
    Checks.due("14: BUNK 1 again", x.bunkIs(1, 0), 3);
    Checks.due("14: NEXT by three", x.count(2), 0);
    Checks.due("14: by hand ones are gone", x.began(0, 1), 2);
    x.bunk(44);
    x.days(1);
    Checks.due("14: by four BUNKS now", x.bunkIs(1, 2), 5);
    newMansLessons();
  }

  /** A new man has had no LESSONS. */
  private static void newMansLessons() {
    DailyRelief x = Checks.ship(0, 29);
    x.know(0, 1, 5);
    x.set(0, 4, 1);
    x.days(1);
    Checks.due("14: one LESSON", x.bunkIs(1, 13), 1);
    x.roster(29, 0);
    x.days(1);
    Checks.due("14: on DAY 1 he came", x.bunkIs(1, 2), 1);
    Checks.due("14: his first LESSON", x.bunkIs(1, 13), 1);
  }

  private static void stayers() {
    // DAYS on which each m stays in a ship of one BUNK: those by (m and 2) without a rest.
    for (int m = 0; m <= 9; m++) {
      for (int day = 0; day < 24; day++) {
        DailyRelief x = Checks.ship(50 + m);
        if (day > 0) {
          x.days(day);
        }
        x.roster(0, 0);
        boolean stays = day % (m + 2) == 0;
        Checks.due("14: STAYER " + m + " on " + day, x.days(1), stays ? 0 : 1);
        Checks.due("14: NEXT", x.count(2), 0);
        Checks.due("14: KIND", x.bunkIs(0, 0), stays ? 5 : 0);
      }
    }
    DailyRelief x = Checks.ship(50);
    x.roster(1, 0);
    x.roster(2, 0);
    x.days(1);
    Checks.due("14: NEXT waits for him", x.count(2), 0);
    x.days(1);
    Checks.due("14: then the first comes", x.bunkIs(0, 1), 1);
    Checks.due("14: a MUTE one is relieved", relievedOnDayNought(20), 1);
    Checks.due("14: a MAN is relieved", relievedOnDayNought(0), 1);
  }

  private static int relievedOnDayNought(int km) {
    DailyRelief x = Checks.ship(km);
    x.roster(0, 0);
    return x.days(1);
  }

  private static void lessons() {
    DailyRelief x = Checks.ship(0, 10, 0, 22, 0);
    for (int i = 0; i < 5; i++) {
      x.set(i, 4, 3);
    }
    x.know(0, 3, 6);
    x.days(1);
    Checks.due("14: QUICK one KNOWS", x.bunkIs(1, 9), 6);
    Checks.due("14: and teaches the same DAY", x.bunkIs(2, 15), 1);
    Checks.due("14: but not two at once", x.bunkIs(3, 15), 0);
    Checks.due("14: the first gets none", x.bunkIs(0, 15), 0);
    x.days(1);
    Checks.due("14: a MAN KNOWS", x.bunkIs(2, 3), 8);
    Checks.due("14: the MUTE one begins", x.bunkIs(3, 15), 1);
    x.days(3);
    Checks.due("14: the MUTE one KNOWS", x.bunkIs(3, 3), 8);
    Checks.due("14: after four", x.bunkIs(3, 15), 4);
    x.days(9);
    Checks.due("14: and teaches nobody", x.bunkIs(4, 15), 0);
    Checks.due("14: no LESSONS for one who KNOWS", x.bunkIs(1, 15), 1);
    round();
  }

  /** The last BUNK teaches BUNK 0, but a lone man teaches nobody. */
  private static void round() {
    DailyRelief x = Checks.ship(0, 0);
    x.know(1, 0, 4);
    x.set(1, 4, 0);
    x.set(0, 4, 1);
    x.know(0, 1, 3);
    x.days(2);
    Checks.due("14: BUNK 0 learns", x.bunkIs(0, 6), 4);
    Checks.due("14: BUNK 1 learns", x.bunkIs(1, 7), 3);
    DailyRelief stayer = Checks.ship(51, 0);
    stayer.know(0, 0, 1);
    stayer.set(0, 4, 0);
    stayer.days(3);
    Checks.due("14: a STAYER teaches nobody", stayer.bunkIs(1, 12), 0);
    DailyRelief ignorant = Checks.ship(0, 0);
    ignorant.set(0, 4, 0);
    ignorant.days(3);
    Checks.due("14: nobody teaches what he doesn't KNOW", ignorant.bunkIs(1, 12), 0);
  }

  private static int toldVersion(int km, int knack, int version) {
    DailyRelief x = Checks.ship(km, 10);
    x.know(0, knack, version);
    x.set(0, 4, knack);
    x.days(1);
    return x.bunkIs(1, 3) == 0 ? -1 : x.bunkIs(1, 6 + knack);
  }

  private static void tells() {
    Checks.due("14: MAN tells", toldVersion(9, 3, 7), 7);
    Checks.due("14: QUICK tells", toldVersion(19, 3, 7), 7);
    Checks.due("14: MUTE tells none", toldVersion(29, 3, 7), -1);
    Checks.due("14: LIAR tells", toldVersion(39, 3, 7), 16);
    Checks.due("14: LIAR held", toldVersion(39, 3, 995), 999);
    Checks.due("14: TWIN, odd", toldVersion(49, 3, 7), 8);
    Checks.due("14: TWIN, even", toldVersion(49, 2, 7), 7);
    Checks.due("14: TWIN held", toldVersion(49, 5, 999), 999);
    Checks.due("14: STAYER tells none", toldVersion(59, 3, 7), -1);
    Checks.due("14: TOLD tells", toldVersion(69, 3, 7), 7);
    Checks.due("14: VERSION 0", toldVersion(0, 3, 0), 0);
  }

  /** TASKS are tried after the DAY's LESSONS. */
  private static void tasks() {
    DailyRelief x = Checks.ship(0, 10);
    x.know(0, 0, 1);
    x.set(0, 4, 0);
    x.task(0, 0, 2);
    x.task(1, 0, 1);
    x.task(2, 0, 3);
    x.days(2);
    Checks.due("14: two KNOW it", x.taskIs(0, 3), 2);
    Checks.due("14: more than so many", x.taskIs(1, 3), 2);
    Checks.due("14: too few", x.taskIs(2, 3), 0);
    Checks.due("14: FAILED", x.taskIs(2, 4), 2);
    Checks.due("14: no such TASK", x.taskIs(3, 3) + x.taskIs(3, 4), 0);
    x.roster(0, 0);
    x.days(1);
    Checks.due("14: after RELIEF, too", x.taskIs(0, 4), 1);
  }

  private static void lastDay() {
    DailyRelief x = nearTheLast();
    Checks.due("14: just 9999", x.days(9), 0);
    Checks.due("14: it is", x.count(3), 9999);
    x = nearTheLast();
    Checks.due("14: DAY", x.count(3), 9990);
    Checks.due("14: above 9999", x.days(10), Checks.STATE);
    Checks.due("15: above 9999", x.draws(10), Checks.STATE);
    Checks.due("14: BEYOND ahead of STATE", x.days(91), Checks.BEYOND);
    Checks.due("15: BEYOND ahead of STATE", x.draws(91), Checks.BEYOND);
    Checks.due("14: 9998", x.days(8), 0);
    Checks.due("15: 9999", x.draws(1), 0);
    Checks.due("14: not more", x.days(1), Checks.STATE);
    Checks.due("15: not more", x.draws(1), Checks.STATE);
    Checks.due("14: DAY is 9999", x.count(3), 9999);
    x.bunk(0);
    x.roster(0, 0);
    Checks.due("18: AHEAD goes beyond", x.then(5, 0, 2), 10003);
    Checks.due("14: it told", x.told(3), 4);
  }

  private static DailyRelief nearTheLast() {
    DailyRelief x = new DailyRelief();
    for (int i = 0; i < 111; i++) {
      x.days(90);
    }
    return x;
  }

  private static int drawn(int z) {
    return z * 1103515245 + 12345;
  }

  /** What draws() does with each MISHEARD, beside what days() does. */
  private static void draws() {
    for (int misheard = 0; misheard <= 16; misheard++) {
      for (int z = -3; z < 20; z++) {
        DailyRelief x = Checks.ship(0, 10, 10, 0);
        x.misheard(misheard);
        x.seed(z * 7919);
        x.know(0, 1, 5);
        for (int i = 0; i < 4; i++) {
          x.set(i, 4, 1);
        }
        int first = drawn(z * 7919);
        int second = drawn(first);
        int third = drawn(second);
        int one = (first >>> 8) % 16 < misheard ? 1 : 0;
        int two = (second >>> 8) % 16 < misheard ? 1 : 0;
        int three = (third >>> 8) % 16 < misheard ? 1 : 0;
        Checks.due("15: on the first DAY", x.draws(1), one + two);
        Checks.due("15: VERSION 1", x.bunkIs(1, 7), 5 + one);
        Checks.due("15: VERSION 2", x.bunkIs(2, 7), 5 + one + two);
        Checks.due("15: z", x.count(10), second);
        Checks.due("15: a LESSON alone draws none", x.bunkIs(3, 13), 1);
        Checks.due("15: on three more", x.draws(3), three);
        Checks.due("15: VERSION 3", x.bunkIs(3, 7), 5 + one + two + three);
        Checks.due("15: z now", x.count(10), third);
      }
    }
  }

  private static void drawsByHand() {
    DailyRelief x = Checks.ship(0, 10);
    x.know(0, 0, 999);
    x.set(0, 4, 0);
    x.misheard(16);
    Checks.due("15: misheard", x.draws(1), 1);
    Checks.due("15: 999 at most", x.bunkIs(1, 6), 999);
    x.know(1, 0, -1);
    Checks.due("14: days draw none", x.days(1), 0);
    Checks.due("14: z stays", x.count(10), drawn(1));
    Checks.due("15: DAY", x.count(3), 2);
    x.roster(0, 0);
    x.task(0, 0, 1);
    x.draws(2);
    Checks.due("15: men come, too", x.bunkIs(1, 2), 3);
    Checks.due("15: TASKS, too", x.taskIs(0, 3) + 10 * x.taskIs(0, 4), 11);
    Checks.due("15: 0", x.draws(0), Checks.BEYOND);
    Checks.due("15: 91", x.draws(91), Checks.BEYOND);
    for (int v : Checks.WILD) {
      Checks.due("15: " + v, x.draws(v), Checks.BEYOND);
    }
    DailyRelief ahead = Checks.ship(0, 10);
    ahead.know(0, 0, 5);
    ahead.set(0, 4, 0);
    ahead.misheard(16);
    Checks.due("18: AHEAD doesn't draw", ahead.then(1, 1, 6), 5);
    Checks.due("18: z stays", ahead.count(10), 1);
  }

  private static void misheard() {
    DailyRelief x = new DailyRelief();
    Checks.due("16: 4 at first", x.misheard(0), 4);
    Checks.due("16: as it was", x.misheard(16), 0);
    Checks.due("16: 17", x.misheard(17), Checks.BEYOND);
    Checks.due("16: -1", x.misheard(-1), Checks.BEYOND);
    for (int v : Checks.WILD) {
      Checks.due("16: " + v, x.misheard(v), Checks.BEYOND);
    }
    Checks.due("16: is", x.count(6), 16);
  }

  private static void seed() {
    DailyRelief x = new DailyRelief();
    int was = 1;
    for (int v : Checks.WILD) {
      Checks.due("17: seed(" + v + ")", x.seed(v), was);
      Checks.due("17: z", x.count(10), v);
      was = v;
    }
    Checks.due("17: no ERROR", x.told(1), 0);
  }
}
