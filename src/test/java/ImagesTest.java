/** Promises 35 to 40: images, what is told. */
public final class ImagesTest {
  public static void main(String[] args) {
    image();
    restore();
    waitingInTheImage();
    notInTheImage();
    tell();
    check();
    count();
    told();
    Checks.end("ImagesTest");
  }

  private static DailyRelief full() {
    DailyRelief x = Checks.ship(13, 24);
    x.know(0, 2, 7);
    x.set(0, 4, 2);
    x.roster(35, 9);
    x.roster(41, 0);
    x.book(16);
    x.task(1, 2, 2);
    Checks.text(x, 0, "9");
    Checks.text(x, 1, "77");
    x.days(3);
    x.misheard(9);
    x.seed(-5);
    Checks.feed(x, "12+");
    x.tell(4);
    x.tell(1);
    return x;
  }

  private static void change(DailyRelief x) {
    x.bunk(60);
    x.know(0, 1, 99);
    x.know(1, 5, 98);
    x.set(0, 0, 6);
    x.set(1, 1, 8);
    x.set(1, 4, 0);
    x.roster(0, 63);
    x.book(1);
    x.task(0, 1, 1);
    x.task(1, 0, 0);
    x.untell(0);
    Checks.text(x, 1, "5");
    x.draws(7);
    x.misheard(1);
    x.seed(99);
    Checks.feed(x, "(((");
    x.check(2);
    x.tell(1);
    x.tell(2);
    x.tell(3);
  }

  private static void same(String what, DailyRelief x, DailyRelief y) {
    for (int bunk = 0; bunk < 3; bunk++) {
      for (int is = 0; is < 24; is++) {
        Checks.due(what + ": bunkIs(" + bunk + ", " + is + ")", x.bunkIs(bunk, is), y.bunkIs(bunk, is));
      }
    }
    for (int task = 0; task < 4; task++) {
      for (int is = 0; is < 5; is++) {
        Checks.due(what + ": taskIs(" + task + ", " + is + ")", x.taskIs(task, is), y.taskIs(task, is));
      }
    }
    for (int is = 0; is <= 10; is++) {
      if (is != 9) {
        Checks.due(what + ": count(" + is + ")", x.count(is), y.count(is));
      }
    }
  }

  private static void image() {
    DailyRelief x = full();
    Checks.due("35: once", x.image(), 1);
    same("35", x, full());
    Checks.due("35: twice", x.image(), 2);
    x.restore();
    Checks.due("35: three times", x.image(), 3);
    x.days(2);
    x.image();
    x.days(1);
    Checks.due("35: in place of one ahead", x.restore(), 5);
  }

  private static void restore() {
    DailyRelief x = full();
    Checks.due("36: none", x.restore(), Checks.NONE);
    x.image();
    change(x);
    Checks.due("36: DAY", x.restore(), 3);
    same("36", x, full());
    change(x);
    change(x);
    Checks.due("36: it stays", x.restore(), 3);
    same("36: again", x, full());
    DailyRelief y = full();
    // What follows is as it would have been.
    Checks.feed(x, "3");
    Checks.feed(y, "3");
    Checks.due("36: THE TAPE", x.text(1), y.text(1));
    Checks.due("36: what waits", x.check(2), y.check(2));
    Checks.due("36: days", x.draws(30), y.draws(30));
    same("36: later", x, y);
  }

  /** The numbers that wait come back as they were. */
  private static void waitingInTheImage() {
    DailyRelief x = Checks.ship(0, 10, 10);
    x.know(0, 0, 1);
    x.set(0, 4, 0);
    x.tell(2);
    x.tell(2);
    x.image();
    x.check(0);
    x.tell(7);
    x.tell(7);
    x.restore();
    Checks.due("36: what waits", x.check(0), 0);
    x.tell(7);
    x.image();
    x.check(0);
    x.tell(2);
    x.restore();
    Checks.due("36: the later ones", x.check(0), 1);
  }

  private static void notInTheImage() {
    DailyRelief x = full();
    x.sheet(0, 8, 1);
    x.image();
    x.sheet(1, 8, 2);
    x.sheet(0, 0, 0);
    x.voice(0, 2, 5);
    x.bunk(-1);
    x.restore();
    Checks.due("36: SHEETS stay", x.put(1, 1, 0), 1);
    Checks.due("36: a missing one, too", x.put(0, 0, 0), Checks.NONE);
    Checks.due("36: THE TRACE stays", x.count(9), 4);
    Checks.due("36: what is told stays", x.told(1), 1);
    Checks.due("36: how often", x.image(), 2);
  }

  private static void tell() {
    DailyRelief x = Checks.ship(0);
    for (int i = 1; i <= 24; i++) {
      Checks.due("37: more", x.tell(i % 2 == 0 ? Integer.MIN_VALUE : i), i);
    }
    Checks.due("37: full", x.tell(0), Checks.FULL);
    Checks.due("37: wait", x.count(8), 24);
    Checks.due("37: any number waits", x.check(0), 1);
    Checks.due("37: none wait", x.count(8), 0);
    for (int i = 1; i <= 24; i++) {
      x.tell(0);
    }
    Checks.due("37: all 24", x.check(0), 0);
  }

  private static void check() {
    DailyRelief x = Checks.ship(0, 10, 10, 0);
    x.know(0, 1, 5);
    for (int i = 0; i < 4; i++) {
      x.set(i, 4, 1);
    }
    Checks.due("38: none waits", x.check(1), 0);
    x.tell(3);
    x.tell(4);
    x.tell(4);
    Checks.due("38: behind 1, 2, 3 DAYS", x.check(1), 0);
    Checks.due("38: none waits now", x.count(8), 0);
    x.tell(3);
    x.tell(4);
    x.tell(3);
    x.tell(9);
    Checks.due("38: the third isn't so", x.check(1), 3);
    Checks.due("38: DAY", x.count(3), 0);
    x.tell(1);
    Checks.due("38: the first isn't so", x.check(1), 1);
    x.tell(3);
    Checks.due("38: knack 6", x.check(6), Checks.BEYOND);
    Checks.due("38: none waits then, too", x.count(8), 0);
    for (int v : Checks.WILD) {
      x.tell(1);
      Checks.due("38: knack " + v, x.check(v), Checks.BEYOND);
      Checks.due("38: none waits", x.count(8), 0);
    }
  }

  private static void count() {
    DailyRelief x = full();
    x.voice(0, 0, 5);
    int[] due = {2, 2, 1, 3, 0, 16, 9, 3, 2, 1, -5};
    due[4] = x.bunkIs(0, 3) | x.bunkIs(1, 3);
    for (int what = 0; what < due.length; what++) {
      Checks.due("39: count(" + what + ")", x.count(what), due[what]);
    }
    Checks.due("39: KNACKS", due[4], 1 + 8 + 16);
    Checks.due("39: 11", x.count(11), Checks.BEYOND);
    Checks.due("39: -1", x.count(-1), Checks.BEYOND);
    for (int v : Checks.WILD) {
      Checks.due("39: " + v, x.count(v), Checks.BEYOND);
      x.seed(v);
      Checks.due("39: z is any number", x.count(10), v);
    }
    Checks.due("39: which is no ERROR", x.told(1), 2 + Checks.WILD.length);
  }

  private static void told() {
    DailyRelief x = Checks.ship(0, 0, 0, 0, 0, 0);
    x.bunk(70);
    x.bunk(-1);
    x.body(0);
    x.sheet(0, 8, -1);
    x.sheet(0, 8, -1);
    x.sheet(0, 8, -1);
    x.bunk(0);
    x.as(0, 3);
    x.as(0, 2);
    x.voice(0, 3, 1);
    int[] due = {2, 1, 3, 1, 2, 1};
    for (int k = 1; k <= 6; k++) {
      Checks.due("40: told(" + k + ")", x.told(k), due[k - 1]);
    }
    Checks.due("40: 0", x.told(0), Checks.BEYOND);
    Checks.due("40: 7", x.told(7), Checks.BEYOND);
    for (int v : Checks.WILD) {
      Checks.due("40: " + v, x.told(v), Checks.BEYOND);
    }
    Checks.due("40: counted, too", x.told(1), 4 + Checks.WILD.length);
  }
}
