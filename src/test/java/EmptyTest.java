/** What is empty: no BUNKS, no ROSTER, no TASK, no TEXT, no bytes, no numbers, no IMAGE. */
public final class EmptyTest {
  public static void main(String[] args) {
    noBunks();
    noBunksAhead();
    noBunksInTheImage();
    noRoster();
    oneBunk();
    noTask();
    nobodyKnows();
    noBook();
    emptyTape();
    noText();
    noTrace();
    noNumbers();
    missingSheets();
    noImage();
    nothingWaits();
    noDays();
    Checks.end("EmptyTest");
  }

  /** What asks for a man in a BUNK is BEYOND, whichever BUNK it names. */
  private static void noBunks() {
    for (int bunk : new int[] {-1, 0, 1, 5, 6}) {
      DailyRelief x = new DailyRelief();
      x.roster(0, 1);
      Checks.due("3: no BUNKS", x.bunkIs(bunk, 0), Checks.BEYOND);
      Checks.due("4: no BUNKS", x.as(bunk, 0), Checks.BEYOND);
      Checks.due("5: no BUNKS", x.set(bunk, 0, 0), Checks.BEYOND);
      Checks.due("6: no BUNKS", x.know(bunk, 0, 0), Checks.BEYOND);
      Checks.due("18: no BUNKS", x.then(0, bunk, 0), Checks.BEYOND);
      Checks.due("26: no BUNKS", x.handed(bunk, 0), Checks.BEYOND);
      Checks.due("28: no BUNKS", x.voice(bunk, 0, 0), Checks.BEYOND);
      Checks.due("40: all were told", x.told(1), 7);
      Checks.due("39: no BUNKS", x.count(0), 0);
      Checks.due("2: the first BUNK", x.bunk(0), 0);
      Checks.due("3: he KNOWS nothing", x.bunkIs(0, 3), 0);
    }
  }

  /** RELIEF is only if there are BUNKS; DAYS go by all the same, and TASKS fail. */
  private static void noBunksAhead() {
    DailyRelief x = new DailyRelief();
    x.roster(12, 63);
    x.roster(13, 63);
    x.book(63);
    x.task(0, 2, 1);
    x.task(1, 3, 6);
    Checks.due("14: no man comes", x.days(90), 0);
    Checks.due("15: nothing is misheard", x.draws(5), 0);
    Checks.due("14: NEXT stays", x.count(2), 0);
    Checks.due("14: DAY goes on", x.count(3), 95);
    Checks.due("15: nothing is drawn", x.count(10), 1);
    Checks.due("10: nobody KNOWS it", x.taskIs(0, 2), 0);
    Checks.due("14: FAILED", x.taskIs(0, 4), 95);
    Checks.due("14: not DONE", x.taskIs(1, 3), 0);
    Checks.due("19: FAILED ahead", x.thenTask(90, 1, 4), 185);
    Checks.due("20: behind 0 DAYS", x.lost(0, 90), 0);
    Checks.due("20: of n 0", x.lost(5, 0), 0);
    Checks.due("21: by none, how many", x.teachers(2, 1, 0), Checks.NONE);
    Checks.due("21: by none, the set", x.teachers(2, 30, 1), Checks.NONE);
    Checks.due("22: no pairs", x.storm(0), 0);
    Checks.due("22: no first", x.storm(1), Checks.NONE);
    Checks.due("23: nobody reads THE BOOK", x.saves(2, 90), 0);
    Checks.due("24: no changes", x.changes(0, 0), 0);
    Checks.due("25: nobody", x.began(0, 0), Checks.NONE);
    Checks.due("27: no WAGES", x.wages(90), 0);
    Checks.due("39: no KNACKS", x.count(4), 0);
    x.tell(0);
    x.tell(0);
    Checks.due("38: none KNOW it", x.check(0), 0);
    x.tell(0);
    x.tell(1);
    Checks.due("38: not one", x.check(0), 2);
  }

  private static void noBunksInTheImage() {
    DailyRelief x = new DailyRelief();
    Checks.due("35: of an empty ship", x.image(), 1);
    x.bunk(0);
    x.roster(0, 0);
    x.book(5);
    x.tell(3);
    x.feed(0, 1);
    x.days(2);
    Checks.due("36: DAY 0", x.restore(), 0);
    for (int what = 0; what < 9; what++) {
      Checks.due("36: count(" + what + ")", x.count(what), what == 6 ? 4 : 0);
    }
    Checks.due("36: no BUNKS again", x.bunkIs(0, 0), Checks.BEYOND);
  }

  /** RELIEF is only if there is a ROSTER. */
  private static void noRoster() {
    DailyRelief x = Checks.ship(1, 2, 3);
    x.book(63);
    x.know(0, 0, 9);
    Checks.due("14: nobody comes", x.days(90), 0);
    Checks.due("15: nobody comes", x.draws(90), 0);
    Checks.due("39: no men of THE ROSTER", x.count(1), 0);
    Checks.due("39: NEXT", x.count(2), 0);
    for (int bunk = 0; bunk < 3; bunk++) {
      Checks.due("3: by hand still", x.bunkIs(bunk, 2), -1);
      Checks.due("3: m", x.bunkIs(bunk, 1), 1 + bunk);
    }
    Checks.due("20: it isn't lost", x.lost(0, 90), Checks.NONE);
    Checks.due("21: none must teach", x.teachers(0, 30, 0), 0);
    Checks.due("18: nobody ahead", x.then(90, 0, 2), -1);
    Checks.due("23: nobody reads THE BOOK", x.saves(3, 90), 0);
    x.roster(7, 0);
    Checks.due("14: now one comes", x.days(1), 1);
  }

  /** LESSONS are only if there are two BUNKS or more. */
  private static void oneBunk() {
    for (int kind = 0; kind < 7; kind++) {
      DailyRelief x = Checks.ship(10 * kind);
      x.know(0, 2, 5);
      x.set(0, 4, 2);
      x.days(3);
      x.draws(3);
      Checks.due("14: no LESSONS", x.bunkIs(0, 14), 0);
      Checks.due("15: no draws", x.count(10), 1);
      Checks.due("26: no other BUNK", x.handed(0, 2), 0);
      Checks.due("22: no pair", x.storm(0), 0);
      Checks.due("22: no first", x.storm(1), Checks.NONE);
      x.know(0, 2, -1);
      x.days(3);
      Checks.due("14: none of himself", x.bunkIs(0, 14), 0);
    }
    DailyRelief two = Checks.ship(0, 0);
    two.know(0, 2, 5);
    two.set(0, 4, 2);
    two.days(1);
    Checks.due("14: two BUNKS are enough", two.bunkIs(1, 14), 1);
  }

  /** A TASK for which 0 must KNOW the KNACK isn't there: it is neither DONE nor FAILED. */
  private static void noTask() {
    DailyRelief x = Checks.ship(0, 0);
    x.know(0, 3, 1);
    for (int task = 0; task < 4; task++) {
      x.task(task, 3, 0);
    }
    x.days(5);
    x.draws(5);
    for (int task = 0; task < 4; task++) {
      Checks.due("9: not DONE", x.taskIs(task, 3), 0);
      Checks.due("9: not FAILED", x.taskIs(task, 4), 0);
      Checks.due("10: one KNOWS it", x.taskIs(task, 2), 1);
    }
    Checks.due("22: no TASK bars", x.storm(0), 1);
    Checks.due("23: none is DONE", x.saves(3, 90), 0);
    x.task(2, 3, 1);
    x.days(2);
    x.task(2, 3, 0);
    x.days(2);
    Checks.due("9: DONE while it was", x.taskIs(2, 3), 2);
  }

  private static void nobodyKnows() {
    DailyRelief x = Checks.ship(0, 0, 0);
    for (int knack = 0; knack < 6; knack++) {
      Checks.due("20: lost already", x.lost(knack, 0), 0);
      Checks.due("21: by none", x.teachers(knack, 1, 0), Checks.NONE);
      Checks.due("24: no changes", x.changes(knack, 999), 0);
      Checks.due("25: VERSION 0 of none", x.began(knack, 0), Checks.NONE);
      Checks.due("26: he doesn't KNOW it", x.handed(0, knack), Checks.STATE);
      Checks.due("6: not any more", x.know(0, knack, -1), -1);
    }
    Checks.due("39: none", x.count(4), 0);
    Checks.due("3: WAGES of one who KNOWS nothing", x.bunkIs(0, 5), 1);
    x.set(0, 4, 0);
    x.days(5);
    Checks.due("14: no LESSONS", x.bunkIs(1, 12), 0);
    x.know(0, 5, 0);
    x.know(2, 0, 0);
    Checks.due("39: two", x.count(4), 33);
    Checks.due("25: now one has it", x.began(5, 0), -1);
  }

  private static void noBook() {
    DailyRelief x = Checks.ship(0);
    x.roster(0, 0);
    x.days(1);
    Checks.due("8: none is written", x.bunkIs(0, 3), 0);
    Checks.due("8: none was", x.book(0), 0);
    Checks.due("39: none", x.count(5), 0);
  }

  /** An empty TAPE ends too early: FAULT 0; the TEXT ahead stays. */
  private static void emptyTape() {
    DailyRelief x = Checks.ship(63);
    for (int use = 0; use < 2; use++) {
      Checks.due("12: no bytes", x.text(use), -10);
      Checks.due("12: there is no TEXT", x.untell(use), 0);
      Checks.text(x, use, "8");
      Checks.due("12: no bytes again", x.text(use), -10);
      Checks.due("12: THE TAPE is empty", x.count(7), 0);
    }
    Checks.due("12: NEEDS ahead stay", x.bunkIs(0, 18), 8);
    Checks.due("12: WAGES ahead stay", x.bunkIs(0, 5), 8);
    Checks.due("12: which is no ERROR", Checks.errors(x), 0);
    Checks.due("12: BEYOND", x.text(2), Checks.BEYOND);
    Checks.due("13: the TEXT is there", x.untell(0), 1);
  }

  private static void noText() {
    for (int m = 0; m <= 9; m++) {
      DailyRelief x = Checks.ship(60 + m);
      for (int knack = 0; knack < 6; knack++) {
        Checks.due("3: NEEDS are m, 1 at least", x.bunkIs(0, 18 + knack), Math.max(1, m));
        Checks.due("3: WAGES are 1+h", x.bunkIs(0, 5), 1 + knack);
        x.know(0, knack, 0);
      }
      Checks.due("3: of all six", x.bunkIs(0, 5), 7);
      Checks.due("13: none", x.untell(0) + x.untell(1), 0);
      Checks.due("13: which is no ERROR", Checks.errors(x), 0);
    }
  }

  private static void noTrace() {
    DailyRelief x = Checks.ship(0);
    for (int i : new int[] {-1, 0, 1, 29, 30, Integer.MIN_VALUE, Integer.MAX_VALUE}) {
      Checks.due("29: no voice() so far", x.body(i), Checks.NONE);
    }
    Checks.due("39: none", x.count(9), 0);
    x.voice(1, 0, 0);
    Checks.due("29: nor by one that is BEYOND", x.count(9), 0);
    x.voice(0, 0, 0);
    Checks.due("29: one", x.count(9), 1);
    Checks.due("29: the first", x.body(0), 10);
  }

  /** A SHEET of 0 numbers isn't missing. */
  private static void noNumbers() {
    for (int bits = 8; bits <= 32; bits *= 2) {
      DailyRelief x = new DailyRelief();
      Checks.due("30: of 0 numbers", x.sheet(0, bits, 0), 1);
      x.sheet(1, bits, 2);
      Checks.due("31: no number 0", x.put(0, 0, 0), Checks.BEYOND);
      Checks.due("31: no number -1", x.put(0, -1, 0), Checks.BEYOND);
      Checks.due("32: none on itself", x.move(0, 0, 0, 0, 0), 0);
      Checks.due("32: none to another", x.move(0, 0, 1, 2, 0), 0);
      Checks.due("32: none from another", x.move(1, 2, 0, 0, 0), 0);
      Checks.due("32: one doesn't stand there", x.move(0, 0, 1, 0, 1), Checks.BEYOND);
      Checks.due("32: nor has it room", x.move(1, 0, 0, 0, 1), Checks.BEYOND);
      Checks.due("32: number 1 isn't there", x.move(0, 1, 1, 0, 0), Checks.BEYOND);
      Checks.due("33: none comes", x.rosters(0), 0);
      Checks.due("34: no BUNKS, no numbers", x.judge(0), -1);
      Checks.due("34: one is too many", x.judge(1), 0);
      x.bunk(0);
      Checks.due("34: one lacks", x.judge(0), 0);
    }
  }

  private static void missingSheets() {
    DailyRelief x = new DailyRelief();
    x.sheet(0, 8, 3);
    for (int sheet = 1; sheet < 4; sheet++) {
      Checks.due("31: missing", x.put(sheet, 0, 0), Checks.NONE);
      Checks.due("32: missing", x.move(sheet, 0, 0, 0, 0), Checks.NONE);
      Checks.due("32: the other one", x.move(0, 0, sheet, 0, 0), Checks.NONE);
      Checks.due("32: the same", x.move(sheet, 0, sheet, 0, 0), Checks.NONE);
      Checks.due("33: missing", x.rosters(sheet), Checks.NONE);
      Checks.due("34: missing", x.judge(sheet), Checks.NONE);
      Checks.due("30: it goes on missing", x.sheet(sheet, 0, 5), 1);
      Checks.due("34: still", x.judge(sheet), Checks.NONE);
      Checks.due("30: now it is there", x.sheet(sheet, 8, 1), 1);
      Checks.due("31: it is", x.put(sheet, 0, 0), 1);
      Checks.due("30: missing again", x.sheet(sheet, 0, 0), 1);
      Checks.due("31: it was there", x.put(sheet, 0, 0), Checks.NONE);
    }
  }

  private static void noImage() {
    DailyRelief x = Checks.ship(0, 0);
    x.days(4);
    Checks.due("36: none", x.restore(), Checks.NONE);
    Checks.due("36: none still", x.restore(), Checks.NONE);
    Checks.due("36: all stays", x.count(3), 4);
    Checks.due("36: BUNKS stay", x.count(0), 2);
    Checks.due("35: the first", x.image(), 1);
    Checks.due("36: now there is", x.restore(), 4);
    Checks.due("40: NONE, twice", x.told(2), 2);
  }

  private static void nothingWaits() {
    DailyRelief x = Checks.ship(0);
    for (int knack = 0; knack < 6; knack++) {
      Checks.due("38: none waits, all are so", x.check(knack), 0);
    }
    Checks.due("38: BEYOND all the same", x.check(6), Checks.BEYOND);
    Checks.due("39: none waits", x.count(8), 0);
    Checks.due("37: the first", x.tell(0), 1);
    Checks.due("38: it is so", x.check(0), 0);
    Checks.due("37: the first again", x.tell(0), 1);
  }

  /** AHEAD by 0 DAYS is now. */
  private static void noDays() {
    DailyRelief x = Checks.ship(13, 64, 51);
    x.roster(40, 63);
    x.task(0, 1, 1);
    x.know(1, 1, 8);
    x.set(1, 4, 1);
    x.days(2);
    for (int bunk = 0; bunk < 3; bunk++) {
      for (int what = 0; what < 24; what++) {
        Checks.due("18: now", x.then(0, bunk, what), x.bunkIs(bunk, what));
      }
    }
    for (int what = 0; what < 5; what++) {
      Checks.due("19: now", x.thenTask(0, 0, what), x.taskIs(0, what));
    }
    Checks.due("20: not now", x.lost(1, 0), Checks.NONE);
    Checks.due("23: nothing in 0 DAYS", x.saves(1, 0), 0);
  }
}
