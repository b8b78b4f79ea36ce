import java.util.ArrayList;
import java.util.List;

/**
 * A call that answers an ERROR changes nothing but what told() tells, or where told: two ships are
 * made alike, one is asked what it refuses, and both are looked at from all sides.
 */
public final class RefusedTest {
  /** What is looked at; each begins with a ship of its own, as an object has 512 calls. */
  private interface View {
    void of(DailyRelief x, List<Integer> seen);
  }

  private static final int[] FAR = {Integer.MIN_VALUE, Integer.MAX_VALUE};
  private static final View[] VIEWS = {RefusedTest::present, RefusedTest::trace, RefusedTest::tape,
      RefusedTest::waiting, RefusedTest::daysGoOn, RefusedTest::kept, RefusedTest::sheets,
      RefusedTest::names};

  private final List<String> names = new ArrayList<>();
  private final List<Checks.Act> acts = new ArrayList<>();
  private final List<Integer> errors = new ArrayList<>();

  public static void main(String[] args) {
    RefusedTest test = new RefusedTest();
    test.ofBunks();
    test.ofTexts();
    test.ofDays();
    test.ofKnacks();
    test.ofSheets();
    test.ofTheRest();
    test.lookAtAll();
    partedTrace();
    checkBeyond();
    lastDay();
    withoutImage();
    faultIsNoError();
    Checks.end("RefusedTest");
  }

  /** A ship that is full: BUNKS, THE ROSTER, all but 4 bytes of THE TAPE, what waits, TEXTS, TASKS. */
  private static DailyRelief full() {
    DailyRelief x = Checks.ship(3, 41, 22, 35, 51, 64);
    for (int i = 0; i < 6; i++) {
      x.know(i, i, 10 * i + 1);
      x.know(i, (i + 2) % 6, i);
      x.set(i, 4, i);
    }
    for (int i = 0; i < 12; i++) {
      x.roster(i * 11 % 70, i * 5 % 64);
    }
    x.book(16);
    x.task(0, 0, 2);
    x.task(1, 1, 3);
    x.task(2, 3, 6);
    Checks.text(x, 0, "h+k");
    Checks.text(x, 1, "d*2+h");
    x.days(2);
    sheetsOf(x);
    x.image();
    x.know(0, 4, 77);
    x.task(3, 2, 1);
    x.days(1);
    x.misheard(9);
    x.seed(-5);
    // By KNACK k, it gives 7 times k, less 12.
    for (int i = 0; i < 7; i++) {
      Checks.feed(x, "1%9+k-01");
    }
    for (int i = 1; i <= 24; i++) {
      x.tell(x.thenTask(i, 0, 2));
    }
    x.voice(1, 2, 9);
    return x;
  }

  private static final int[][] ROWS = {{1, 2, 3, 4, 5, 6}, {11, 5, 12}, {}, {63, 33, 0, 7, 9}};
  private static final int[] BITS = {8, 16, 0, 32};

  private static void sheetsOf(DailyRelief x) {
    for (int sheet = 0; sheet < 4; sheet++) {
      x.sheet(sheet, BITS[sheet], ROWS[sheet].length);
      for (int i = 0; i < ROWS[sheet].length; i++) {
        x.put(sheet, i, ROWS[sheet][i]);
      }
    }
  }

  private static void present(DailyRelief x, List<Integer> seen) {
    for (int bunk = -1; bunk <= 6; bunk++) {
      for (int what = 0; what < 24; what++) {
        seen.add(x.bunkIs(bunk, what));
      }
    }
    for (int task = 0; task < 4; task++) {
      for (int what = 0; what < 5; what++) {
        seen.add(x.taskIs(task, what));
      }
    }
    counts(x, seen);
  }

  /** All but how many BODIES there are in THE TRACE, which trace() looks at. */
  private static void counts(DailyRelief x, List<Integer> seen) {
    for (int what = 0; what <= 10; what++) {
      if (what != 9) {
        seen.add(x.count(what));
      }
    }
  }

  private static void trace(DailyRelief x, List<Integer> seen) {
    seen.add(x.count(9));
    for (int i = 0; i <= 30; i++) {
      seen.add(x.body(i));
    }
  }

  /** What stands on THE TAPE, read twice: as it is, and with a byte more. */
  private static void tape(DailyRelief x, List<Integer> seen) {
    x.image();
    seen.add(x.text(0));
    for (int knack = 0; knack < 6; knack++) {
      seen.add(x.bunkIs(5, 18 + knack));
    }
    x.restore();
    seen.add(x.feed('x', 1));
    seen.add(x.text(1));
    seen.add(x.untell(0));
    seen.add(x.untell(1));
    x.restore();
    Checks.text(x, 0, "");
    seen.add(x.bunkIs(5, 18));
  }

  private static void waiting(DailyRelief x, List<Integer> seen) {
    x.image();
    for (int knack = 0; knack < 6; knack++) {
      seen.add(x.check(knack));
      x.restore();
    }
    // Of KNACK 0 all 24 are so, as nobody has changed one of them.
    seen.add(x.check(0));
    seen.add(x.tell(1));
  }

  private static void daysGoOn(DailyRelief x, List<Integer> seen) {
    seen.add(x.days(4));
    seen.add(x.draws(21));
    present(x, seen);
  }

  private static void kept(DailyRelief x, List<Integer> seen) {
    seen.add(x.restore());
    present(x, seen);
    seen.add(x.image());
  }

  /** SHEETS hold what they held: men are made to KNOW just so. */
  private static void sheets(DailyRelief x, List<Integer> seen) {
    for (int sheet = 0; sheet < 4; sheet++) {
      for (int i = 0; i < ROWS[sheet].length; i++) {
        for (int knack = 0; knack < 6; knack++) {
          x.know(i, knack, (ROWS[sheet][i] >> knack & 1) - 1);
        }
      }
      int length = ROWS[sheet].length;
      Checks.due("SHEET " + sheet, x.judge(sheet),
          sheet == 2 ? Checks.NONE : length == 6 ? -1 : length);
    }
  }

  /** What is taught, and by which KIND and m, stays where it was. */
  private static void names(DailyRelief x, List<Integer> seen) {
    for (int bunk = 0; bunk < 6; bunk++) {
      for (int kind = 0; kind < 7; kind++) {
        seen.add(x.as(bunk, kind));
      }
      for (int voice = 0; voice < 4; voice++) {
        seen.add(x.voice(bunk, voice, 1000));
      }
      for (int knack = 0; knack < 6; knack++) {
        seen.add(x.handed(bunk, knack));
      }
    }
    for (int knack = 0; knack < 6; knack++) {
      seen.add(x.lost(knack, 90));
      seen.add(x.saves(knack, 90));
      seen.add(x.teachers(knack, 30, 1));
    }
    seen.add(x.wages(90));
    seen.add(x.storm(0));
    seen.add(x.storm(1));
  }

  private void refuse(int error, String name, Checks.Act act) {
    errors.add(error);
    names.add(name);
    acts.add(act);
  }

  /** A call by which one number is out of its range, on either side. */
  private void beyond(String name, BoundsTest.Call call, int least, int most) {
    int[] wrong = {least - 1, most + 1, FAR[0], FAR[1]};
    for (int v : wrong) {
      refuse(Checks.BEYOND, name + " " + v, x -> call.with(x, v));
    }
  }

  private void ofBunks() {
    beyond("bunk", (x, v) -> x.bunk(v), 0, 69);
    beyond("bunkIs bunk", (x, v) -> x.bunkIs(v, 0), 0, 5);
    beyond("bunkIs what", (x, v) -> x.bunkIs(0, v), 0, 23);
    beyond("as bunk", (x, v) -> x.as(v, 0), 0, 5);
    beyond("as kind", (x, v) -> x.as(0, v), 0, 6);
    beyond("set bunk", (x, v) -> x.set(v, 0, 1), 0, 5);
    beyond("set what", (x, v) -> x.set(0, v, 1), 0, 4);
    beyond("set what 2, 3", (x, v) -> x.set(0, v, 1), 3, 1);
    beyond("set KIND", (x, v) -> x.set(0, 0, v), 0, 6);
    beyond("set m", (x, v) -> x.set(0, 1, v), 0, 9);
    beyond("set taught", (x, v) -> x.set(0, 4, v), -1, 5);
    beyond("know bunk", (x, v) -> x.know(v, 0, 9), 0, 5);
    beyond("know knack", (x, v) -> x.know(0, v, 9), 0, 5);
    beyond("know version", (x, v) -> x.know(0, 0, v), -1, 999);
    beyond("roster km", (x, v) -> x.roster(v, 0), 0, 69);
    beyond("roster brings", (x, v) -> x.roster(0, v), 0, 63);
    beyond("book", (x, v) -> x.book(v), 0, 63);
    beyond("task", (x, v) -> x.task(v, 1, 1), 0, 3);
    beyond("task knack", (x, v) -> x.task(0, v, 1), 0, 5);
    beyond("task n", (x, v) -> x.task(0, 1, v), 0, 6);
    beyond("taskIs task", (x, v) -> x.taskIs(v, 0), 0, 3);
    beyond("taskIs what", (x, v) -> x.taskIs(0, v), 0, 4);
    refuse(Checks.FULL, "bunk", x -> x.bunk(0));
    refuse(Checks.FULL, "roster", x -> x.roster(0, 0));
    refuse(Checks.KIND, "as", x -> x.as(0, 1));
  }

  private void ofTexts() {
    beyond("feed n", (x, v) -> x.feed(0x32, v), 1, 8);
    for (int n = 5; n <= 8; n++) {
      int of = n;
      refuse(Checks.FULL, "feed " + n, x -> x.feed(0x3232323232323232L, of));
    }
    beyond("text use", (x, v) -> x.text(v), 0, 1);
    beyond("untell use", (x, v) -> x.untell(v), 0, 1);
  }

  private void ofDays() {
    beyond("days", (x, v) -> x.days(v), 1, 90);
    beyond("draws", (x, v) -> x.draws(v), 1, 90);
    beyond("misheard", (x, v) -> x.misheard(v), 0, 16);
    beyond("then n", (x, v) -> x.then(v, 0, 0), 0, 90);
    beyond("then bunk", (x, v) -> x.then(3, v, 0), 0, 5);
    beyond("then what", (x, v) -> x.then(3, 0, v), 0, 23);
    beyond("thenTask n", (x, v) -> x.thenTask(v, 0, 0), 0, 90);
    beyond("thenTask task", (x, v) -> x.thenTask(3, v, 0), 0, 3);
    beyond("thenTask what", (x, v) -> x.thenTask(3, 0, v), 0, 4);
    beyond("wages", (x, v) -> x.wages(v), 1, 90);
  }

  private void ofKnacks() {
    beyond("lost knack", (x, v) -> x.lost(v, 3), 0, 5);
    beyond("lost n", (x, v) -> x.lost(0, v), 0, 90);
    refuse(Checks.NONE, "lost", x -> x.lost(0, 0));
    beyond("teachers knack", (x, v) -> x.teachers(v, 3, 0), 0, 5);
    beyond("teachers n", (x, v) -> x.teachers(0, v, 0), 1, 30);
    beyond("teachers what", (x, v) -> x.teachers(0, 3, v), 0, 1);
    beyond("storm", (x, v) -> x.storm(v), 0, 1);
    // KNACK 3 must be KNOWN by all six: no two can go.
    refuse(Checks.NONE, "storm", x -> x.storm(1));
    beyond("saves knack", (x, v) -> x.saves(v, 3), 0, 5);
    beyond("saves n", (x, v) -> x.saves(0, v), 0, 90);
    beyond("changes knack", (x, v) -> x.changes(v, 0), 0, 5);
    beyond("changes v", (x, v) -> x.changes(0, v), 0, 999);
    beyond("began knack", (x, v) -> x.began(v, 0), 0, 5);
    beyond("began version", (x, v) -> x.began(0, v), 0, 999);
    refuse(Checks.NONE, "began", x -> x.began(0, 998));
    beyond("handed bunk", (x, v) -> x.handed(v, 0), 0, 5);
    beyond("handed knack", (x, v) -> x.handed(0, v), 0, 5);
    refuse(Checks.STATE, "handed", x -> x.handed(5, 2));
  }

  private void ofSheets() {
    beyond("sheet", (x, v) -> x.sheet(v, 8, 6), 0, 3);
    beyond("sheet bits", (x, v) -> x.sheet(0, v, 6), 0, 32);
    beyond("sheet bits by 8", (x, v) -> x.sheet(0, v, 6), 8, 8);
    beyond("sheet bits by 16", (x, v) -> x.sheet(0, v, 6), 16, 16);
    refuse(Checks.BEYOND, "sheet bits 24", x -> x.sheet(0, 24, 6));
    refuse(Checks.BEYOND, "sheet n 25", x -> x.sheet(0, 8, 25));
    refuse(Checks.BEYOND, "sheet n far", x -> x.sheet(3, 32, FAR[1]));
    refuse(Checks.BEYOND, "a missing sheet's n 25", x -> x.sheet(2, 8, 25));
    refuse(Checks.STATE, "sheet n -1", x -> x.sheet(0, 8, -1));
    refuse(Checks.STATE, "sheet n far below", x -> x.sheet(1, 32, FAR[0]));
    refuse(Checks.STATE, "a missing sheet's n -1", x -> x.sheet(2, 8, -1));
    beyond("put sheet", (x, v) -> x.put(v, 0, 44), 0, 3);
    beyond("put number", (x, v) -> x.put(0, v, 44), 0, 5);
    beyond("put number of 3", (x, v) -> x.put(1, v, 44), 0, 2);
    refuse(Checks.NONE, "put", x -> x.put(2, 0, 44));
    beyond("move sheet", (x, v) -> x.move(v, 0, 0, 1, 2), 0, 3);
    beyond("move other", (x, v) -> x.move(0, 1, v, 0, 2), 0, 3);
    beyond("move i", (x, v) -> x.move(0, v, 0, 1, 2), 0, 4);
    beyond("move j", (x, v) -> x.move(0, 1, 0, v, 2), 0, 4);
    beyond("move n", (x, v) -> x.move(3, 0, 3, 1, v), 0, 4);
    refuse(Checks.NONE, "move from a missing one", x -> x.move(2, 0, 0, 0, 1));
    refuse(Checks.NONE, "move to a missing one", x -> x.move(0, 0, 2, 0, 1));
    refuse(Checks.KIND, "move", x -> x.move(0, 0, 1, 0, 2));
    refuse(Checks.KIND, "move", x -> x.move(1, 0, 3, 0, 2));
    beyond("rosters", (x, v) -> x.rosters(v), 0, 3);
    refuse(Checks.NONE, "rosters", x -> x.rosters(2));
    beyond("judge", (x, v) -> x.judge(v), 0, 3);
    refuse(Checks.NONE, "judge", x -> x.judge(2));
  }

  private void ofTheRest() {
    beyond("voice bunk", (x, v) -> x.voice(v, 0, 7), 0, 5);
    beyond("voice", (x, v) -> x.voice(0, v, 7), 0, 3);
    refuse(Checks.NONE, "body -1", x -> x.body(-1));
    refuse(Checks.NONE, "body 30", x -> x.body(30));
    refuse(Checks.NONE, "body far", x -> x.body(FAR[1]));
    refuse(Checks.FULL, "tell", x -> x.tell(7));
    beyond("count", (x, v) -> x.count(v), 0, 10);
    beyond("told", (x, v) -> x.told(v), 1, 6);
  }

  private void lookAtAll() {
    List<List<Integer>> due = new ArrayList<>();
    for (View view : VIEWS) {
      due.add(seenBy(view, full()));
    }
    Checks.due("37: all 24 are so", full().check(0), 0);
    for (int i = 0; i < acts.size(); i++) {
      toldOnce(i);
      for (int v = 0; v < VIEWS.length; v++) {
        DailyRelief x = full();
        acts.get(i).on(x);
        same(names.get(i) + " changes view " + v, seenBy(VIEWS[v], x), due.get(v));
      }
    }
    allInARow(due);
  }

  private void toldOnce(int i) {
    DailyRelief x = full();
    int[] ahead = new int[7];
    for (int k = 1; k <= 6; k++) {
      ahead[k] = x.told(k);
    }
    Checks.due(names.get(i), acts.get(i).on(x), errors.get(i));
    for (int k = 1; k <= 6; k++) {
      int more = errors.get(i) == -1000000000 - k ? 1 : 0;
      Checks.due(names.get(i) + " told(" + k + ")", x.told(k), ahead[k] + more);
    }
  }

  /** One behind the other, they change nothing either. */
  private void allInARow(List<List<Integer>> due) {
    for (int v = 0; v < VIEWS.length; v++) {
      int row = 60;
      for (int first = 0; first < acts.size(); first += row) {
        DailyRelief x = full();
        for (int i = first; i < Math.min(first + row, acts.size()); i++) {
          acts.get(i).on(x);
        }
        same("all from " + first + " change view " + v, seenBy(VIEWS[v], x), due.get(v));
      }
    }
  }

  private static List<Integer> seenBy(View view, DailyRelief x) {
    List<Integer> seen = new ArrayList<>();
    view.of(x, seen);
    return seen;
  }

  private static void same(String what, List<Integer> seen, List<Integer> due) {
    int differ = seen.size() == due.size() ? 0 : 1;
    for (int i = 0; i < Math.min(seen.size(), due.size()); i++) {
      differ += seen.get(i).equals(due.get(i)) ? 0 : 1;
    }
    Checks.due(what, differ, 0);
  }

  /** A voice() that is PARTED changes THE TRACE, which is that of the latest voice(), and no more. */
  private static void partedTrace() {
    for (int kind = 0; kind < 7; kind++) {
      int of = 10 * kind;
      Checks.Act parted = x -> {
        x.set(0, 0, of / 10);
        x.set(0, 1, 0);
        return x.voice(0, 3, 7);
      };
      Checks.Act whole = x -> {
        x.set(0, 0, of / 10);
        x.set(0, 1, 0);
        return 0;
      };
      for (View view : VIEWS) {
        if (view != VIEWS[1]) {
          DailyRelief x = full();
          DailyRelief y = full();
          Checks.due("28: PARTED", parted.on(x), Checks.PARTED);
          whole.on(y);
          same("28: PARTED changes nothing else", seenBy(view, x), seenBy(view, y));
        }
      }
      DailyRelief x = full();
      parted.on(x);
      boolean quick = kind == 1 || kind == 4;
      Checks.due("29: up to the BODY that parted", x.count(9), quick ? 2 : 1);
      Checks.due("29: where it began", x.body(0), quick ? 21 : 13);
      Checks.due("29: which parted", x.body(quick ? 1 : 0), 13);
      Checks.due("29: none behind", x.body(quick ? 2 : 1), Checks.NONE);
    }
  }

  /** A check() that is BEYOND leaves none waiting, and changes no more. */
  private static void checkBeyond() {
    for (int knack : new int[] {-1, 6, FAR[0], FAR[1]}) {
      for (View view : VIEWS) {
        DailyRelief x = full();
        Checks.due("38: BEYOND", x.check(knack), Checks.BEYOND);
        Checks.due("38: none waits", x.count(8), 0);
        DailyRelief y = full();
        y.check(0);
        same("38: BEYOND changes nothing else", seenBy(view, x), seenBy(view, y));
      }
    }
  }

  private static DailyRelief onTheLastDay() {
    DailyRelief x = Checks.ship(0, 13, 24);
    for (int i = 0; i < 111; i++) {
      x.days(90);
    }
    x.days(4);
    x.roster(31, 6);
    x.roster(2, 9);
    x.know(0, 1, 4);
    x.set(0, 4, 1);
    x.set(1, 4, 1);
    x.task(0, 1, 2);
    return x;
  }

  /** Days that would be above 9999 don't go by, not even the first of them. */
  private static void lastDay() {
    for (int n = 6; n <= 90; n += 14) {
      DailyRelief x = onTheLastDay();
      Checks.due("14: STATE", x.days(n), Checks.STATE);
      Checks.due("15: STATE", x.draws(n), Checks.STATE);
      DailyRelief y = onTheLastDay();
      List<Integer> seen = seenBy(RefusedTest::present, x);
      same("14: STATE changes nothing", seen, seenBy(RefusedTest::present, y));
      Checks.due("14: DAY", x.count(3), 9994);
      Checks.due("14: five are taken", x.days(5), y.days(5));
      Checks.due("14: as they would have gone by", x.bunkIs(1, 3), y.bunkIs(1, 3));
      Checks.due("14: DAY", x.count(3), 9999);
    }
  }

  private static void withoutImage() {
    DailyRelief x = onTheLastDay();
    Checks.due("36: NONE", x.restore(), Checks.NONE);
    same("36: NONE changes nothing", seenBy(RefusedTest::present, x),
        seenBy(RefusedTest::present, onTheLastDay()));
    Checks.due("35: nor how often", x.image(), 1);
  }

  /** A FAULT empties THE TAPE, and changes no more; it is no ERROR. */
  private static void faultIsNoError() {
    for (int v = 0; v < VIEWS.length; v++) {
      if (v != 2) {
        DailyRelief x = full();
        x.feed('+', 1);
        Checks.due("12: FAULT", x.text(v % 2), -67);
        Checks.due("12: no ERROR", Checks.errors(x), 0);
        DailyRelief y = full();
        y.feed('+', 1);
        y.text(v % 2);
        same("12: FAULT", seenBy(VIEWS[v], x), seenBy(VIEWS[v], y));
      }
    }
  }
}
