/**
 * Of each number that a call takes: all from the least to the greatest are taken, and on either side
 * the first, the last and some between are refused.
 */
public final class BoundsTest {
  /** A call of which one number is looked at. */
  interface Call {
    int with(DailyRelief x, int v);
  }

  /** What a call is made on, new each time. */
  interface Made {
    DailyRelief ship();
  }

  public static void main(String[] args) {
    bunks();
    set();
    know();
    rosterAndBook();
    tasks();
    texts();
    days();
    ahead();
    aheadOfKnacks();
    voices();
    sheet();
    put();
    move();
    told();
    anyNumber();
    Checks.end("BoundsTest");
  }

  private static DailyRelief empty() {
    return new DailyRelief();
  }

  /** Three men; the one in BUNK 1 KNOWS KNACK 3 in VERSION 5. */
  private static DailyRelief three() {
    DailyRelief x = Checks.ship(4, 15, 26);
    x.know(1, 3, 5);
    return x;
  }

  private static DailyRelief sheets() {
    DailyRelief x = three();
    x.sheet(0, 8, 5);
    x.sheet(1, 8, 3);
    x.sheet(2, 16, 24);
    return x;
  }

  private static void range(String what, Made made, Call call, int least, int most) {
    range(what, made, call, least, most, Checks.BEYOND, Checks.BEYOND);
  }

  private static void range(String what, Made made, Call call, int least, int most, int below,
      int above) {
    for (int v = least; v <= most; v++) {
      DailyRelief x = made.ship();
      int answer = call.with(x, v);
      Checks.due(what + " " + v + " is taken, answer " + answer, Checks.errors(x), 0);
    }
    refused(what, made, call, least - 1, below);
    refused(what, made, call, most + 1, above);
    for (int v : Checks.WILD) {
      if (v < least) {
        refused(what, made, call, v, below);
      } else if (v > most) {
        refused(what, made, call, v, above);
      }
    }
  }

  private static void refused(String what, Made made, Call call, int v, int error) {
    DailyRelief x = made.ship();
    Checks.due(what + " " + v, call.with(x, v), error);
    for (int k = 1; k <= 6; k++) {
      Checks.due(what + " " + v + " told(" + k + ")", x.told(k), error == -1000000000 - k ? 1 : 0);
    }
  }

  private static void bunks() {
    range("2: km", BoundsTest::empty, (x, v) -> x.bunk(v), 0, 69);
    range("3: bunk", BoundsTest::three, (x, v) -> x.bunkIs(v, 0), 0, 2);
    range("3: what", BoundsTest::three, (x, v) -> x.bunkIs(1, v), 0, 23);
    range("4: bunk", BoundsTest::three, (x, v) -> x.as(v, 0), 0, 2);
    for (int kind = 0; kind < 7; kind++) {
      Made made = oneOf(kind);
      DailyRelief x = made.ship();
      Checks.due("4: kind " + kind, x.as(0, kind), 0);
      Checks.due("4: no ERROR", Checks.errors(x), 0);
      refused("4: kind", made, (y, v) -> y.as(0, v), -1, Checks.BEYOND);
      refused("4: kind", made, (y, v) -> y.as(0, v), 7, Checks.BEYOND);
    }
    for (int full = 1; full <= 6; full++) {
      bunksOf(full);
    }
  }

  private static Made oneOf(int kind) {
    return () -> Checks.ship(10 * kind);
  }

  /** BUNKS are as many as came, at most 6: each of those is taken, and no other one. */
  private static void bunksOf(int many) {
    int[] kms = new int[many];
    Made made = () -> Checks.ship(kms);
    range("3: bunk of " + many, made, (x, v) -> x.bunkIs(v, 23), 0, many - 1);
    range("4: bunk of " + many, made, (x, v) -> x.as(v, 0), 0, many - 1);
    range("5: bunk of " + many, made, (x, v) -> x.set(v, 1, 9), 0, many - 1);
    range("6: bunk of " + many, made, (x, v) -> x.know(v, 5, 999), 0, many - 1);
    range("18: bunk of " + many, made, (x, v) -> x.then(90, v, 0), 0, many - 1);
    range("28: bunk of " + many, made, (x, v) -> x.voice(v, 0, 1), 0, many - 1);
    range("26: bunk of " + many, made, (x, v) -> {
      x.know(Math.max(0, Math.min(v, many - 1)), 0, 0);
      return x.handed(v, 0);
    }, 0, many - 1);
  }

  private static void set() {
    range("5: bunk", BoundsTest::three, (x, v) -> x.set(v, 0, 0), 0, 2);
    range("5: KIND", BoundsTest::three, (x, v) -> x.set(1, 0, v), 0, 6);
    range("5: m", BoundsTest::three, (x, v) -> x.set(1, 1, v), 0, 9);
    range("5: taught", BoundsTest::three, (x, v) -> x.set(1, 4, v), -1, 5);
    range("5: what", BoundsTest::three, (x, v) -> x.set(1, v, 0), 0, 1);
    range("5: what 4 alone", BoundsTest::three, (x, v) -> x.set(1, v, 0), 4, 4);
    for (int what = 5; what < 24; what++) {
      refused("5: what", BoundsTest::three, (x, v) -> x.set(1, v, 0), what, Checks.BEYOND);
    }
    refused("5: what", BoundsTest::three, (x, v) -> x.set(1, v, 0), 3, Checks.BEYOND);
    int[] whats = {0, 1, 4};
    int[] least = {0, 0, -1};
    int[] most = {6, 9, 5};
    for (int i = 0; i < 3; i++) {
      DailyRelief x = three();
      x.set(1, whats[i], least[i]);
      Checks.due("5: the least stands", x.bunkIs(1, whats[i]), least[i]);
      Checks.due("5: it was", x.set(1, whats[i], most[i]), least[i]);
      Checks.due("5: the greatest stands", x.bunkIs(1, whats[i]), most[i]);
    }
  }

  private static void know() {
    range("6: bunk", BoundsTest::three, (x, v) -> x.know(v, 0, 0), 0, 2);
    range("6: knack", BoundsTest::three, (x, v) -> x.know(0, v, 0), 0, 5);
    range("6: version", BoundsTest::three, (x, v) -> x.know(0, 0, v), -1, 999);
    DailyRelief x = three();
    for (int version = 0; version <= 999; version += 333) {
      x.know(0, 5, version);
      Checks.due("6: VERSION", x.bunkIs(0, 11), version);
      Checks.due("6: KNOWS it", x.bunkIs(0, 3), 32);
    }
    Checks.due("6: -1, not any more", x.know(0, 5, -1), 999);
    Checks.due("6: VERSION is 0", x.bunkIs(0, 11), 0);
    Checks.due("6: KNOWS nothing", x.bunkIs(0, 3), 0);
    Checks.due("6: he didn't KNOW it", x.know(0, 5, 0), -1);
  }

  private static void rosterAndBook() {
    range("7: km", BoundsTest::empty, (x, v) -> x.roster(v, 0), 0, 69);
    range("7: brings", BoundsTest::empty, (x, v) -> x.roster(0, v), 0, 63);
    range("8: knacks", BoundsTest::empty, (x, v) -> x.book(v), 0, 63);
    DailyRelief x = Checks.ship(0);
    x.roster(0, 0);
    x.roster(69, 63);
    x.days(1);
    Checks.due("7: the least km", x.bunkIs(0, 0) * 10 + x.bunkIs(0, 1), 0);
    Checks.due("7: brings none", x.bunkIs(0, 3), 0);
    x.days(1);
    Checks.due("7: the greatest km", x.bunkIs(0, 0) * 10 + x.bunkIs(0, 1), 69);
    Checks.due("7: brings all", x.bunkIs(0, 3), 63);
    x.book(63);
    x.days(1);
    Checks.due("8: all are written", x.bunkIs(0, 3), 63);
    x.book(0);
    x.days(2);
    Checks.due("8: none is written", x.bunkIs(0, 3), 0);
  }

  private static void tasks() {
    range("9: task", BoundsTest::empty, (x, v) -> x.task(v, 0, 1), 0, 3);
    range("9: knack", BoundsTest::empty, (x, v) -> x.task(0, v, 1), 0, 5);
    range("9: n", BoundsTest::empty, (x, v) -> x.task(0, 0, v), 0, 6);
    range("10: task", BoundsTest::empty, (x, v) -> x.taskIs(v, 0), 0, 3);
    range("10: what", BoundsTest::empty, (x, v) -> x.taskIs(0, v), 0, 4);
    DailyRelief x = Checks.ship(0, 0, 0, 0, 0, 0);
    Checks.due("9: the greatest", x.task(3, 5, 6), 0);
    Checks.due("9: as it was", x.task(3, 5, 6), 56);
    for (int bunk = 0; bunk < 6; bunk++) {
      x.days(1);
      Checks.due("9: not all six", x.taskIs(3, 3), 0);
      x.know(bunk, 5, 0);
    }
    x.days(1);
    Checks.due("9: all six", x.taskIs(3, 3), 1);
    Checks.due("9: the least", x.task(3, 0, 0), 56);
    Checks.due("9: none", x.task(3, 0, 0), 0);
  }

  private static void texts() {
    range("11: n", BoundsTest::empty, (x, v) -> x.feed(0, v), 1, 8);
    Made fed = () -> {
      DailyRelief x = new DailyRelief();
      x.feed('7', 1);
      return x;
    };
    range("12: use", fed, (x, v) -> x.text(v), 0, 1);
    range("13: use", BoundsTest::empty, (x, v) -> x.untell(v), 0, 1);
    for (int n = 1; n <= 8; n++) {
      DailyRelief x = new DailyRelief();
      Checks.due("11: " + n + " bytes", x.feed(-1L, n), n);
      Checks.due("11: so many more", x.feed(0, n), 2 * n);
      Checks.due("11: on THE TAPE", x.count(7), 2 * n);
    }
  }

  private static void days() {
    range("14: n", BoundsTest::three, (x, v) -> x.days(v), 1, 90);
    range("15: n", BoundsTest::three, (x, v) -> x.draws(v), 1, 90);
    range("16: v", BoundsTest::empty, (x, v) -> x.misheard(v), 0, 16);
    DailyRelief x = Checks.ship(0);
    x.roster(0, 0);
    Checks.due("14: one DAY", x.days(1), 1);
    Checks.due("14: ninety", x.days(90), 90);
    Checks.due("14: DAY", x.count(3), 91);
    x.draws(1);
    x.draws(90);
    Checks.due("15: DAY", x.count(3), 182);
  }

  private static void ahead() {
    range("18: n", BoundsTest::three, (x, v) -> x.then(v, 0, 0), 0, 90);
    range("18: bunk", BoundsTest::three, (x, v) -> x.then(0, v, 0), 0, 2);
    range("18: what", BoundsTest::three, (x, v) -> x.then(90, 2, v), 0, 23);
    range("19: n", BoundsTest::empty, (x, v) -> x.thenTask(v, 0, 0), 0, 90);
    range("19: task", BoundsTest::empty, (x, v) -> x.thenTask(90, v, 0), 0, 3);
    range("19: what", BoundsTest::empty, (x, v) -> x.thenTask(90, 3, v), 0, 4);
    range("20: knack", BoundsTest::empty, (x, v) -> x.lost(v, 0), 0, 5);
    range("20: n", BoundsTest::empty, (x, v) -> x.lost(5, v), 0, 90);
    range("23: knack", BoundsTest::three, (x, v) -> x.saves(v, 90), 0, 5);
    range("23: n", BoundsTest::three, (x, v) -> x.saves(5, v), 0, 90);
    range("27: n", BoundsTest::three, (x, v) -> x.wages(v), 1, 90);
    Made spared = () -> Checks.ship(0, 0);
    range("22: what", spared, (x, v) -> x.storm(v), 0, 1);
    // The greatest n is looked at in full: the TASK is DONE on each of 90 DAYS.
    DailyRelief x = three();
    x.task(0, 3, 1);
    Checks.due("19: 90 DAYS", x.thenTask(90, 0, 3), 90);
    Checks.due("19: 0 DAYS", x.thenTask(0, 0, 3), 0);
    Checks.due("27: 1 DAY", x.wages(1), 4);
    Checks.due("27: 90 DAYS", x.wages(90), 360);
  }

  /** Three men, the first of whom KNOWS all KNACKS in VERSION 7. */
  private static DailyRelief wise() {
    DailyRelief x = Checks.ship(0, 0, 0);
    for (int knack = 0; knack < 6; knack++) {
      x.know(0, knack, 7);
    }
    return x;
  }

  private static void aheadOfKnacks() {
    range("21: knack", BoundsTest::wise, (x, v) -> x.teachers(v, 30, 0), 0, 5);
    range("21: n", BoundsTest::wise, (x, v) -> x.teachers(5, v, 1), 1, 30);
    range("21: what", BoundsTest::wise, (x, v) -> x.teachers(5, 1, v), 0, 1);
    range("24: knack", BoundsTest::wise, (x, v) -> x.changes(v, 0), 0, 5);
    range("24: v", BoundsTest::wise, (x, v) -> x.changes(0, v), 0, 999);
    range("25: knack", BoundsTest::wise, (x, v) -> x.began(v, 7), 0, 5);
    range("25: version", BoundsTest::wise, (x, v) -> {
      x.know(1, 5, Math.max(0, Math.min(v, 999)));
      return x.began(5, v);
    }, 0, 999);
    range("26: knack", BoundsTest::wise, (x, v) -> x.handed(0, v), 0, 5);
    range("38: knack", BoundsTest::wise, (x, v) -> x.check(v), 0, 5);
  }

  private static void voices() {
    range("28: bunk", BoundsTest::three, (x, v) -> x.voice(v, 0, 7), 0, 2);
    range("28: voice", BoundsTest::three, (x, v) -> x.voice(1, v, 7), 0, 3);
    for (int kind = 0; kind < 7; kind++) {
      DailyRelief x = Checks.ship(10 * kind + 7);
      for (int voice = 0; voice < 4; voice++) {
        x.voice(0, voice, 5);
        int begun = x.count(9);
        for (int i = 0; i < begun; i++) {
          Checks.due("29: a BODY", x.body(i) / 10 >= 1 && x.body(i) / 10 <= 7 ? 1 : 0, 1);
        }
        Checks.due("29: one ahead", x.body(-1), Checks.NONE);
        Checks.due("29: one behind", x.body(begun), Checks.NONE);
        Checks.due("29: the thirtieth", x.body(29), Checks.NONE);
        Checks.due("29: the thirty-first", x.body(30), Checks.NONE);
      }
    }
  }

  private static void sheet() {
    range("30: sheet", BoundsTest::empty, (x, v) -> x.sheet(v, 8, 1), 0, 3);
    for (int bits : new int[] {0, 8, 16, 32}) {
      range("30: bits", BoundsTest::empty, (x, v) -> x.sheet(0, v, 1), bits, bits);
    }
    for (int bits = -40; bits <= 70; bits++) {
      if (bits != 0 && bits != 8 && bits != 16 && bits != 32) {
        refused("30: bits", BoundsTest::empty, (x, v) -> x.sheet(0, v, 1), bits, Checks.BEYOND);
      }
    }
    for (int bits = 8; bits <= 32; bits *= 2) {
      int of = bits;
      range("30: n of " + bits, BoundsTest::empty, (x, v) -> x.sheet(0, of, v), 0, 24, Checks.STATE,
          Checks.BEYOND);
    }
    for (int n : Checks.WILD) {
      DailyRelief x = new DailyRelief();
      Checks.due("30: missing, n doesn't matter", x.sheet(0, 0, n), 1);
      Checks.due("30: no ERROR", Checks.errors(x), 0);
    }
  }

  private static void put() {
    range("31: i of 5", BoundsTest::sheets, (x, v) -> x.put(0, v, 1), 0, 4);
    range("31: i of 3", BoundsTest::sheets, (x, v) -> x.put(1, v, 1), 0, 2);
    range("31: i of 24", BoundsTest::sheets, (x, v) -> x.put(2, v, 1), 0, 23);
    eachSheet("31: sheet", (x, v) -> x.put(v, 0, 1), 0, 0, 0, Checks.NONE);
    eachSheet("33: sheet", (x, v) -> x.rosters(v), 0, 0, 0, Checks.NONE);
    eachSheet("34: sheet", (x, v) -> x.judge(v), 0, 0, 0, Checks.NONE);
  }

  /** What SHEETS 0, 1, .. answer (0: they are taken); all others are BEYOND. */
  private static void eachSheet(String what, Call call, int... errors) {
    for (int v = 0; v < errors.length; v++) {
      DailyRelief x = sheets();
      int answer = call.with(x, v);
      Checks.due(what + " " + v, errors[v] == 0 ? Checks.errors(x) : answer, errors[v]);
    }
    refused(what, BoundsTest::sheets, call, -1, Checks.BEYOND);
    refused(what, BoundsTest::sheets, call, errors.length, Checks.BEYOND);
    for (int v : Checks.WILD) {
      refused(what, BoundsTest::sheets, call, v, Checks.BEYOND);
    }
  }

  private static void move() {
    range("32: i", BoundsTest::sheets, (x, v) -> x.move(0, v, 1, 0, 2), 0, 3);
    range("32: i of all", BoundsTest::sheets, (x, v) -> x.move(1, v, 0, 0, 3), 0, 0);
    range("32: i of none", BoundsTest::sheets, (x, v) -> x.move(0, v, 1, 0, 0), 0, 5);
    range("32: j", BoundsTest::sheets, (x, v) -> x.move(0, 0, 1, v, 2), 0, 1);
    range("32: j of all", BoundsTest::sheets, (x, v) -> x.move(1, 0, 0, v, 3), 0, 2);
    range("32: j of none", BoundsTest::sheets, (x, v) -> x.move(0, 0, 1, v, 0), 0, 3);
    range("32: n", BoundsTest::sheets, (x, v) -> x.move(0, 0, 1, 0, v), 0, 3);
    range("32: n from a shorter one", BoundsTest::sheets, (x, v) -> x.move(1, 1, 0, 0, v), 0, 2);
    range("32: n on itself", BoundsTest::sheets, (x, v) -> x.move(2, 0, 2, 0, v), 0, 24);
    range("32: n on itself, from 1", BoundsTest::sheets, (x, v) -> x.move(2, 0, 2, 1, v), 0, 23);
    eachSheet("32: sheet", (x, v) -> x.move(v, 0, 1, 0, 1), 0, 0, Checks.KIND, Checks.NONE);
    eachSheet("32: other", (x, v) -> x.move(1, 0, v, 0, 1), 0, 0, Checks.KIND, Checks.NONE);
  }

  private static void told() {
    range("39: what", BoundsTest::empty, (x, v) -> x.count(v), 0, 10);
    for (int k = 1; k <= 6; k++) {
      DailyRelief x = new DailyRelief();
      Checks.due("40: told(" + k + ")", x.told(k), 0);
      Checks.due("40: it is taken", Checks.errors(x), 0);
    }
    refused("40: k", BoundsTest::empty, (x, v) -> x.told(v), 0, Checks.BEYOND);
    refused("40: k", BoundsTest::empty, (x, v) -> x.told(v), 7, Checks.BEYOND);
    for (int v : Checks.WILD) {
      refused("40: k", BoundsTest::empty, (x, k) -> x.told(k), v, Checks.BEYOND);
    }
  }

  /** x of a VOICE, a word, z, what waits, what comes to a SHEET: any number is taken. */
  private static void anyNumber() {
    for (int v : Checks.WILD) {
      DailyRelief x = sheets();
      x.voice(0, 3, v);
      x.voice(1, 0, v);
      x.feed(v, 8);
      x.feed(Long.MIN_VALUE + v, 8);
      x.seed(v);
      x.tell(v);
      x.put(0, 0, v);
      x.put(2, 23, v);
      Checks.due("any number is taken", Checks.errors(x), 0);
      Checks.due("17: z", x.seed(0), v);
    }
  }
}
