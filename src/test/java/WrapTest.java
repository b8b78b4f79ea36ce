/** What wraps or goes round: ints in TEXTS, in VOICES and in z; BUNKS, THE ROSTER; quotients cut. */
public final class WrapTest {
  private static final int MOST = Integer.MAX_VALUE;
  private static final int LEAST = Integer.MIN_VALUE;

  /** A TEXT that gives the least int: 2 to the 31st wraps. */
  private static final String LEAST_TEXT = "2048*2048*512";

  public static void main(String[] args) {
    texts();
    quotients();
    textsHeld();
    voices();
    voicesAbove();
    voiceQuotients();
    voicesBelowLow();
    draws();
    drawsBelowMisheard();
    reliefRound();
    lessonsRound();
    lowestBits();
    Checks.end("WrapTest");
  }

  /** WAGES by a TEXT that gives a number of 0 .. 999. */
  private static void gives(String text, int due) {
    DailyRelief x = Checks.ship(0);
    Checks.due("12: " + text, Checks.text(x, 1, text), 1);
    Checks.due("12: gives of " + text, x.bunkIs(0, 5), due);
  }

  private static void texts() {
    gives(LEAST_TEXT + "<0", 1);
    gives(LEAST_TEXT + "-1>0", 1);
    gives(LEAST_TEXT + "-1+1<0", 1);
    gives(LEAST_TEXT + "+" + LEAST_TEXT, 0);
    gives("0-" + LEAST_TEXT + "<0", 1);
    gives(LEAST_TEXT + "*2", 0);
    gives(LEAST_TEXT + "*3<0", 1);
    gives(LEAST_TEXT + "=0-" + LEAST_TEXT, 1);
    gives("9999*9999*9999<0", 1);
    gives(LEAST_TEXT + "<" + LEAST_TEXT + "-1", 1);
    gives(LEAST_TEXT + "-1<" + LEAST_TEXT, 0);
    gives(LEAST_TEXT + "|0", 1);
    gives(LEAST_TEXT + "&1", 1);
    gives(LEAST_TEXT + "*2|0", 0);
    gives("!(" + LEAST_TEXT + ")", 0);
    gives("!(" + LEAST_TEXT + "*2)", 1);
  }

  private static void quotients() {
    gives("7/2", 3);
    gives("10+(0-7)/2", 7);
    gives("10+7/(0-2)", 7);
    gives("(0-7)/(0-2)", 3);
    gives("10+(0-1)/2", 10);
    gives("7%4", 3);
    gives("10+(0-7)%4", 7);
    gives("7%(0-4)", 3);
    gives("10+(0-7)%(0-4)", 7);
    gives("5/0", 0);
    gives("5%0", 0);
    gives("0/0", 0);
    gives("0%0", 0);
    gives("3+(0-5)/0", 3);
    gives("3+(0-5)%0", 3);
    gives(LEAST_TEXT + "/(0-1)<0", 1);
    gives(LEAST_TEXT + "%(0-1)", 0);
    gives(LEAST_TEXT + "/0", 0);
    gives(LEAST_TEXT + "%0", 0);
    // All is worked out, and nothing of it is an ERROR.
    gives("1|5/0", 1);
    gives("0&5/0", 0);
    gives("7+0*(1/0)", 7);
  }

  /** What wraps is held only when all is worked out. */
  private static void textsHeld() {
    String[] texts = {LEAST_TEXT, LEAST_TEXT + "-1", LEAST_TEXT + "*2", LEAST_TEXT + "*2+42"};
    int[] needs = {1, 99, 1, 42};
    int[] wages = {0, 999, 0, 42};
    for (int i = 0; i < texts.length; i++) {
      DailyRelief x = Checks.ship(60);
      Checks.text(x, 0, texts[i]);
      Checks.text(x, 1, texts[i]);
      Checks.due("3: NEEDS of " + texts[i], x.bunkIs(0, 18), needs[i]);
      Checks.due("3: WAGES of " + texts[i], x.bunkIs(0, 5), wages[i]);
    }
  }

  /** The VOICE of a man of a km in a BUNK. */
  private static int voice(int bunk, int km, int voice, int x) {
    int[] kms = new int[bunk + 1];
    kms[bunk] = km;
    return Checks.ship(kms).voice(bunk, voice, x);
  }

  private static void voices() {
    Checks.due("28: hears of most", voice(5, 0, 0, MOST), LEAST + 4);
    Checks.due("28: hears of least", voice(5, 0, 0, LEAST), LEAST + 5);
    Checks.due("28: hears of -5", voice(5, 0, 0, -5), 0);
    Checks.due("28: tells of 1 << 30", voice(0, 0, 1, 1 << 30), LEAST);
    Checks.due("28: tells of most", voice(0, 0, 1, MOST), -2);
    Checks.due("28: tells of least", voice(0, 0, 1, LEAST), 0);
    Checks.due("28: bunks, least less m", voice(0, 9, 2, 1 << 30), MOST - 8);
    Checks.due("28: bunks of most", voice(0, 9, 2, MOST), -11);
    Checks.due("28: parts, least by -1", voice(1, 0, 3, LEAST), LEAST);
    Checks.due("28: parts, most by -1", voice(1, 0, 3, MOST), -MOST);
    Checks.due("28: parts, least by 9", voice(0, 9, 3, LEAST), -238609294);
  }

  private static void voicesAbove() {
    Checks.due("28: QUICK hears least", voice(0, 10, 0, LEAST), MOST - 5);
    Checks.due("28: QUICK hears most", voice(5, 10, 0, MOST), MOST - 1);
    Checks.due("28: QUICK parts most", voice(0, 11, 3, MOST), MOST - 10);
    Checks.due("28: QUICK parts least", voice(0, 11, 3, LEAST), MOST - 9);
    Checks.due("28: MUTE tells, 0 less the least", voice(0, 20, 1, 1 << 30), LEAST);
    Checks.due("28: LIAR bunks of most", voice(0, 39, 2, MOST), MOST - 10);
    Checks.due("28: LIAR bunks of least", voice(0, 39, 2, LEAST), MOST - 8);
    Checks.due("28: TWIN hears most", voice(0, 40, 0, MOST), MOST - 20);
    Checks.due("28: TWIN bunks of 3", voice(3, 40, 2, 3), 3);
    Checks.due("28: TWIN bunks below 0", voice(3, 40, 2, 2), -7);
    Checks.due("28: STAYER tells most", voice(0, 50, 1, MOST), 0);
    Checks.due("28: STAYER tells most in BUNK 5", voice(5, 50, 1, MOST), -10);
    Checks.due("28: TOLD hears any", voice(5, 69, 0, LEAST), 5);
    Checks.due("28: TOLD tells any", voice(5, 69, 1, MOST), 19);
  }

  private static void voiceQuotients() {
    Checks.due("28: 7 by 2", voice(0, 2, 3, 7), 3);
    Checks.due("28: -7 by 2", voice(0, 2, 3, -7), -3);
    Checks.due("28: 7 by -2", voice(2, 0, 3, 7), -3);
    Checks.due("28: -7 by -2", voice(2, 0, 3, -7), 3);
    Checks.due("28: -1 by 2", voice(0, 2, 3, -1), 0);
    Checks.due("28: 0 by 2", voice(0, 2, 3, 0), 0);
    Checks.due("28: 0 by 0", voice(0, 0, 3, 0), Checks.PARTED);
    Checks.due("28: LIAR, 7 by 2", voice(0, 30, 2, 7), 6);
    Checks.due("28: LIAR, -7 by 2", voice(0, 30, 2, -7), -6);
    Checks.due("28: LIAR, -1 by 2", voice(0, 30, 2, -1), 0);
  }

  /** A VOICE, a seed and z may be any number: below LOW they aren't ERRORS. */
  private static void voicesBelowLow() {
    DailyRelief x = Checks.ship(0, 1);
    for (int k = 0; k <= 7; k++) {
      int v = -1000000000 - k;
      Checks.due("28: hears", x.voice(0, 0, v), v);
      x.seed(v);
      Checks.due("39: z", x.count(10), v);
      Checks.due("17: z", x.seed(0), v);
    }
    Checks.due("40: none is an ERROR", Checks.errors(x), 0);
    Checks.due("29: THE TRACE of such a one", x.body(0), 10);
  }

  private static int next(int z) {
    return z * 1103515245 + 12345;
  }

  /** A ship in which the next DAY BY DRAWS has one draw, or as many as there are QUICK ones. */
  private static DailyRelief drawing(int z, int quick) {
    DailyRelief x = Checks.ship(0);
    x.know(0, 0, 100);
    x.set(0, 4, 0);
    for (int i = 1; i <= quick; i++) {
      x.bunk(10);
      x.set(i, 4, 0);
    }
    x.seed(z);
    return x;
  }

  private static void draws() {
    int[] seeds = {0, 1, -1, MOST, LEAST, MOST - 1, LEAST + 1, 12345, -12345, 1 << 30};
    for (int seed : seeds) {
      for (int quick = 1; quick <= 5; quick++) {
        DailyRelief x = drawing(seed, quick);
        x.draws(1);
        int z = seed;
        for (int i = 0; i < quick; i++) {
          z = next(z);
        }
        Checks.due("15: z of " + seed + " after " + quick, x.count(10), z);
        Checks.due("15: z is told once more", x.seed(9), z);
      }
    }
  }

  /** Misheard if the rest by 16 is below MISHEARD, and not if it is just that. */
  private static void drawsBelowMisheard() {
    int seed = 7;
    for (int i = 0; i < 200; i++) {
      seed = next(seed) ^ i;
      int rest = (next(seed) >>> 8) % 16;
      for (int misheard = 0; misheard <= 16; misheard++) {
        DailyRelief x = drawing(seed, 1);
        x.misheard(misheard);
        int wrong = rest < misheard ? 1 : 0;
        Checks.due("15: rest " + rest + " by " + misheard, x.draws(1), wrong);
        Checks.due("15: VERSION", x.bunkIs(1, 6), 100 + wrong);
      }
    }
  }

  /** The BUNK told by the DAY's rest, and THE ROSTER round, for each number of both. */
  private static void reliefRound() {
    for (int crew = 1; crew <= 6; crew++) {
      for (int men = 1; men <= 12; men++) {
        DailyRelief x = Checks.ship(new int[crew]);
        for (int i = 0; i < men; i++) {
          x.roster(10 + i % 10, i);
        }
        for (int day = 0; day < 26; day++) {
          Checks.due("14: one comes", x.days(1), 1);
          Checks.due("14: to this BUNK", x.bunkIs(day % crew, 2), day);
          Checks.due("14: this man", x.bunkIs(day % crew, 3), day % men);
          Checks.due("39: NEXT", x.count(2), (day + 1) % men);
        }
      }
    }
    nextWhenMoreCome();
  }

  /** Men who come to THE ROSTER stand behind all, wherever NEXT is. */
  private static void nextWhenMoreCome() {
    DailyRelief x = Checks.ship(0);
    x.roster(1, 0);
    x.roster(2, 0);
    x.days(1);
    x.roster(3, 0);
    int[] due = {2, 3, 1, 2, 3, 1};
    for (int m : due) {
      x.days(1);
      Checks.due("14: round with the third", x.bunkIs(0, 1), m);
    }
    DailyRelief y = Checks.ship(0);
    y.roster(1, 0);
    y.days(1);
    y.roster(2, 0);
    y.days(1);
    Checks.due("14: it had gone round already", y.bunkIs(0, 1), 1);
  }

  /** Behind the last BUNK comes BUNK 0, for each number of BUNKS. */
  private static void lessonsRound() {
    for (int crew = 2; crew <= 6; crew++) {
      for (int teacher = 0; teacher < crew; teacher++) {
        DailyRelief x = Checks.ship(new int[crew]);
        x.know(teacher, 5, 1);
        x.set(teacher, 4, 5);
        x.days(1);
        for (int bunk = 0; bunk < crew; bunk++) {
          boolean taught = bunk == (teacher + 1) % crew;
          Checks.due("14: LESSONS", x.bunkIs(bunk, 17), taught ? 1 : 0);
        }
        Checks.due("26: round to all others", x.handed(teacher, 5), crew - 1);
        x.set((teacher + crew - 1) % crew, 0, 2);
        Checks.due("26: a MUTE one at the end learns", x.handed(teacher, 5), crew - 1);
        x.set((teacher + 1) % crew, 0, 5);
        Checks.due("26: the next one learns alone", x.handed(teacher, 5), 1);
        x.set(teacher, 0, 2);
        Checks.due("26: a MUTE one hands nothing on", x.handed(teacher, 5), 0);
      }
    }
  }

  /** A number of a SHEET is the lowest 8, 16 or 32 bits of what is put. */
  private static void lowestBits() {
    int[] bits = {8, 16, 32};
    for (int i = 0; i < 3; i++) {
      for (int high = -70000; high <= 70000; high += high < -2 || high > 2 ? 6997 : 1) {
        for (int shift = 8; shift <= 24; shift += 8) {
          int v = (high << shift) + 5;
          boolean five = bits[i] < 32 ? (v & (1 << bits[i]) - 1) == 5 : v == 5;
          DailyRelief x = Checks.ship(0);
          x.know(0, 0, 0);
          x.know(0, 2, 0);
          x.sheet(1, bits[i], 1);
          x.put(1, 0, v);
          Checks.due("31: " + v + " in " + bits[i] + " bits", x.judge(1), five ? -1 : 0);
        }
      }
    }
    bitsOfRosters();
  }

  private static void bitsOfRosters() {
    int[][] rows = {{8, 256 + 69, 256 + 63}, {16, 65536 + 69, 63 - 65536}, {32, 69, 63}};
    for (int[] row : rows) {
      DailyRelief x = Checks.ship(0);
      x.sheet(0, row[0], 2);
      x.put(0, 0, row[1]);
      x.put(0, 1, row[2]);
      Checks.due("33: by their lowest bits", x.rosters(0), 1);
      x.days(1);
      Checks.due("33: KIND and m", 10 * x.bunkIs(0, 0) + x.bunkIs(0, 1), 69);
      Checks.due("33: brings", x.bunkIs(0, 3), 63);
    }
    int[][] wrong = {{8, 70, 0}, {8, 255, 0}, {8, -1, 0}, {8, 0, 64}, {8, 0, 128}, {16, 256, 0},
        {16, 0, 256}, {16, -1, 0}, {32, 65536, 0}, {32, 0, 65536}, {32, LEAST, 0}, {32, 0, MOST}};
    for (int[] row : wrong) {
      DailyRelief x = Checks.ship(0);
      x.sheet(0, row[0], 2);
      x.put(0, 0, row[1]);
      x.put(0, 1, row[2]);
      Checks.due("33: " + row[1] + ", " + row[2] + " of " + row[0], x.rosters(0), 0);
      Checks.due("33: no ERROR", Checks.errors(x), 0);
    }
  }
}
