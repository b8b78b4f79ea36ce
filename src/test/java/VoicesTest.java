/** Promises 28 and 29: voices, and the trace of them. */
public final class VoicesTest {
  private static final int HEARS = 0;
  private static final int TELLS = 1;
  private static final int BUNKS = 2;
  private static final int PARTS = 3;

  public static void main(String[] args) {
    man();
    quick();
    mute();
    liar();
    twin();
    stayer();
    told();
    wrap();
    parted();
    beyond();
    Checks.end("VoicesTest");
  }

  /** A man of a km in BUNK 2, whose number k is 2. */
  private static DailyRelief inBunk2(int km) {
    return Checks.ship(0, 0, km);
  }

  private static void voice(int km, int voice, int x, int due, int... trace) {
    DailyRelief ship = inBunk2(km);
    Checks.due("28: " + km + " voice " + voice, ship.voice(2, voice, x), due);
    Checks.due("29: how many", ship.count(9), trace.length);
    for (int i = 0; i < trace.length; i++) {
      Checks.due("29: body(" + i + ")", ship.body(i), trace[i]);
    }
    Checks.due("29: none behind", ship.body(trace.length), Checks.NONE);
  }

  private static void man() {
    voice(5, HEARS, 7, 9, 10);
    voice(5, TELLS, 7, 18, 11, 10);
    voice(5, BUNKS, 7, 13, 12, 11, 10);
    voice(5, PARTS, 7, 2, 13);
    voice(0, PARTS, 7, -3, 13);
    voice(5, PARTS, -7, -2, 13);
  }

  private static void quick() {
    voice(15, HEARS, 7, 3, 20, 10);
    voice(15, TELLS, 7, 6, 11, 20, 10);
    voice(15, BUNKS, 7, 1, 12, 11, 20, 10);
    voice(15, PARTS, 7, 2 - 6, 21, 13, 11, 20, 10);
  }

  private static void mute() {
    voice(25, HEARS, 7, 9, 10);
    voice(25, TELLS, 7, -18, 30, 11, 10);
    voice(25, BUNKS, 7, -23, 12, 30, 11, 10);
    voice(25, PARTS, 7, 2, 13);
  }

  private static void liar() {
    voice(35, HEARS, 7, 9, 10);
    voice(35, TELLS, 7, 18, 11, 10);
    voice(35, BUNKS, 7, 5, 40, 12, 11, 10);
    voice(35, BUNKS, -7, -7, 40, 12, 11, 10);
    voice(35, PARTS, 7, 2, 13);
  }

  private static void twin() {
    voice(45, HEARS, 7, 9, 50, 20, 10);
    voice(45, TELLS, 7, 18, 11, 50, 20, 10);
    voice(45, BUNKS, 7, 13 ^ 2, 51, 12, 11, 50, 20, 10);
    voice(45, PARTS, 7, 2 - 18, 21, 13, 11, 50, 20, 10);
  }

  private static void stayer() {
    voice(55, HEARS, 7, 9, 10);
    voice(55, TELLS, 7, -20, 60, 30, 11, 10);
    voice(55, BUNKS, 7, -25, 12, 60, 30, 11, 10);
    voice(55, PARTS, 7, 2, 13);
  }

  private static void told() {
    voice(65, HEARS, 7, 5, 70);
    voice(65, TELLS, 7, 15, 71, 11, 70);
    voice(65, BUNKS, 7, 10, 12, 71, 11, 70);
    voice(65, PARTS, 7, 2, 13);
  }

  private static void wrap() {
    voice(5, HEARS, Integer.MAX_VALUE, Integer.MIN_VALUE + 1, 10);
    voice(5, TELLS, Integer.MAX_VALUE, 2, 11, 10);
    // The least int by -1 is itself.
    voice(1, PARTS, Integer.MIN_VALUE, Integer.MIN_VALUE, 13);
    voice(55, TELLS, Integer.MAX_VALUE, -4, 60, 30, 11, 10);
    DailyRelief x = inBunk2(1);
    Checks.due("28: below LOW is no ERROR", x.voice(2, PARTS, Integer.MIN_VALUE), Integer.MIN_VALUE);
    Checks.due("28: nothing is told", x.told(1) + x.told(2) + x.told(6), 0);
  }

  private static void parted() {
    for (int kind = 0; kind < 7; kind++) {
      DailyRelief x = inBunk2(10 * kind + 2);
      Checks.due("28: PARTED " + kind, x.voice(2, PARTS, 7), Checks.PARTED);
      Checks.due("28: PARTED, 0", x.voice(2, PARTS, 0), Checks.PARTED);
      Checks.due("40: PARTED told", x.told(6), 2);
      x.voice(2, HEARS, 7);
      Checks.due("28: not any more", x.told(6), 2);
      x.set(2, 1, 3);
      Checks.due("28: another m", x.voice(2, PARTS, 7) == Checks.PARTED ? 1 : 0, 0);
    }
  }

  private static void beyond() {
    DailyRelief x = inBunk2(5);
    x.voice(2, BUNKS, 7);
    Checks.due("28: bunk 3", x.voice(3, 0, 0), Checks.BEYOND);
    Checks.due("28: voice 4", x.voice(0, 4, 0), Checks.BEYOND);
    for (int v : Checks.WILD) {
      Checks.due("28: bunk " + v, x.voice(v, 0, 0), Checks.BEYOND);
      Checks.due("28: voice " + v, x.voice(0, v, 0), Checks.BEYOND);
      Checks.due("29: body(" + v + ")", x.body(v), Checks.NONE);
    }
    Checks.due("29: THE TRACE stays", x.count(9), 3);
    Checks.due("29: body(2)", x.body(2), 10);
    Checks.due("29: body(3)", x.body(3), Checks.NONE);
    x.voice(0, HEARS, 1);
    Checks.due("29: of the latest", x.count(9), 1);
  }
}
