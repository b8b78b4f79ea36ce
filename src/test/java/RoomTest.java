import java.lang.management.ManagementFactory;

/** All calls of one run live in one room: what an object's 512 calls make stays small. */
public final class RoomTest {
  private static final int CALLS = 512;
  private static final com.sun.management.ThreadMXBean THREADS =
      (com.sun.management.ThreadMXBean) ManagementFactory.getThreadMXBean();

  public static void main(String[] args) {
    // Once ahead of the measuring, so that what the machine loads isn't counted.
    made(-1);
    for (int act = 0; act < 14; act++) {
      long bytes = made(act);
      Checks.due("act " + act + " makes " + bytes + " bytes", bytes < 60000 ? 0 : 1, 0);
    }
    long text = made(14);
    // A TEXT of 60 bytes is at most two rows of 60 ints.
    Checks.due("text makes " + text + " bytes", text < CALLS * 700 ? 0 : 1, 0);
    Checks.end("RoomTest");
  }

  private static long made(int act) {
    DailyRelief x = Checks.ship(0, 15, 64, 35, 44, 51);
    x.roster(62, 5);
    x.roster(12, 0);
    x.know(0, 0, 1);
    x.set(0, 4, 0);
    x.sheet(0, 32, 24);
    Checks.text(x, 0, "k*h+m");
    Checks.text(x, 1, "d*h+k");
    long ahead = THREADS.getCurrentThreadAllocatedBytes();
    for (int i = 0; i < CALLS; i++) {
      act(x, act);
    }
    return THREADS.getCurrentThreadAllocatedBytes() - ahead;
  }

  private static void act(DailyRelief x, int act) {
    switch (act) {
      case 0: x.teachers(0, 30, 0); break;
      case 1: x.saves(0, 90); break;
      case 2: x.wages(90); break;
      case 3: x.lost(0, 90); break;
      case 4: x.then(90, 0, 0); break;
      case 5: x.thenTask(90, 0, 0); break;
      case 6: x.days(19); break;
      case 7: x.draws(19); break;
      case 8: x.image(); break;
      case 9: x.restore(); break;
      case 10: x.storm(0); break;
      case 11: x.voice(3, 2, 9); break;
      case 12: x.move(0, 0, 0, 1, 23); break;
      case 13: x.rosters(0); break;
      case 14:
        for (int i = 0; i < 7; i++) {
          x.feed(0x2b312b312b312b31L, 8);
        }
        x.feed(0x31312b31L, 4);
        x.text(0);
        break;
      default: x.tell(0); break;
    }
  }
}
