/**
 * A ship that changes its crew by one man a day, and what is known on board.
 *
 * <p>The numbered promises stand in ../shared/DOC.md; words in capitals are that document's.
 */
public final class DailyRelief {
  private static final int LOW = -1000000000;

  private static final int BEYOND = 1;
  private static final int NONE = 2;
  private static final int STATE = 3;
  private static final int FULL = 4;
  private static final int KIND = 5;
  private static final int PARTED = 6;
  private static final int ERRORS = 6;

  private static final int MAN = 0;
  private static final int QUICK = 1;
  private static final int MUTE = 2;
  private static final int LIAR = 3;
  private static final int TWIN = 4;
  private static final int STAYER = 5;
  private static final int TOLD = 6;
  private static final int KINDS = 7;
  /** The KIND above each KIND; -1: there is none. */
  private static final int[] ABOVE = {-1, MAN, MAN, MAN, QUICK, MUTE, MAN};

  private static final int KNACKS = 6;
  private static final int KNACK_BITS = 63;
  private static final int MOST_KM = 69;
  private static final int MOST_M = 9;
  private static final int MOST_BUNKS = 6;
  private static final int MOST_ROSTER = 12;
  private static final int TASKS = 4;
  private static final int MOST_COUNTED = 999999;
  private static final int MOST_VERSION = 999;
  private static final int MOST_LESSONS = 99;
  private static final int MOST_WAGES = 999;
  private static final int LAST_DAY = 9999;
  private static final int MOST_DAYS = 90;
  private static final int MOST_TEACHER_DAYS = 30;
  private static final int MOST_MISHEARD = 16;
  private static final int MOST_TAPE = 60;
  private static final int MOST_OPEN = 5;
  private static final int MOST_WAITING = 24;
  private static final int SHEETS = 4;
  private static final int MOST_NUMBERS = 24;
  private static final int MOST_TRACE = 30;

  private static final int NEEDS_TEXT = 0;
  private static final int WAGES_TEXT = 1;
  private static final int USES = 2;

  /** What bunkIs() tells is this many numbers, what taskIs() tells that many. */
  private static final int MAN_WHATS = 24;
  private static final int TASK_WHATS = 5;

  private final Ship ship = new Ship();
  private final Ship kept = new Ship();
  /** Where days AHEAD are tried out; made once, as every call shares one room. */
  private final Ship trial = new Ship();
  private final TextReader reader = new TextReader();
  private final Voices voices = new Voices();
  private final Sheet[] sheets = new Sheet[SHEETS];
  private final int[] errors = new int[ERRORS + 1];
  private int images;

  public DailyRelief() {
    for (int i = 0; i < SHEETS; i++) {
      sheets[i] = new Sheet();
    }
  }

  // ---- bunks, the roster, tasks

  public int bunk(int km) {
    if (!within(km, 0, MOST_KM)) {
      return error(BEYOND);
    }
    if (ship.crew >= MOST_BUNKS) {
      return error(FULL);
    }
    return ship.addBunk(km);
  }

  public int bunkIs(int bunk, int what) {
    if (!isBunk(bunk) || !within(what, 0, MAN_WHATS - 1)) {
      return error(BEYOND);
    }
    return ship.ofMan(bunk, what);
  }

  public int as(int bunk, int kind) {
    if (!isBunk(bunk) || !within(kind, 0, KINDS - 1)) {
      return error(BEYOND);
    }
    if (!ship.bunks[bunk].isOf(kind)) {
      return error(KIND);
    }
    return ship.bunks[bunk].known;
  }

  public int set(int bunk, int what, int v) {
    if (!isBunk(bunk) || !maySet(what, v)) {
      return error(BEYOND);
    }
    Bunk changed = ship.bunks[bunk];
    int old = ship.ofMan(bunk, what);
    if (what == 0) {
      changed.kind = v;
    } else if (what == 1) {
      changed.m = v;
    } else {
      changed.taught = v;
    }
    return old;
  }

  public int know(int bunk, int knack, int version) {
    if (!isBunk(bunk) || !isKnack(knack) || !within(version, -1, MOST_VERSION)) {
      return error(BEYOND);
    }
    Bunk man = ship.bunks[bunk];
    int old = man.knows(knack) ? man.versions[knack] : -1;
    if (version < 0) {
      man.forget(knack);
    } else {
      man.learn(knack, version);
    }
    return old;
  }

  public int roster(int km, int brings) {
    if (!mayEnlist(km, brings)) {
      return error(BEYOND);
    }
    if (ship.enlisted >= MOST_ROSTER) {
      return error(FULL);
    }
    return ship.enlist(km, brings);
  }

  public int book(int knacks) {
    if (!within(knacks, 0, KNACK_BITS)) {
      return error(BEYOND);
    }
    int old = ship.written;
    ship.written = knacks;
    return old;
  }

  public int task(int task, int knack, int n) {
    if (!within(task, 0, TASKS - 1) || !isKnack(knack) || !within(n, 0, MOST_BUNKS)) {
      return error(BEYOND);
    }
    Task changed = ship.tasks[task];
    int old = 10 * changed.knack + changed.must;
    changed.knack = knack;
    changed.must = n;
    return old;
  }

  public int taskIs(int task, int what) {
    if (!within(task, 0, TASKS - 1) || !within(what, 0, TASK_WHATS - 1)) {
      return error(BEYOND);
    }
    return ship.ofTask(task, what);
  }

  // ---- texts

  public int feed(long word, int n) {
    if (!within(n, 1, 8)) {
      return error(BEYOND);
    }
    if (ship.taped + n > MOST_TAPE) {
      return error(FULL);
    }
    for (int i = 0; i < n; i++) {
      ship.tape[ship.taped] = (byte) (word >>> (8 * i));
      ship.taped++;
    }
    return ship.taped;
  }

  public int text(int use) {
    if (!within(use, 0, USES - 1)) {
      return error(BEYOND);
    }
    Text read = reader.read(ship.tape, ship.taped, use == NEEDS_TEXT ? 'm' : 'd');
    ship.taped = 0;
    if (read == null) {
      return -10 - reader.fault;
    }
    ship.texts[use] = read;
    return 1;
  }

  public int untell(int use) {
    if (!within(use, 0, USES - 1)) {
      return error(BEYOND);
    }
    int old = ship.texts[use] == null ? 0 : 1;
    ship.texts[use] = null;
    return old;
  }

  // ---- days

  public int days(int n) {
    if (!within(n, 1, MOST_DAYS)) {
      return error(BEYOND);
    }
    if (ship.day + n > LAST_DAY) {
      return error(STATE);
    }
    int came = 0;
    for (int i = 0; i < n; i++) {
      came += ship.passDay();
    }
    return came;
  }

  public int draws(int n) {
    if (!within(n, 1, MOST_DAYS)) {
      return error(BEYOND);
    }
    if (ship.day + n > LAST_DAY) {
      return error(STATE);
    }
    int wrong = 0;
    for (int i = 0; i < n; i++) {
      wrong += ship.passDayByDraws();
    }
    return wrong;
  }

  public int misheard(int v) {
    if (!within(v, 0, MOST_MISHEARD)) {
      return error(BEYOND);
    }
    int old = ship.mishearing;
    ship.mishearing = v;
    return old;
  }

  public int seed(int v) {
    int old = ship.z;
    ship.z = v;
    return old;
  }

  // ---- what would be

  public int then(int n, int bunk, int what) {
    if (!within(n, 0, MOST_DAYS) || !isBunk(bunk) || !within(what, 0, MAN_WHATS - 1)) {
      return error(BEYOND);
    }
    goAhead(n);
    return trial.ofMan(bunk, what);
  }

  public int thenTask(int n, int task, int what) {
    if (!within(n, 0, MOST_DAYS) || !within(task, 0, TASKS - 1)
        || !within(what, 0, TASK_WHATS - 1)) {
      return error(BEYOND);
    }
    goAhead(n);
    return trial.ofTask(task, what);
  }

  public int lost(int knack, int n) {
    if (!isKnack(knack) || !within(n, 0, MOST_DAYS)) {
      return error(BEYOND);
    }
    goAhead(0);
    for (int i = 0; i <= n; i++) {
      if (trial.knowers(knack) == 0) {
        return i;
      }
      trial.passDay();
    }
    return error(NONE);
  }

  public int teachers(int knack, int n, int what) {
    if (!isKnack(knack) || !within(n, 1, MOST_TEACHER_DAYS) || !within(what, 0, 1)) {
      return error(BEYOND);
    }
    int best = -1;
    for (int set = 0; set < 1 << ship.crew; set++) {
      boolean fewer = best < 0 || Integer.bitCount(set) < Integer.bitCount(best);
      if (fewer && staysKnown(knack, n, set)) {
        best = set;
      }
    }
    if (best < 0) {
      return error(NONE);
    }
    return what == 0 ? Integer.bitCount(best) : best;
  }

  public int storm(int what) {
    if (!within(what, 0, 1)) {
      return error(BEYOND);
    }
    int pairs = 0;
    int first = -1;
    for (int less = 0; less < ship.crew; less++) {
      for (int more = less + 1; more < ship.crew; more++) {
        if (ship.canSpare(less, more)) {
          pairs++;
          first = first < 0 ? 10 * less + more : first;
        }
      }
    }
    if (what == 0) {
      return pairs;
    }
    return first < 0 ? error(NONE) : first;
  }

  public int saves(int knack, int n) {
    if (!isKnack(knack) || !within(n, 0, MOST_DAYS)) {
      return error(BEYOND);
    }
    int bit = 1 << knack;
    return doneWithBook(ship.written | bit, n) - doneWithBook(ship.written & ~bit, n);
  }

  public int changes(int knack, int v) {
    if (!isKnack(knack) || !within(v, 0, MOST_VERSION)) {
      return error(BEYOND);
    }
    int ahead = v;
    int changed = 0;
    for (int i = 0; i < ship.crew; i++) {
      Bunk man = ship.bunks[i];
      if (man.knows(knack)) {
        changed += man.versions[knack] == ahead ? 0 : 1;
        ahead = man.versions[knack];
      }
    }
    return changed;
  }

  public int began(int knack, int version) {
    if (!isKnack(knack) || !within(version, 0, MOST_VERSION)) {
      return error(BEYOND);
    }
    boolean found = false;
    int least = 0;
    for (int i = 0; i < ship.crew; i++) {
      Bunk man = ship.bunks[i];
      if (man.knows(knack) && man.versions[knack] == version) {
        least = found ? Math.min(least, man.came) : man.came;
        found = true;
      }
    }
    return found ? least : error(NONE);
  }

  public int handed(int bunk, int knack) {
    if (!isBunk(bunk) || !isKnack(knack)) {
      return error(BEYOND);
    }
    if (!ship.bunks[bunk].knows(knack)) {
      return error(STATE);
    }
    // However many LESSONS one NEEDS, "for ever" has them: only a MUTE one ends the way round.
    int others = 0;
    while (others < ship.crew - 1 && !ship.bunks[(bunk + others) % ship.crew].isOf(MUTE)) {
      others++;
    }
    return others;
  }

  public int wages(int n) {
    if (!within(n, 1, MOST_DAYS)) {
      return error(BEYOND);
    }
    goAhead(0);
    int earned = 0;
    for (int i = 0; i < n; i++) {
      trial.passDay();
      earned += trial.payOfAll();
    }
    return earned;
  }

  // ---- voices, sheets, images, what is told

  public int voice(int bunk, int voice, int x) {
    if (!isBunk(bunk) || !within(voice, 0, Voices.VOICES - 1)) {
      return error(BEYOND);
    }
    Bunk man = ship.bunks[bunk];
    int answer = voices.speak(man.kind, bunk, man.m, voice, x);
    return voices.parted ? error(PARTED) : answer;
  }

  public int body(int i) {
    return within(i, 0, voices.begun - 1) ? voices.trace[i] : error(NONE);
  }

  public int sheet(int sheet, int bits, int n) {
    if (!isSheet(sheet) || bits != 0 && bits != 8 && bits != 16 && bits != 32) {
      return error(BEYOND);
    }
    if (bits != 0 && n < 0) {
      return error(STATE);
    }
    if (bits != 0 && n > MOST_NUMBERS) {
      return error(BEYOND);
    }
    sheets[sheet].lay(bits, bits == 0 ? 0 : n);
    return 1;
  }

  public int put(int sheet, int i, int v) {
    if (!isSheet(sheet)) {
      return error(BEYOND);
    }
    Sheet changed = sheets[sheet];
    if (changed.isMissing()) {
      return error(NONE);
    }
    if (!within(i, 0, changed.length - 1)) {
      return error(BEYOND);
    }
    changed.write(i, v);
    return 1;
  }

  public int move(int sheet, int i, int other, int j, int n) {
    if (!isSheet(sheet) || !isSheet(other)) {
      return error(BEYOND);
    }
    Sheet from = sheets[sheet];
    Sheet to = sheets[other];
    if (from.isMissing() || to.isMissing()) {
      return error(NONE);
    }
    if (from.bits != to.bits) {
      return error(KIND);
    }
    if (!from.holds(i, n) || !to.holds(j, n)) {
      return error(BEYOND);
    }
    System.arraycopy(from.numbers, i, to.numbers, j, n);
    return n;
  }

  public int rosters(int sheet) {
    if (!isSheet(sheet)) {
      return error(BEYOND);
    }
    Sheet read = sheets[sheet];
    if (read.isMissing()) {
      return error(NONE);
    }
    int came = 0;
    for (int i = 0; i + 1 < read.length; i += 2) {
      int km = read.numbers[i];
      int brings = read.numbers[i + 1];
      if (!mayEnlist(km, brings) || ship.enlisted >= MOST_ROSTER) {
        break;
      }
      ship.enlist(km, brings);
      came++;
    }
    return came;
  }

  public int judge(int sheet) {
    if (!isSheet(sheet)) {
      return error(BEYOND);
    }
    Sheet read = sheets[sheet];
    if (read.isMissing()) {
      return error(NONE);
    }
    int both = Math.min(read.length, ship.crew);
    for (int i = 0; i < both; i++) {
      if (read.numbers[i] != ship.bunks[i].known) {
        return i;
      }
    }
    return read.length == ship.crew ? -1 : both;
  }

  public int image() {
    kept.copyFrom(ship);
    images++;
    return images;
  }

  public int restore() {
    if (images == 0) {
      return error(NONE);
    }
    ship.copyFrom(kept);
    return ship.day;
  }

  public int tell(int v) {
    if (ship.waiting >= MOST_WAITING) {
      return error(FULL);
    }
    ship.waits[ship.waiting] = v;
    ship.waiting++;
    return ship.waiting;
  }

  public int check(int knack) {
    int waiting = ship.waiting;
    ship.waiting = 0;
    if (!isKnack(knack)) {
      return error(BEYOND);
    }
    goAhead(0);
    for (int i = 0; i < waiting; i++) {
      trial.passDay();
      if (trial.knowers(knack) != ship.waits[i]) {
        return 1 + i;
      }
    }
    return 0;
  }

  public int count(int what) {
    switch (what) {
      case 0: return ship.crew;
      case 1: return ship.enlisted;
      case 2: return ship.next;
      case 3: return ship.day;
      case 4: return ship.knownByAny();
      case 5: return ship.written;
      case 6: return ship.mishearing;
      case 7: return ship.taped;
      case 8: return ship.waiting;
      case 9: return voices.begun;
      case 10: return ship.z;
      default: return error(BEYOND);
    }
  }

  public int told(int k) {
    return within(k, 1, ERRORS) ? errors[k] : error(BEYOND);
  }

  // ---- what several of them use

  private static boolean within(int v, int least, int most) {
    return v >= least && v <= most;
  }

  private static boolean isKnack(int knack) {
    return within(knack, 0, KNACKS - 1);
  }

  private static boolean isSheet(int sheet) {
    return within(sheet, 0, SHEETS - 1);
  }

  private static boolean mayEnlist(int km, int brings) {
    return within(km, 0, MOST_KM) && within(brings, 0, KNACK_BITS);
  }

  private static boolean maySet(int what, int v) {
    switch (what) {
      case 0: return within(v, 0, KINDS - 1);
      case 1: return within(v, 0, MOST_M);
      case 4: return within(v, -1, KNACKS - 1);
      default: return false;
    }
  }

  private boolean isBunk(int bunk) {
    return within(bunk, 0, ship.crew - 1);
  }

  private int error(int k) {
    errors[k]++;
    return LOW - k;
  }

  private void goAhead(int n) {
    trial.copyFrom(ship);
    for (int i = 0; i < n; i++) {
      trial.passDay();
    }
  }

  private boolean staysKnown(int knack, int n, int set) {
    trial.copyFrom(ship);
    trial.teachOnly(knack, set);
    for (int i = 0; i < n; i++) {
      trial.passDay();
      if (trial.knowers(knack) == 0) {
        return false;
      }
    }
    return true;
  }

  private int doneWithBook(int knacks, int n) {
    trial.copyFrom(ship);
    trial.written = knacks;
    for (int i = 0; i < n; i++) {
      trial.passDay();
    }
    return trial.doneOfAll();
  }

  /** A BUNK: what is taught there, and the man in it. */
  private static final class Bunk {
    int kind;
    int m;
    int came;
    int known;
    int taught;
    final int[] versions = new int[KNACKS];
    final int[] lessons = new int[KNACKS];

    void copyFrom(Bunk other) {
      kind = other.kind;
      m = other.m;
      came = other.came;
      known = other.known;
      taught = other.taught;
      System.arraycopy(other.versions, 0, versions, 0, KNACKS);
      System.arraycopy(other.lessons, 0, lessons, 0, KNACKS);
    }

    /** A new man who KNOWS nothing yet; what is taught here stays the BUNK's. */
    void settle(int km, int day) {
      kind = km / 10;
      m = km % 10;
      came = day;
      for (int knack = 0; knack < KNACKS; knack++) {
        forget(knack);
      }
    }

    void learnAll(int knacks, int version) {
      for (int knack = 0; knack < KNACKS; knack++) {
        if ((knacks >> knack & 1) != 0) {
          learn(knack, version);
        }
      }
    }

    void learn(int knack, int version) {
      known |= 1 << knack;
      versions[knack] = version;
    }

    void forget(int knack) {
      known &= ~(1 << knack);
      versions[knack] = 0;
      lessons[knack] = 0;
    }

    boolean knows(int knack) {
      return isKnack(knack) && (known >> knack & 1) != 0;
    }

    /** Of a KIND, or of one under it. */
    boolean isOf(int above) {
      int own = kind;
      for (int i = 0; i < KINDS && own >= 0 && own != above; i++) {
        own = ABOVE[own];
      }
      return own == above;
    }

    boolean stays(int day) {
      return kind == STAYER && day % (m + 2) == 0;
    }

    /** The VERSION that he TELLS of a KNACK. */
    int tellsOf(int knack) {
      int version = versions[knack];
      if (kind == LIAR) {
        version += m;
      } else if (kind == TWIN) {
        version += knack % 2;
      }
      return Math.max(0, Math.min(MOST_VERSION, version));
    }
  }

  /** A TASK: a KNACK, how many must KNOW it, and how it went. */
  private static final class Task {
    int knack;
    int must;
    int done;
    int failed;

    void copyFrom(Task other) {
      knack = other.knack;
      must = other.must;
      done = other.done;
      failed = other.failed;
    }

    void tryWith(int knowers) {
      if (must == 0) {
        return;
      }
      if (knowers >= must) {
        done = Math.min(MOST_COUNTED, done + 1);
      } else {
        failed = Math.min(MOST_COUNTED, failed + 1);
      }
    }
  }

  /** All that an IMAGE keeps; an IMAGE and the days AHEAD are Ships, too. */
  private static final class Ship {
    final Bunk[] bunks = new Bunk[MOST_BUNKS];
    int crew;
    final int[] rosterKm = new int[MOST_ROSTER];
    final int[] rosterBrings = new int[MOST_ROSTER];
    int enlisted;
    int next;
    int written;
    final Task[] tasks = new Task[TASKS];
    int day;
    int mishearing = 4;
    int z = 1;
    final byte[] tape = new byte[MOST_TAPE];
    int taped;
    final Text[] texts = new Text[USES];
    final int[] waits = new int[MOST_WAITING];
    int waiting;

    Ship() {
      for (int i = 0; i < MOST_BUNKS; i++) {
        bunks[i] = new Bunk();
      }
      for (int i = 0; i < TASKS; i++) {
        tasks[i] = new Task();
      }
    }

    void copyFrom(Ship other) {
      crew = other.crew;
      enlisted = other.enlisted;
      next = other.next;
      written = other.written;
      day = other.day;
      mishearing = other.mishearing;
      z = other.z;
      taped = other.taped;
      waiting = other.waiting;
      for (int i = 0; i < crew; i++) {
        bunks[i].copyFrom(other.bunks[i]);
      }
      for (int i = 0; i < TASKS; i++) {
        tasks[i].copyFrom(other.tasks[i]);
      }
      for (int i = 0; i < USES; i++) {
        texts[i] = other.texts[i];
      }
      System.arraycopy(other.rosterKm, 0, rosterKm, 0, enlisted);
      System.arraycopy(other.rosterBrings, 0, rosterBrings, 0, enlisted);
      System.arraycopy(other.tape, 0, tape, 0, taped);
      System.arraycopy(other.waits, 0, waits, 0, waiting);
    }

    int addBunk(int km) {
      bunks[crew].settle(km, -1);
      bunks[crew].taught = -1;
      crew++;
      return crew - 1;
    }

    int enlist(int km, int brings) {
      rosterKm[enlisted] = km;
      rosterBrings[enlisted] = brings;
      enlisted++;
      return enlisted;
    }

    void teachOnly(int knack, int set) {
      for (int i = 0; i < crew; i++) {
        bunks[i].taught = (set >> i & 1) != 0 ? knack : -1;
      }
    }

    /** How many men came: 0 or 1. */
    int passDay() {
      int came = relieve();
      teachAll(false);
      endDay();
      return came;
    }

    /** How many KNACKS were misheard. */
    int passDayByDraws() {
      relieve();
      int wrong = teachAll(true);
      endDay();
      return wrong;
    }

    private int relieve() {
      if (crew == 0 || enlisted == 0) {
        return 0;
      }
      Bunk relieved = bunks[day % crew];
      if (relieved.stays(day)) {
        return 0;
      }
      relieved.settle(rosterKm[next], day);
      // What he brings along comes last: its VERSION stands over THE BOOK's.
      relieved.learnAll(written, 0);
      relieved.learnAll(rosterBrings[next], 1);
      next = (next + 1) % enlisted;
      return 1;
    }

    private int teachAll(boolean byDraws) {
      int wrong = 0;
      for (int i = 0; i < crew && crew > 1; i++) {
        wrong += teach(bunks[i], bunks[(i + 1) % crew], byDraws);
      }
      return wrong;
    }

    /** How many KNACKS were misheard: 0 or 1. */
    private int teach(Bunk teacher, Bunk pupil, boolean byDraws) {
      int knack = teacher.taught;
      if (!teacher.knows(knack) || teacher.isOf(MUTE) || pupil.knows(knack)) {
        return 0;
      }
      pupil.lessons[knack] = Math.min(MOST_LESSONS, pupil.lessons[knack] + 1);
      if (pupil.lessons[knack] < needs(pupil, knack)) {
        return 0;
      }
      int wrong = byDraws && draw() % 16 < mishearing ? 1 : 0;
      pupil.learn(knack, Math.min(MOST_VERSION, teacher.tellsOf(knack) + wrong));
      return wrong;
    }

    private int draw() {
      z = z * 1103515245 + 12345;
      return z >>> 8;
    }

    private void endDay() {
      for (int i = 0; i < TASKS; i++) {
        tasks[i].tryWith(knowers(tasks[i].knack));
      }
      day++;
    }

    private int needs(Bunk man, int knack) {
      switch (man.kind) {
        case QUICK:
        case TWIN:
          return 1;
        case MUTE:
          return 2 + man.m;
        case TOLD:
          Text text = texts[NEEDS_TEXT];
          int h = Integer.bitCount(man.known);
          int given = text == null ? man.m : text.value(knack, h, man.m);
          return Math.max(1, Math.min(MOST_LESSONS, given));
        default:
          return 2;
      }
    }

    private int pay(Bunk man) {
      int knows = Integer.bitCount(man.known);
      Text text = texts[WAGES_TEXT];
      if (text == null) {
        return 1 + knows;
      }
      int since = man.came < 0 ? 0 : day - man.came;
      return Math.max(0, Math.min(MOST_WAGES, text.value(man.kind, knows, since)));
    }

    int payOfAll() {
      int all = 0;
      for (int i = 0; i < crew; i++) {
        all += pay(bunks[i]);
      }
      return all;
    }

    int doneOfAll() {
      int all = 0;
      for (int i = 0; i < TASKS; i++) {
        all += tasks[i].done;
      }
      return all;
    }

    int knowers(int knack) {
      int all = 0;
      for (int i = 0; i < crew; i++) {
        all += bunks[i].knows(knack) ? 1 : 0;
      }
      return all;
    }

    int knownByAny() {
      int all = 0;
      for (int i = 0; i < crew; i++) {
        all |= bunks[i].known;
      }
      return all;
    }

    /** Whether each TASK still has its men when those of two BUNKS are gone. */
    boolean canSpare(int one, int other) {
      for (int i = 0; i < TASKS; i++) {
        int knack = tasks[i].knack;
        int gone = (bunks[one].knows(knack) ? 1 : 0) + (bunks[other].knows(knack) ? 1 : 0);
        if (tasks[i].must > 0 && knowers(knack) - gone < tasks[i].must) {
          return false;
        }
      }
      return true;
    }

    int ofMan(int bunk, int what) {
      Bunk man = bunks[bunk];
      switch (what) {
        case 0: return man.kind;
        case 1: return man.m;
        case 2: return man.came;
        case 3: return man.known;
        case 4: return man.taught;
        case 5: return pay(man);
        default: return ofKnack(man, what / 6, what % 6);
      }
    }

    private int ofKnack(Bunk man, int group, int knack) {
      switch (group) {
        case 1: return man.versions[knack];
        case 2: return man.lessons[knack];
        default: return needs(man, knack);
      }
    }

    int ofTask(int task, int what) {
      Task told = tasks[task];
      switch (what) {
        case 0: return told.knack;
        case 1: return told.must;
        case 2: return knowers(told.knack);
        case 3: return told.done;
        default: return told.failed;
      }
    }
  }

  /**
   * A TEXT, in the order in which it is worked out: a number stands for itself, a NAME or a sign
   * for the number below 0 of its byte. Only the stack changes, which no working out leaves for
   * the next, so Ships may share it.
   */
  private static final class Text {
    private final int[] code;
    private final int[] stack;

    Text(int[] steps, int length) {
      code = new int[length];
      stack = new int[length];
      System.arraycopy(steps, 0, code, 0, length);
    }

    /** What it gives; the third NAME is m in NEEDS, d in WAGES. */
    int value(int k, int h, int third) {
      int top = 0;
      for (int i = 0; i < code.length && top < stack.length; i++) {
        int step = code[i];
        if (step >= 0) {
          stack[top++] = step;
        } else if (step == -'k') {
          stack[top++] = k;
        } else if (step == -'h') {
          stack[top++] = h;
        } else if (step == -'m' || step == -'d') {
          stack[top++] = third;
        } else if (step == -'!' && top > 0) {
          stack[top - 1] = stack[top - 1] == 0 ? 1 : 0;
        } else if (top > 1) {
          top--;
          stack[top - 1] = joined(-step, stack[top - 1], stack[top]);
        }
      }
      return top > 0 ? stack[0] : 0;
    }

    private static int joined(int sign, int a, int b) {
      switch (sign) {
        case '|': return a != 0 || b != 0 ? 1 : 0;
        case '&': return a != 0 && b != 0 ? 1 : 0;
        case '<': return a < b ? 1 : 0;
        case '=': return a == b ? 1 : 0;
        case '>': return a > b ? 1 : 0;
        case '+': return a + b;
        case '-': return a - b;
        case '*': return a * b;
        case '/': return b == 0 ? 0 : a / b;
        case '%': return b == 0 ? 0 : a % b;
        default: return 0;
      }
    }
  }

  /** Reads a TEXT from THE TAPE, or finds its FAULT. */
  private static final class TextReader {
    private byte[] tape;
    private int length;
    private int thirdName;
    private int at;
    private final int[] steps = new int[MOST_TAPE];
    private int stepped;
    /** -1: there is none so far. */
    int fault;

    /** null: there is a FAULT. */
    Text read(byte[] bytes, int many, int third) {
      tape = bytes;
      length = Math.min(many, bytes.length);
      thirdName = third;
      at = 0;
      stepped = 0;
      fault = -1;
      readT(0);
      if (at < length) {
        fail();
      }
      return fault < 0 ? new Text(steps, stepped) : null;
    }

    private void readT(int open) {
      readA(open);
      for (int i = 0; i < length && takes('|'); i++) {
        readA(open);
        step(-'|');
      }
    }

    private void readA(int open) {
      readB(open);
      for (int i = 0; i < length && takes('&'); i++) {
        readB(open);
        step(-'&');
      }
    }

    private void readB(int open) {
      readS(open);
      int sign = ahead();
      if (sign == '<' || sign == '=' || sign == '>') {
        at++;
        readS(open);
        step(-sign);
      }
    }

    private void readS(int open) {
      readP(open);
      for (int i = 0; i < length && (ahead() == '+' || ahead() == '-'); i++) {
        int sign = ahead();
        at++;
        readP(open);
        step(-sign);
      }
    }

    private void readP(int open) {
      readQ(open);
      for (int i = 0; i < length && (ahead() == '*' || ahead() == '/' || ahead() == '%'); i++) {
        int sign = ahead();
        at++;
        readQ(open);
        step(-sign);
      }
    }

    private void readQ(int open) {
      int sign = ahead();
      if (isDigit(sign)) {
        readNumber();
      } else if (sign == 'k' || sign == 'h' || sign == thirdName) {
        at++;
        step(-sign);
      } else if (sign == '!' && open < MOST_OPEN) {
        at++;
        readQ(open + 1);
        step(-sign);
      } else if (sign == '(' && open < MOST_OPEN) {
        at++;
        readT(open + 1);
        if (!takes(')')) {
          fail();
        }
      } else {
        fail();
      }
    }

    private void readNumber() {
      int number = 0;
      for (int i = 0; i < 4 && isDigit(ahead()); i++) {
        number = 10 * number + ahead() - '0';
        at++;
      }
      step(number);
    }

    private static boolean isDigit(int sign) {
      return sign >= '0' && sign <= '9';
    }

    /** The byte that stands next; -1: none does, or a FAULT ends the reading. */
    private int ahead() {
      return fault < 0 && at < length ? tape[at] & 255 : -1;
    }

    private boolean takes(int sign) {
      if (ahead() != sign) {
        return false;
      }
      at++;
      return true;
    }

    private void step(int code) {
      if (fault < 0 && stepped < steps.length) {
        steps[stepped] = code;
        stepped++;
      }
    }

    private void fail() {
      if (fault < 0) {
        fault = at;
      }
    }
  }

  /** The VOICES of one man at a time, and THE TRACE of the latest. */
  private static final class Voices {
    static final int VOICES = 4;
    private static final int HEARS = 0;
    private static final int TELLS = 1;
    private static final int BUNKS = 2;
    private static final int PARTS = 3;
    /** The BODY that each KIND has for each VOICE; 0: none. A BODY's tens tell its KIND. */
    private static final int[] BODIES = {
      10, 11, 12, 13,
      20, 0, 0, 21,
      0, 30, 0, 0,
      0, 0, 40, 0,
      50, 0, 51, 0,
      0, 60, 0, 0,
      70, 71, 0, 0,
    };

    private int kind;
    private int bunk;
    private int m;
    final int[] trace = new int[MOST_TRACE];
    int begun;
    boolean parted;

    int speak(int ofKind, int inBunk, int ofM, int voice, int x) {
      kind = ofKind;
      bunk = inBunk;
      m = ofM;
      begun = 0;
      parted = false;
      return speakFrom(kind, voice, x, 0);
    }

    private int own(int voice, int x, int depth) {
      return speakFrom(kind, voice, x, depth);
    }

    private int above(int body, int voice, int x, int depth) {
      return speakFrom(ABOVE[body / 10 - 1], voice, x, depth);
    }

    /** The BODY of a KIND, or of the next KIND above that has one. */
    private int speakFrom(int first, int voice, int x, int depth) {
      int at = first;
      for (int i = 0; i < KINDS && at >= 0; i++) {
        int body = BODIES[VOICES * at + voice];
        if (body != 0) {
          return run(body, x, depth + 1);
        }
        at = ABOVE[at];
      }
      return 0;
    }

    private int run(int body, int x, int depth) {
      // A PARTED voice has nothing more to say: no further BODY begins.
      if (parted || depth > MOST_TRACE) {
        return 0;
      }
      begin(body);
      switch (body) {
        case 10: return x + bunk;
        case 11: return own(HEARS, x, depth) * 2;
        case 12: return own(TELLS, x, depth) - m;
        case 13: return part(x, m - bunk);
        case 20: return above(body, HEARS, x, depth) - 6;
        case 21: return above(body, PARTS, x, depth) + own(TELLS, 1, depth);
        case 30: return 0 - above(body, TELLS, x, depth);
        case 40: return above(body, BUNKS, x / 2, depth);
        case 50: return above(body, HEARS, x, depth) * 3;
        case 51: return above(body, BUNKS, x, depth) ^ bunk;
        case 60: return above(body, TELLS, x + 1, depth);
        case 70: return 5;
        case 71: return above(body, TELLS, x, depth) + m;
        default: return 0;
      }
    }

    private void begin(int body) {
      if (begun < MOST_TRACE) {
        trace[begun] = body;
        begun++;
      }
    }

    private int part(int x, int by) {
      if (by == 0) {
        parted = true;
        return 0;
      }
      return x / by;
    }
  }

  /** A SHEET: a row of numbers of 8, 16 or 32 bits, or a missing one. */
  private static final class Sheet {
    /** 0: it is missing. */
    int bits;
    int length;
    final int[] numbers = new int[MOST_NUMBERS];

    void lay(int ofBits, int n) {
      bits = ofBits;
      length = n;
      for (int i = 0; i < MOST_NUMBERS; i++) {
        numbers[i] = 0;
      }
    }

    boolean isMissing() {
      return bits == 0;
    }

    void write(int i, int v) {
      if (bits == 8) {
        numbers[i] = (byte) v;
      } else if (bits == 16) {
        numbers[i] = (short) v;
      } else {
        numbers[i] = v;
      }
    }

    /** Whether n numbers stand here from number i on; no sum, as it could wrap. */
    boolean holds(int i, int n) {
      return i >= 0 && n >= 0 && n <= length && i <= length - n;
    }
  }
}
