import java.util.ArrayDeque;
import java.util.ArrayList;
import java.util.Deque;
import java.util.List;

/**
 * The document a second time, written without a look at the class: lists, copies, exceptions and
 * KINDS as classes, with no thought of room or speed. ModelTest compares the two.
 */
final class PlainModel {
  /** An ERROR on its way out of an act. */
  static final class Refused extends RuntimeException {
    private static final long serialVersionUID = 1L;
    final int k;

    Refused(int k) {
      super(null, null, false, false);
      this.k = k;
    }
  }

  private static final int BEYOND = 1;
  private static final int NONE = 2;
  private static final int STATE = 3;
  private static final int FULL = 4;
  private static final int KIND = 5;
  private static final int PARTED = 6;

  // KINDS: their VOICES are methods, so that Java's own super finds the BODIES.

  private static class Man {
    int k;
    int m;
    List<Integer> trace = new ArrayList<>();

    int needs() { return 2; }
    int tells(int knack, int v) { return v; }
    int hears(int x) { trace.add(10); return x + k; }
    int tells(int x) { trace.add(11); return hears(x) * 2; }
    int bunks(int x) { trace.add(12); return tells(x) - m; }
    int parts(int x) {
      trace.add(13);
      if (m == k) {
        throw new Refused(PARTED);
      }
      return x / (m - k);
    }
  }

  private static class Quick extends Man {
    @Override int needs() { return 1; }
    @Override int hears(int x) { trace.add(20); return super.hears(x) - 6; }
    @Override int parts(int x) { trace.add(21); return super.parts(x) + tells(1); }
  }

  private static class Mute extends Man {
    @Override int needs() { return super.needs() + m; }
    @Override int tells(int x) { trace.add(30); return 0 - super.tells(x); }
  }

  private static class Liar extends Man {
    @Override int tells(int knack, int v) { return v + m; }
    @Override int bunks(int x) { trace.add(40); return super.bunks(x / 2); }
  }

  private static class Twin extends Quick {
    @Override int tells(int knack, int v) { return knack % 2 == 1 ? v + 1 : v; }
    @Override int hears(int x) { trace.add(50); return super.hears(x) * 3; }
    @Override int bunks(int x) { trace.add(51); return super.bunks(x) ^ k; }
  }

  private static class Stayer extends Mute {
    @Override int needs() { return 2; }
    @Override int tells(int x) { trace.add(60); return super.tells(x + 1); }
  }

  private static class Told extends Man {
    @Override int hears(int x) { trace.add(70); return 5; }
    @Override int tells(int x) { trace.add(71); return super.tells(x) + m; }
  }

  private static Man manOf(int kind, int m, int k) {
    Man man = switch (kind) {
      case 0 -> new Man();
      case 1 -> new Quick();
      case 2 -> new Mute();
      case 3 -> new Liar();
      case 4 -> new Twin();
      case 5 -> new Stayer();
      default -> new Told();
    };
    man.m = m;
    man.k = k;
    return man;
  }

  private static boolean isUnder(int kind, int above) {
    Man man = manOf(kind, 0, 0);
    return manOf(above, 0, 0).getClass().isInstance(man);
  }

  /** A man and his BUNK. */
  private static final class Place {
    int kind;
    int m;
    int came = -1;
    int teaches = -1;
    Integer[] version = new Integer[6];
    int[] lessons = new int[6];

    Place copy() {
      Place p = new Place();
      p.kind = kind;
      p.m = m;
      p.came = came;
      p.teaches = teaches;
      p.version = version.clone();
      p.lessons = lessons.clone();
      return p;
    }

    int bits() {
      int bits = 0;
      for (int i = 0; i < 6; i++) {
        bits += version[i] == null ? 0 : 1 << i;
      }
      return bits;
    }

    int h() {
      return Integer.bitCount(bits());
    }
  }

  /** What an IMAGE keeps. */
  private static final class Board {
    List<Place> places = new ArrayList<>();
    List<int[]> roster = new ArrayList<>();
    int next;
    int book;
    int[][] tasks = new int[4][4];
    int day;
    int misheard = 4;
    int z = 1;
    String tape = "";
    String[] texts = new String[2];
    List<Integer> waits = new ArrayList<>();
    int came;
    int mishaps;

    Board copy() {
      Board b = new Board();
      for (Place p : places) {
        b.places.add(p.copy());
      }
      b.roster.addAll(roster);
      b.next = next;
      b.book = book;
      for (int i = 0; i < 4; i++) {
        b.tasks[i] = tasks[i].clone();
      }
      b.day = day;
      b.misheard = misheard;
      b.z = z;
      b.tape = tape;
      b.texts = texts.clone();
      b.waits.addAll(waits);
      return b;
    }

    int needs(Place p, int knack) {
      int n = manOf(p.kind, p.m, 0).needs();
      if (p.kind == 6) {
        n = texts[0] == null ? p.m : gives(texts[0], knack, p.h(), p.m);
      }
      return held(n, 1, 99);
    }

    int pay(Place p) {
      if (texts[1] == null) {
        return 1 + p.h();
      }
      return held(gives(texts[1], p.kind, p.h(), p.came == -1 ? 0 : day - p.came), 0, 999);
    }

    int knowers(int knack) {
      int n = 0;
      for (Place p : places) {
        n += p.version[knack] == null ? 0 : 1;
      }
      return n;
    }

    Board ahead(int n) {
      Board b = copy();
      for (int i = 0; i < n; i++) {
        b.pass(false);
      }
      return b;
    }

    void pass(boolean draws) {
      int n = places.size();
      if (n > 0 && roster.size() > 0) {
        Place old = places.get(day % n);
        if (old.kind != 5 || day % (old.m + 2) != 0) {
          Place p = new Place();
          p.kind = roster.get(next)[0] / 10;
          p.m = roster.get(next)[0] % 10;
          p.came = day;
          p.teaches = old.teaches;
          for (int i = 0; i < 6; i++) {
            if ((roster.get(next)[1] & 1 << i) != 0) {
              p.version[i] = 1;
            } else if ((book & 1 << i) != 0) {
              p.version[i] = 0;
            }
          }
          places.set(day % n, p);
          next = next + 1 == roster.size() ? 0 : next + 1;
          came++;
        }
      }
      if (n >= 2) {
        for (int i = 0; i < n; i++) {
          lesson(places.get(i), places.get(i == n - 1 ? 0 : i + 1), draws);
        }
      }
      for (int[] t : tasks) {
        if (t[1] > 0) {
          int slot = knowers(t[0]) >= t[1] ? 2 : 3;
          t[slot] = Math.min(999999, t[slot] + 1);
        }
      }
      day++;
    }

    private void lesson(Place teacher, Place pupil, boolean draws) {
      int knack = teacher.teaches;
      if (knack == -1 || teacher.version[knack] == null || isUnder(teacher.kind, 2)
          || pupil.version[knack] != null) {
        return;
      }
      pupil.lessons[knack]++;
      if (pupil.lessons[knack] >= needs(pupil, knack)) {
        int v = held(manOf(teacher.kind, teacher.m, 0).tells(knack, teacher.version[knack]), 0, 999);
        if (draws) {
          z = z * 1103515245 + 12345;
          if ((z >>> 8) % 16 < misheard) {
            v = held(v + 1, 0, 999);
            mishaps++;
          }
        }
        pupil.version[knack] = v;
      }
    }

    int done() {
      return tasks[0][2] + tasks[1][2] + tasks[2][2] + tasks[3][2];
    }
  }

  private Board board = new Board();
  private Board kept;
  private int images;
  private final int[][] sheets = new int[4][];
  private final int[] sheetBits = new int[4];
  private List<Integer> trace = new ArrayList<>();
  private final int[] errors = new int[7];

  static int held(int v, int least, int most) {
    return v < least ? least : v > most ? most : v;
  }

  private static void beyond(int v, int least, int most) {
    if (v < least || v > most) {
      throw new Refused(BEYOND);
    }
  }

  private Place place(int bunk) {
    beyond(bunk, 0, board.places.size() - 1);
    return board.places.get(bunk);
  }

  /** One call by its name, as its answer. */
  int call(String name, long[] a) {
    int[] i = new int[6];
    for (int j = 0; j < a.length; j++) {
      i[j] = (int) a[j];
    }
    try {
      return switch (name) {
        case "bunk", "bunkIs", "as", "set", "know", "roster", "book", "task", "taskIs" ->
            ofBunks(name, i);
        case "feed" -> feed(a[0], i[1]);
        case "text", "untell" -> ofTexts(name, i[0]);
        case "days", "draws", "misheard", "seed" -> ofDays(name, i[0]);
        case "then", "thenTask", "lost", "teachers", "storm", "saves", "wages" -> ahead(name, i);
        case "changes", "began", "handed" -> versions(name, i);
        case "voice", "body" -> ofVoices(name, i);
        case "sheet", "put", "move", "rosters", "judge" -> ofSheets(name, i);
        default -> rest(name, i[0]);
      };
    } catch (Refused e) {
      errors[e.k]++;
      return -1000000000 - e.k;
    }
  }

  private int ofBunks(String name, int[] i) {
    switch (name) {
      case "bunk": {
        beyond(i[0], 0, 69);
        if (board.places.size() == 6) {
          throw new Refused(FULL);
        }
        Place p = new Place();
        p.kind = i[0] / 10;
        p.m = i[0] % 10;
        board.places.add(p);
        return board.places.size() - 1;
      }
      case "bunkIs":
        place(i[0]);
        beyond(i[1], 0, 23);
        return isOf(board, i[0], i[1]);
      case "as": {
        Place p = place(i[0]);
        beyond(i[1], 0, 6);
        if (!isUnder(p.kind, i[1])) {
          throw new Refused(KIND);
        }
        return p.bits();
      }
      case "set": return set(place(i[0]), i[1], i[2]);
      case "know": {
        Place p = place(i[0]);
        beyond(i[1], 0, 5);
        beyond(i[2], -1, 999);
        Integer old = p.version[i[1]];
        p.version[i[1]] = i[2] == -1 ? null : (Integer) i[2];
        if (i[2] == -1) {
          p.lessons[i[1]] = 0;
        }
        return old == null ? -1 : old;
      }
      case "roster": return enlist(i[0], i[1]);
      case "book": {
        beyond(i[0], 0, 63);
        int old = board.book;
        board.book = i[0];
        return old;
      }
      case "task": {
        beyond(i[0], 0, 3);
        beyond(i[1], 0, 5);
        beyond(i[2], 0, 6);
        int[] t = board.tasks[i[0]];
        int old = t[0] * 10 + t[1];
        t[0] = i[1];
        t[1] = i[2];
        return old;
      }
      default:
        beyond(i[0], 0, 3);
        beyond(i[1], 0, 4);
        return isOfTask(board, i[0], i[1]);
    }
  }

  private static int set(Place p, int what, int v) {
    int old;
    if (what == 0) {
      beyond(v, 0, 6);
      old = p.kind;
      p.kind = v;
    } else if (what == 1) {
      beyond(v, 0, 9);
      old = p.m;
      p.m = v;
    } else if (what == 4) {
      beyond(v, -1, 5);
      old = p.teaches;
      p.teaches = v;
    } else {
      throw new Refused(BEYOND);
    }
    return old;
  }

  private int enlist(int km, int brings) {
    beyond(km, 0, 69);
    beyond(brings, 0, 63);
    if (board.roster.size() == 12) {
      throw new Refused(FULL);
    }
    board.roster.add(new int[] {km, brings});
    return board.roster.size();
  }

  private static int isOf(Board b, int bunk, int what) {
    Place p = b.places.get(bunk);
    int knack = what % 6;
    return switch (what) {
      case 0 -> p.kind;
      case 1 -> p.m;
      case 2 -> p.came;
      case 3 -> p.bits();
      case 4 -> p.teaches;
      case 5 -> b.pay(p);
      case 6, 7, 8, 9, 10, 11 -> p.version[knack] == null ? 0 : p.version[knack];
      case 12, 13, 14, 15, 16, 17 -> p.lessons[knack];
      default -> b.needs(p, knack);
    };
  }

  private static int isOfTask(Board b, int task, int what) {
    int[] t = b.tasks[task];
    return what < 2 ? t[what] : what == 2 ? b.knowers(t[0]) : t[what - 1];
  }

  private int feed(long word, int n) {
    beyond(n, 1, 8);
    if (board.tape.length() + n > 60) {
      throw new Refused(FULL);
    }
    for (int j = 0; j < n; j++) {
      board.tape += (char) (word & 255);
      word >>= 8;
    }
    return board.tape.length();
  }

  private int ofTexts(String name, int use) {
    beyond(use, 0, 1);
    if (name.equals("untell")) {
      int was = board.texts[use] == null ? 0 : 1;
      board.texts[use] = null;
      return was;
    }
    String text = board.tape;
    board.tape = "";
    int fault = fault(text, use == 0 ? "khm" : "hdk");
    if (fault >= 0) {
      return -10 - fault;
    }
    board.texts[use] = text;
    return 1;
  }

  /** The FAULT by a machine that takes byte after byte; -1: there is none. */
  static int fault(String text, String names) {
    Deque<Character> open = new ArrayDeque<>();
    Deque<Boolean> outer = new ArrayDeque<>();
    boolean compared = false;
    boolean wants = true;
    int digits = 0;
    for (int at = 0; at < text.length(); at++) {
      char c = text.charAt(at);
      boolean digit = c >= '0' && c <= '9';
      if (wants) {
        if (digit || names.indexOf(c) >= 0) {
          wants = false;
          digits = digit ? 1 : 4;
        } else if ((c == '!' || c == '(') && open.size() < 5) {
          open.push(c);
          if (c == '(') {
            outer.push(compared);
            compared = false;
          }
        } else {
          return at;
        }
      } else if (digit && digits < 4) {
        digits++;
      } else {
        while (!open.isEmpty() && open.peek() == '!') {
          open.pop();
        }
        digits = 4;
        if (c == ')' && !open.isEmpty()) {
          open.pop();
          compared = outer.pop();
        } else if ("+-*/%".indexOf(c) >= 0) {
          wants = true;
        } else if ("<=>".indexOf(c) >= 0 && !compared) {
          wants = true;
          compared = true;
        } else if (c == '|' || c == '&') {
          wants = true;
          compared = false;
        } else {
          return at;
        }
      }
    }
    return wants || open.contains('(') ? text.length() : -1;
  }

  /** What a TEXT gives: cut at its weakest sign, from behind. */
  static int gives(String text, int k, int h, int third) {
    for (String signs : new String[] {"|", "&", "<=>", "+-", "*/%"}) {
      int depth = 0;
      for (int at = text.length() - 1; at > 0; at--) {
        char c = text.charAt(at);
        depth += c == ')' ? 1 : c == '(' ? -1 : 0;
        if (depth == 0 && signs.indexOf(c) >= 0) {
          int a = gives(text.substring(0, at), k, h, third);
          int b = gives(text.substring(at + 1), k, h, third);
          return joined(c, a, b);
        }
      }
    }
    char c = text.charAt(0);
    if (c == '!') {
      return gives(text.substring(1), k, h, third) == 0 ? 1 : 0;
    }
    if (c == '(') {
      return gives(text.substring(1, text.length() - 1), k, h, third);
    }
    return switch (c) {
      case 'k' -> k;
      case 'h' -> h;
      case 'm', 'd' -> third;
      default -> Integer.parseInt(text);
    };
  }

  private static int joined(char c, int a, int b) {
    boolean is;
    switch (c) {
      case '+': return a + b;
      case '-': return a - b;
      case '*': return a * b;
      case '/': return b == 0 ? 0 : a / b;
      case '%': return b == 0 ? 0 : a % b;
      case '|': is = a != 0 || b != 0; break;
      case '&': is = a != 0 && b != 0; break;
      case '<': is = a < b; break;
      case '=': is = a == b; break;
      default: is = a > b;
    }
    return is ? 1 : 0;
  }

  private int ofDays(String name, int v) {
    int old;
    switch (name) {
      case "misheard":
        beyond(v, 0, 16);
        old = board.misheard;
        board.misheard = v;
        return old;
      case "seed":
        old = board.z;
        board.z = v;
        return old;
      default:
        beyond(v, 1, 90);
        if (board.day + v > 9999) {
          throw new Refused(STATE);
        }
        board.came = 0;
        board.mishaps = 0;
        for (int i = 0; i < v; i++) {
          board.pass(name.equals("draws"));
        }
        return name.equals("draws") ? board.mishaps : board.came;
    }
  }

  private int ahead(String name, int[] i) {
    switch (name) {
      case "then":
        beyond(i[0], 0, 90);
        place(i[1]);
        beyond(i[2], 0, 23);
        return isOf(board.ahead(i[0]), i[1], i[2]);
      case "thenTask":
        beyond(i[0], 0, 90);
        beyond(i[1], 0, 3);
        beyond(i[2], 0, 4);
        return isOfTask(board.ahead(i[0]), i[1], i[2]);
      case "lost":
        beyond(i[0], 0, 5);
        beyond(i[1], 0, 90);
        for (int n = 0; n <= i[1]; n++) {
          if (board.ahead(n).knowers(i[0]) == 0) {
            return n;
          }
        }
        throw new Refused(NONE);
      case "teachers": return teachers(i[0], i[1], i[2]);
      case "storm": return storm(i[0]);
      case "saves": {
        beyond(i[0], 0, 5);
        beyond(i[1], 0, 90);
        Board with = board.copy();
        with.book |= 1 << i[0];
        Board without = board.copy();
        without.book = with.book - (1 << i[0]);
        return with.ahead(i[1]).done() - without.ahead(i[1]).done();
      }
      default: {
        beyond(i[0], 1, 90);
        int all = 0;
        for (int n = 1; n <= i[0]; n++) {
          Board b = board.ahead(n);
          for (Place p : b.places) {
            all += b.pay(p);
          }
        }
        return all;
      }
    }
  }

  private int teachers(int knack, int n, int what) {
    beyond(knack, 0, 5);
    beyond(n, 1, 30);
    beyond(what, 0, 1);
    int bunks = board.places.size();
    for (int many = 0; many <= bunks; many++) {
      for (int set = 0; set < 1 << bunks; set++) {
        if (Integer.bitCount(set) == many) {
          Board b = board.copy();
          for (int j = 0; j < bunks; j++) {
            b.places.get(j).teaches = (set & 1 << j) != 0 ? knack : -1;
          }
          boolean known = true;
          for (int d = 1; d <= n; d++) {
            b.pass(false);
            known &= b.knowers(knack) > 0;
          }
          if (known) {
            return what == 0 ? many : set;
          }
        }
      }
    }
    throw new Refused(NONE);
  }

  private int storm(int what) {
    beyond(what, 0, 1);
    List<Integer> pairs = new ArrayList<>();
    for (int a = 0; a < board.places.size(); a++) {
      for (int b = a + 1; b < board.places.size(); b++) {
        Board left = board.copy();
        left.places.remove(b);
        left.places.remove(a);
        boolean fine = true;
        for (int[] t : left.tasks) {
          fine &= t[1] == 0 || left.knowers(t[0]) >= t[1];
        }
        if (fine) {
          pairs.add(10 * a + b);
        }
      }
    }
    if (what == 0) {
      return pairs.size();
    }
    if (pairs.isEmpty()) {
      throw new Refused(NONE);
    }
    return pairs.get(0);
  }

  private int versions(String name, int[] i) {
    if (name.equals("handed")) {
      Place from = place(i[0]);
      beyond(i[1], 0, 5);
      if (from.version[i[1]] == null) {
        throw new Refused(STATE);
      }
      int n = board.places.size();
      int reached = 0;
      for (int at = i[0]; reached < n - 1 && !isUnder(board.places.get(at % n).kind, 2); at++) {
        reached++;
      }
      return reached;
    }
    beyond(i[0], 0, 5);
    beyond(i[1], 0, 999);
    int ahead = i[1];
    int changes = 0;
    int least = Integer.MAX_VALUE;
    for (Place p : board.places) {
      Integer v = p.version[i[0]];
      if (v != null) {
        changes += v != ahead ? 1 : 0;
        ahead = v;
        least = v == i[1] ? Math.min(least, p.came) : least;
      }
    }
    if (name.equals("changes")) {
      return changes;
    }
    if (least == Integer.MAX_VALUE) {
      throw new Refused(NONE);
    }
    return least;
  }

  private int ofVoices(String name, int[] i) {
    if (name.equals("body")) {
      if (i[0] < 0 || i[0] >= trace.size()) {
        throw new Refused(NONE);
      }
      return trace.get(i[0]);
    }
    Place p = place(i[0]);
    beyond(i[1], 0, 3);
    Man man = manOf(p.kind, p.m, i[0]);
    trace = man.trace;
    return switch (i[1]) {
      case 0 -> man.hears(i[2]);
      case 1 -> man.tells(i[2]);
      case 2 -> man.bunks(i[2]);
      default -> man.parts(i[2]);
    };
  }

  private int ofSheets(String name, int[] i) {
    beyond(i[0], 0, 3);
    if (name.equals("sheet")) {
      if (i[1] != 0 && i[1] != 8 && i[1] != 16 && i[1] != 32) {
        throw new Refused(BEYOND);
      }
      if (i[1] != 0 && i[2] < 0) {
        throw new Refused(STATE);
      }
      if (i[1] != 0) {
        beyond(i[2], 0, 24);
      }
      sheetBits[i[0]] = i[1];
      sheets[i[0]] = i[1] == 0 ? null : new int[i[2]];
      return 1;
    }
    if (name.equals("move")) {
      beyond(i[2], 0, 3);
    }
    if (sheets[i[0]] == null || name.equals("move") && sheets[i[2]] == null) {
      throw new Refused(NONE);
    }
    int[] row = sheets[i[0]];
    int bits = sheetBits[i[0]];
    switch (name) {
      case "put":
        beyond(i[1], 0, row.length - 1);
        row[i[1]] = bits == 32 ? i[2] : i[2] & (1 << bits) - 1;
        return 1;
      case "move": {
        if (bits != sheetBits[i[2]]) {
          throw new Refused(KIND);
        }
        int[] to = sheets[i[2]];
        if (i[4] < 0 || i[1] < 0 || i[3] < 0 || (long) i[1] + i[4] > row.length
            || (long) i[3] + i[4] > to.length) {
          throw new Refused(BEYOND);
        }
        int[] were = row.clone();
        for (int j = 0; j < i[4]; j++) {
          to[i[3] + j] = were[i[1] + j];
        }
        return i[4];
      }
      case "rosters": {
        int came = 0;
        try {
          for (int j = 0; j + 1 < row.length; j += 2) {
            enlist(row[j], row[j + 1]);
            came++;
          }
        } catch (Refused e) {
          return came;
        }
        return came;
      }
      default:
        for (int j = 0; j < Math.max(row.length, board.places.size()); j++) {
          if (j >= row.length || j >= board.places.size() || row[j] != board.places.get(j).bits()) {
            return j;
          }
        }
        return -1;
    }
  }

  private int rest(String name, int v) {
    switch (name) {
      case "image":
        kept = board.copy();
        return ++images;
      case "restore":
        if (kept == null) {
          throw new Refused(NONE);
        }
        board = kept.copy();
        return board.day;
      case "tell":
        if (board.waits.size() == 24) {
          throw new Refused(FULL);
        }
        board.waits.add(v);
        return board.waits.size();
      case "check": {
        List<Integer> waited = board.waits;
        board.waits = new ArrayList<>();
        beyond(v, 0, 5);
        for (int j = 0; j < waited.size(); j++) {
          if (board.ahead(1 + j).knowers(v) != waited.get(j)) {
            return 1 + j;
          }
        }
        return 0;
      }
      case "count": return count(v);
      case "told":
        beyond(v, 1, 6);
        return errors[v];
      default: throw new IllegalArgumentException(name);
    }
  }

  private int count(int what) {
    int known = 0;
    for (Place p : board.places) {
      known |= p.bits();
    }
    int[] counts = {board.places.size(), board.roster.size(), board.next, board.day, known,
        board.book, board.misheard, board.tape.length(), board.waits.size(), trace.size(), board.z};
    beyond(what, 0, 10);
    return counts[what];
  }
}
