import java.util.ArrayList;
import java.util.List;

/** Long runs of calls, drawn by a fixed row of numbers, on the class and on the plain model. */
public final class ModelTest {
  private static final int RUNS = 6000;
  private static final int CALLS = 512;

  private static long row = 1;

  /** A number of 0 .. n - 1, the same ones each time the test runs. */
  private static int pick(int n) {
    row = row * 6364136223846793005L + 1442695040888963407L;
    return (int) ((row >>> 33) % n);
  }

  private static int among(int... numbers) {
    return numbers[pick(numbers.length)];
  }

  /** Mostly a number of least .. most, at times one just beyond, at times any. */
  private static int near(int least, int most) {
    int dice = pick(60);
    if (dice == 0) {
      return among(Checks.WILD);
    }
    if (dice == 1) {
      return among(least - 1, most + 1);
    }
    return least + pick(most - least + 1);
  }

  private static String text(int depth) {
    int dice = pick(depth > 4 ? 6 : 14);
    if (dice < 4) {
      return "" + among('k', 'h', 'm', 'd', 'k', 'h') + "";
    }
    if (dice < 6) {
      return Integer.toString(pick(among(3, 20, 10000)));
    }
    if (dice == 6) {
      return "!" + text(depth + 2);
    }
    if (dice == 7) {
      return "(" + text(depth + 1) + ")";
    }
    return text(depth + 1) + "|&<=>+-*/%+*".charAt(pick(12)) + text(depth + 1);
  }

  /** A text that mostly keeps to the grammar, as bytes. */
  private static String tape(int use) {
    StringBuilder bytes = new StringBuilder();
    String drawn = text(0);
    for (int i = 0; i < drawn.length(); i++) {
      char c = drawn.charAt(i);
      bytes.append(c == 'm' || c == 'd' ? use == 0 ? 'm' : 'd' : c);
    }
    if (pick(6) == 0 && bytes.length() > 0) {
      int at = pick(bytes.length());
      char c = "0k!()|<+ mdx".charAt(pick(12));
      if (pick(2) == 0) {
        bytes.setCharAt(at, c);
      } else {
        bytes.insert(at, c);
      }
    }
    if (pick(12) == 0) {
      bytes.setLength(pick(bytes.length() + 1));
    }
    return bytes.toString();
  }

  private final DailyRelief x = new DailyRelief();
  private final PlainModel model = new PlainModel();
  private final List<String> calls = new ArrayList<>();
  private boolean wrong = false;

  private void call(String name, long... a) {
    if (calls.size() >= CALLS || wrong) {
      return;
    }
    StringBuilder told = new StringBuilder(name);
    for (long v : a) {
      told.append(' ').append(v);
    }
    calls.add(told.toString());
    int want = model.call(name, a);
    int got = answer(name, a);
    if (got != want) {
      wrong = true;
      System.out.println(String.join("\n", calls));
    }
    Checks.due(told.toString(), got, want);
  }

  private int answer(String name, long[] a) {
    int[] i = new int[6];
    for (int j = 0; j < a.length; j++) {
      i[j] = (int) a[j];
    }
    return switch (name) {
      case "bunk" -> x.bunk(i[0]);
      case "bunkIs" -> x.bunkIs(i[0], i[1]);
      case "as" -> x.as(i[0], i[1]);
      case "set" -> x.set(i[0], i[1], i[2]);
      case "know" -> x.know(i[0], i[1], i[2]);
      case "roster" -> x.roster(i[0], i[1]);
      case "book" -> x.book(i[0]);
      case "task" -> x.task(i[0], i[1], i[2]);
      case "taskIs" -> x.taskIs(i[0], i[1]);
      case "feed" -> x.feed(a[0], i[1]);
      case "text" -> x.text(i[0]);
      case "untell" -> x.untell(i[0]);
      case "days" -> x.days(i[0]);
      case "draws" -> x.draws(i[0]);
      case "misheard" -> x.misheard(i[0]);
      case "seed" -> x.seed(i[0]);
      case "then" -> x.then(i[0], i[1], i[2]);
      case "thenTask" -> x.thenTask(i[0], i[1], i[2]);
      case "lost" -> x.lost(i[0], i[1]);
      case "teachers" -> x.teachers(i[0], i[1], i[2]);
      case "storm" -> x.storm(i[0]);
      case "saves" -> x.saves(i[0], i[1]);
      case "changes" -> x.changes(i[0], i[1]);
      case "began" -> x.began(i[0], i[1]);
      case "handed" -> x.handed(i[0], i[1]);
      case "wages" -> x.wages(i[0]);
      case "voice" -> x.voice(i[0], i[1], i[2]);
      case "body" -> x.body(i[0]);
      case "sheet" -> x.sheet(i[0], i[1], i[2]);
      case "put" -> x.put(i[0], i[1], i[2]);
      case "move" -> x.move(i[0], i[1], i[2], i[3], i[4]);
      case "rosters" -> x.rosters(i[0]);
      case "judge" -> x.judge(i[0]);
      case "image" -> x.image();
      case "restore" -> x.restore();
      case "tell" -> x.tell(i[0]);
      case "check" -> x.check(i[0]);
      case "count" -> x.count(i[0]);
      case "told" -> x.told(i[0]);
      default -> throw new IllegalArgumentException(name);
    };
  }

  private int bunk() {
    return near(0, Math.max(0, x.count(0) - 1));
  }

  private void text() {
    int use = pick(2);
    String bytes = tape(use);
    int at = 0;
    while (at < bytes.length()) {
      int n = Math.min(1 + pick(8), bytes.length() - at);
      long word = 0;
      for (int i = n - 1; i >= 0; i--) {
        word = word << 8 | bytes.charAt(at + i);
      }
      call("feed", word, n);
      at += n;
    }
    call("text", pick(20) == 0 ? near(0, 1) : use);
  }

  private void men() {
    switch (pick(9)) {
      case 0 -> call("bunk", near(0, 69));
      case 1, 2, 3 -> call("set", bunk(), among(0, 1, 4, 4, 4, near(0, 6)), near(-1, 7));
      case 4, 5, 6 -> call("know", bunk(), near(0, 5), among(-1, 0, 1, 2, near(-1, 999)));
      case 7 -> call("roster", near(0, 69), near(0, 63) & among(-1, 0, 1, 6));
      default -> call("as", bunk(), near(0, 6));
    }
  }

  private void aboard() {
    switch (pick(8)) {
      case 0 -> call("book", near(0, 63) & among(-1, 0, 3));
      case 1, 2 -> call("task", near(0, 3), near(0, 5), near(0, among(2, 6)));
      case 3 -> call("misheard", near(0, 16));
      case 4 -> call("seed", pick(1000) * 7919);
      case 5 -> call("untell", near(0, 1));
      case 6 -> call("taskIs", near(0, 3), near(0, 4));
      default -> text();
    }
  }

  private void ahead() {
    switch (pick(11)) {
      case 0 -> call("then", near(0, among(6, 90)), bunk(), near(0, 23));
      case 1 -> call("thenTask", near(0, among(6, 90)), near(0, 3), near(0, 4));
      case 2 -> call("lost", near(0, 5), near(0, among(9, 90)));
      case 3 -> call("teachers", near(0, 5), near(1, among(3, 9, 30)), near(0, 1));
      case 4 -> call("storm", near(0, 1));
      case 5 -> call("saves", near(0, 5), near(0, among(9, 90)));
      case 6 -> call("changes", near(0, 5), near(0, among(3, 999)));
      case 7 -> call("began", near(0, 5), near(0, among(1, 3, 999)));
      case 8 -> call("handed", bunk(), near(0, 5));
      case 9 -> call("wages", near(1, among(9, 90)));
      default -> checked();
    }
  }

  private void checked() {
    int knack = near(0, 5);
    int n = pick(5);
    for (int i = 0; i < n; i++) {
      call("tell", near(0, among(1, 3, 6)));
    }
    call("check", knack);
  }

  private void voices() {
    call("voice", bunk(), near(0, 3), among(pick(100) - 50, among(Checks.WILD)));
    for (int i = pick(4); i > 0; i--) {
      call("body", near(0, 5));
    }
  }

  private void sheets() {
    int n = pick(14);
    switch (pick(6)) {
      case 0 -> call("sheet", near(0, 3), among(0, 8, 8, 16, 32, near(0, 40)), near(0, among(5, 24)));
      case 1, 2 -> {
        for (int i = 0; i < n; i++) {
          call("put", near(0, 3), near(0, 8), near(0, among(1, 69)) | among(0, 0, 0, 256, 65536));
        }
      }
      case 3 -> call("move", near(0, 3), near(0, 4), near(0, 3), near(0, 4), near(0, 4));
      case 4 -> call("rosters", near(0, 3));
      default -> call("judge", near(0, 3));
    }
  }

  private void image() {
    switch (pick(4)) {
      case 0 -> call("image");
      case 1 -> call("restore");
      case 2 -> call("tell", near(0, 6));
      default -> call("told", near(1, 6));
    }
  }

  private void one() {
    switch (pick(12)) {
      case 0, 1 -> men();
      case 2 -> aboard();
      case 3 -> call(among(0, 1) == 0 ? "days" : "draws", near(1, among(2, 4, 90)));
      case 4, 5 -> ahead();
      case 6 -> voices();
      case 7 -> sheets();
      case 8 -> image();
      case 9 -> call("count", near(0, 10));
      default -> call("bunkIs", bunk(), near(0, 23));
    }
  }

  private void run() {
    for (int bunks = pick(7); bunks > 0; bunks--) {
      call("bunk", pick(70));
    }
    while (calls.size() < CALLS && !wrong) {
      one();
    }
  }

  public static void main(String[] args) {
    for (int i = 0; i < RUNS; i++) {
      ModelTest test = new ModelTest();
      test.run();
      if (test.wrong) {
        break;
      }
    }
    Checks.end("ModelTest");
  }
}
