/** FAULTS: behind each beginning of a TEXT, with which of the 256 bytes a TEXT goes on. */
public final class FaultTest {
  private static final String NUMBERS = "0123456789";
  private static final String NEEDS_NAMES = "khm";
  private static final String WAGES_NAMES = "hdk";
  private static final String OPEN = "!(";
  private static final String SIGNS = "|&<=>+-*/%";
  /** Behind a < = or > there is no second one. */
  private static final String ONCE = "|&+-*/%";

  public static void main(String[] args) {
    begins();
    numbers();
    names();
    compares();
    closes();
    opens();
    early();
    faultThenText();
    Checks.end("FaultTest");
  }

  private static int read(int use, String text) {
    return Checks.text(new DailyRelief(), use, text);
  }

  /** Whether text() tells a FAULT behind the beginning just for the bytes that aren't among these. */
  private static void goesOn(int use, String beginning, String bytes) {
    int length = beginning.length();
    for (char b = 0; b < 256; b++) {
      int answer = read(use, beginning + b);
      boolean fault = answer == -10 - length;
      Checks.due("12: byte " + (int) b + " behind " + beginning, fault ? 0 : 1,
          bytes.indexOf(b) >= 0 ? 1 : 0);
      Checks.due("12: no other FAULT", fault || answer == 1 || answer == -11 - length ? 1 : 0, 1);
    }
  }

  private static void operand(String beginning, boolean mayOpen) {
    goesOn(0, beginning, NUMBERS + NEEDS_NAMES + (mayOpen ? OPEN : ""));
    goesOn(1, beginning, NUMBERS + WAGES_NAMES + (mayOpen ? OPEN : ""));
  }

  private static void both(String beginning, String bytes) {
    goesOn(0, beginning, bytes);
    goesOn(1, beginning, bytes);
  }

  /** Where an operand must stand: at the beginning, and behind each sign. */
  private static void begins() {
    operand("", true);
    operand("!", true);
    operand("(", true);
    for (int i = 0; i < SIGNS.length(); i++) {
      operand("1" + SIGNS.charAt(i), true);
      operand("(1)" + SIGNS.charAt(i), true);
      operand("(h" + SIGNS.charAt(i), true);
    }
  }

  /** A NUMBER has 1 to 4 digits, and two don't stand side by side. */
  private static void numbers() {
    for (String digits : new String[] {"0", "9", "00", "12", "999", "000"}) {
      both(digits, NUMBERS + SIGNS);
    }
    for (String digits : new String[] {"0000", "9999", "1+1234", "!1234"}) {
      both(digits, SIGNS);
    }
    both("(1234", SIGNS + ")");
    both("(123", NUMBERS + SIGNS + ")");
  }

  /** A NAME is one byte, of its USE; nothing but a sign stands behind it. */
  private static void names() {
    both("k", SIGNS);
    both("h", SIGNS);
    goesOn(0, "m", SIGNS);
    goesOn(1, "d", SIGNS);
    goesOn(0, "!m", SIGNS);
    goesOn(1, "(d", SIGNS + ")");
    Checks.due("12: d isn't of NEEDS", read(0, "d"), -10);
    Checks.due("12: m isn't of WAGES", read(1, "m"), -10);
    Checks.due("12: nor behind a sign", read(0, "m+d"), -12);
    Checks.due("12: nor behind a sign", read(1, "d+m"), -12);
  }

  /** B has one of < = >, at most; a new B begins behind | and &, and within ( ). */
  private static void compares() {
    for (char sign : new char[] {'<', '=', '>'}) {
      both("k" + sign + "k", ONCE);
      both("k" + sign + "12", NUMBERS + ONCE);
      both("k" + sign + "k+k", ONCE);
      both("k" + sign + "(k)", ONCE);
      both("k" + sign + "k|k", SIGNS);
      both("k" + sign + "k&k", SIGNS);
      both("k" + sign + "(k", SIGNS + ")");
      both("(k" + sign + "k", ONCE + ")");
      both("(k" + sign + "k)", SIGNS);
      both("!(k" + sign + "k", ONCE + ")");
      both("k" + sign + "!k", ONCE);
    }
  }

  /** A ) stands only where a ( is open. */
  private static void closes() {
    both("(k", SIGNS + ")");
    both("(k)", SIGNS);
    both("((k)", SIGNS + ")");
    both("((k))", SIGNS);
    both("(!k", SIGNS + ")");
    both("!(k)", SIGNS);
    both("(k)+k", SIGNS);
  }

  /** At most 5 of ! and ( are open at once: a ! is open until its Q has ended, a ( until its ). */
  private static void opens() {
    for (int first = 0; first < 32; first++) {
      StringBuilder open = new StringBuilder();
      for (int i = 0; i < 5; i++) {
        operand(open.toString(), true);
        open.append(OPEN.charAt(first >> i & 1));
      }
      operand(open.toString(), false);
    }
    operand("!!!!!1+", true);
    operand("!!!!!1+!!!!!", false);
    operand("(((((1)))))+", true);
    both("(((((1)", SIGNS + ")");
    operand("!!!!!k*!!!!", true);
    operand("(((((1)+", true);
    operand("(((((1)+!", false);
    operand("((((!1+", true);
    operand("((((!1+(", false);
    operand("!((((1)+", true);
    operand("!(!(!1+", true);
    operand("!(!(!1+!", false);
    operand("!(!(1)+", true);
    operand("!(!(1)+!!", true);
    operand("!(!(1)+!!!", false);
  }

  /** A TEXT that ends too early: how many bytes there are. */
  private static void early() {
    String[] texts = {"", "!", "(", "1+", "1|", "1&", "1<", "1=", "1>", "1-", "1*", "1/", "1%",
        "(1", "(1+", "((1)", "!(", "!(1", "(((((", "!!!!!", "(1<2", "12*(3", "9999+"};
    for (String text : texts) {
      Checks.due("12: " + text + " ends too early", read(0, text), -10 - text.length());
      Checks.due("12: " + text + " ends too early", read(1, text), -10 - text.length());
    }
  }

  /** After a FAULT THE TAPE is empty, and a new TEXT is read from its beginning. */
  private static void faultThenText() {
    DailyRelief x = Checks.ship(60);
    Checks.due("12: FAULT", Checks.text(x, 0, "((1+2)*x)"), -17);
    Checks.due("12: empty", x.count(7), 0);
    Checks.due("12: a TEXT", Checks.text(x, 0, "3"), 1);
    Checks.due("12: empty, too", x.count(7), 0);
    Checks.due("12: its NEEDS", x.bunkIs(0, 18), 3);
    Checks.due("12: a shorter one's FAULT", Checks.text(x, 0, "4)"), -11);
    Checks.due("12: the one ahead stays", x.bunkIs(0, 18), 3);
    Checks.due("12: no ERROR", Checks.errors(x), 0);
  }
}
