/** Promises 11 to 13: texts. */
public final class TextsTest {
  public static void main(String[] args) {
    feed();
    faults();
    values();
    uses();
    untell();
    Checks.end("TextsTest");
  }

  private static void feed() {
    DailyRelief x = Checks.ship(60);
    Checks.due("11: n 0", x.feed(0, 0), Checks.BEYOND);
    Checks.due("11: n 9", x.feed(0, 9), Checks.BEYOND);
    for (int v : Checks.WILD) {
      Checks.due("11: n " + v, x.feed(0, v), Checks.BEYOND);
    }
    // The lowest byte first: 1+2+3+4.
    Checks.due("11: lowest first", x.feed(0x342b332b322b31L, 7), 7);
    Checks.due("11: more", x.feed('+' + ('9' << 8) + ('x' << 16), 2), 9);
    Checks.due("11: bytes", x.count(7), 9);
    Checks.due("11: is a TEXT", x.text(0), 1);
    Checks.due("11: its NEEDS", x.bunkIs(0, 18), 19);
    for (int i = 1; i <= 7; i++) {
      Checks.due("11: eight", x.feed(0x3030303030303030L, 8), 8 * i);
    }
    Checks.due("11: 61 are too many", x.feed(0, 5), Checks.FULL);
    Checks.due("11: BEYOND ahead of FULL", x.feed(0, 9), Checks.BEYOND);
    Checks.due("11: 60", x.feed(-1L, 4), 60);
    Checks.due("11: one more", x.feed(0, 1), Checks.FULL);
    Checks.due("11: none came", x.count(7), 60);
    Checks.due("11: its FAULT", x.text(0), -14);
  }

  private static void fault(int use, String text, int fault) {
    DailyRelief x = Checks.ship(60);
    Checks.text(x, use, "7");
    Checks.due("12: FAULT of " + text, Checks.text(x, use, text), fault < 0 ? 1 : -10 - fault);
    Checks.due("12: THE TAPE is empty", x.count(7), 0);
    Checks.due("12: no ERROR", x.told(1) + x.told(2) + x.told(3) + x.told(4), 0);
    if (fault >= 0) {
      Checks.due("12: the one ahead stays", x.bunkIs(0, use == 0 ? 18 : 5), 7);
    }
  }

  private static void faults() {
    fault(0, "", 0);
    fault(0, "12345", 4);
    fault(0, "0000", -1);
    fault(0, "1+", 2);
    fault(0, "+1", 0);
    fault(0, "1 +1", 1);
    fault(0, "1<2<3", 3);
    fault(0, "1<2=3", 3);
    fault(0, "1<2&3>4|5=6", -1);
    fault(0, "(1<2)<3", -1);
    fault(0, "(1<2<3)", 4);
    fault(0, "(1", 2);
    fault(0, "(1))", 3);
    fault(0, ")", 0);
    fault(0, "()", 1);
    fault(0, "!", 1);
    fault(0, "!!!!!1", -1);
    fault(0, "!!!!!!1", 5);
    fault(0, "(((((1)))))", -1);
    fault(0, "((((((1", 5);
    fault(0, "!(!(!1))", -1);
    fault(0, "!(!(!(", 5);
    fault(0, "!(!(!!", 5);
    fault(0, "!!!!!1+!!!!!(", 12);
    fault(0, "!!!!1+(!(!(1)))", -1);
    fault(0, "1!2", 1);
    fault(0, "k1", 1);
    fault(0, "1k", 1);
    fault(0, "kh", 1);
    fault(0, "1(2)", 1);
    fault(0, "(1)2", 3);
    fault(0, "1*/2", 2);
    fault(0, "1||2", 2);
    fault(0, "k+h+m", -1);
    fault(0, "d", 0);
    fault(1, "k+h+d", -1);
    fault(1, "m", 0);
    fault(1, "K", 0);
    fault(1, "1+\u00b1", 2);
    fault(1, "1\u0000", 1);
    String sixty = "1111+1111+1111+1111+1111+1111+1111+1111+1111+1111+1111+1111+";
    fault(1, sixty, 60);
    fault(1, sixty.substring(0, 59), -1);
    beyond();
  }

  private static void beyond() {
    DailyRelief x = new DailyRelief();
    Checks.feed(x, "12");
    Checks.due("12: use 2", x.text(2), Checks.BEYOND);
    for (int v : Checks.WILD) {
      Checks.due("12: use " + v, x.text(v), Checks.BEYOND);
    }
    Checks.due("12: THE TAPE stays", x.count(7), 2);
    Checks.due("12: it is a TEXT", x.text(1), 1);
  }

  /** The value of a TEXT of WAGES in which nothing is below 0 or above 999. */
  private static void value(String text, int value) {
    DailyRelief x = Checks.ship(39);
    x.know(0, 2, 5);
    x.know(0, 4, 5);
    Checks.due("12: " + text, Checks.text(x, 1, text), 1);
    Checks.due("12: value of " + text, x.bunkIs(0, 5), value);
  }

  private static void values() {
    value("0", 0);
    value("999", 999);
    value("9999", 999);
    value("0-1", 0);
    value("0999", 999);
    value("7-2-1", 4);
    value("100/7/2", 7);
    value("2+3*4", 14);
    value("(2+3)*4", 20);
    value("17%5*3", 6);
    value("7/0+3", 3);
    value("7%0+3", 3);
    value("20+(0-7)/2", 17);
    value("20+(0-7)%4", 17);
    value("20+7/(0-2)", 17);
    value("1<2", 1);
    value("2<1", 0);
    value("2<2", 0);
    value("2=2", 1);
    value("2=1", 0);
    value("2>1", 1);
    value("2>2", 0);
    value("1+1<1*3", 1);
    value("0|0", 0);
    value("0|5", 1);
    value("5|0", 1);
    value("2&1", 1);
    value("2&0", 0);
    value("0&2", 0);
    value("1|0&0", 1);
    value("(1|0)&0", 0);
    value("1<2&2<1|7", 1);
    truths();
    value("!0", 1);
    value("!7", 0);
    value("!!7", 1);
    value("!0+4", 5);
    value("!(0+4)", 0);
    value("5-!0-!0", 3);
    value("k*100+h*10+d", 320);
    // Ints wrap: 9999 * 9999 * 9999 is -1027349969, and the least int by -1 is itself.
    value("9999*9999*9999<0", 1);
    value("0-9999*9999*9999/9999/1000", 102);
    value("(0-2048*2048*512)/(0-1)<0", 1);
    value("(0-2048*2048*512)%(0-1)+3", 3);
    value("2048*2048*512*2", 0);
  }

  /** | & < = > ! give just 1 or 0, whatever is joined; what is not 0 is true, below 0, too. */
  private static void truths() {
    int[] numbers = {0, 1, 2, -1, -2, 9999};
    for (int a : numbers) {
      for (int b : numbers) {
        truth(told(a) + "|" + told(b), a != 0 || b != 0);
        truth(told(a) + "&" + told(b), a != 0 && b != 0);
        truth(told(a) + "<" + told(b), a < b);
        truth(told(a) + "=" + told(b), a == b);
        truth(told(a) + ">" + told(b), a > b);
      }
      truth("!" + told(a), a == 0);
    }
  }

  private static String told(int number) {
    return number < 0 ? "(0-" + -number + ")" : Integer.toString(number);
  }

  /** Held within 0 .. 999, a number below 0 would look like 0: so it is added to 500. */
  private static void truth(String text, boolean is) {
    value("500+(" + text + ")", is ? 501 : 500);
    value("500-(" + text + ")", is ? 499 : 500);
  }

  private static void uses() {
    DailyRelief x = Checks.ship(62, 68, 2);
    x.know(1, 0, 1);
    x.know(1, 5, 1);
    Checks.text(x, 0, "k*20+h*10+m");
    Checks.due("12: NEEDS by k", x.bunkIs(0, 18 + 3), 62);
    Checks.due("12: NEEDS by h", x.bunkIs(1, 18), 28);
    Checks.due("12: NEEDS held, most", x.bunkIs(1, 18 + 5), 99);
    Checks.due("12: NEEDS of a MAN", x.bunkIs(2, 18 + 3), 2);
    Checks.text(x, 0, "0");
    Checks.due("12: NEEDS held, least", x.bunkIs(0, 18), 1);
    Checks.due("12: in place of one ahead", Checks.text(x, 0, "5+"), -12);
    Checks.due("12: stays 0", x.bunkIs(0, 18), 1);
    Checks.text(x, 1, "d*100+k*10+h");
    Checks.due("12: WAGES by hand", x.bunkIs(1, 5), 62);
    x.roster(10, 3);
    x.days(3);
    Checks.due("12: d of the first", x.bunkIs(0, 5), 312);
    Checks.due("12: d of the last", x.bunkIs(2, 5), 112);
    lessonsOfATold();
  }

  /** NEEDS are those of the man before he KNOWS, of the KNACK that is taught. */
  private static void lessonsOfATold() {
    DailyRelief x = Checks.ship(0, 63);
    x.know(0, 4, 9);
    x.set(0, 4, 4);
    x.know(1, 0, 1);
    Checks.text(x, 0, "h*2+(k=4)+m-3");
    x.days(2);
    Checks.due("12: not yet", x.bunkIs(1, 3), 1);
    Checks.due("12: two LESSONS", x.bunkIs(1, 16), 2);
    x.days(1);
    Checks.due("12: he KNOWS", x.bunkIs(1, 3), 17);
    Checks.due("12: three LESSONS", x.bunkIs(1, 16), 3);
    Checks.due("12: the VERSION", x.bunkIs(1, 10), 9);
  }

  private static void untell() {
    DailyRelief x = Checks.ship(64);
    Checks.due("13: none", x.untell(0), 0);
    Checks.text(x, 0, "50");
    Checks.text(x, 1, "60");
    Checks.due("13: NEEDS", x.bunkIs(0, 18), 50);
    Checks.due("13: there was", x.untell(0), 1);
    Checks.due("13: NEEDS without", x.bunkIs(0, 18), 4);
    Checks.due("13: WAGES stay", x.bunkIs(0, 5), 60);
    Checks.due("13: not any more", x.untell(0), 0);
    Checks.due("13: the other one", x.untell(1), 1);
    Checks.due("13: WAGES without", x.bunkIs(0, 5), 1);
    x.know(0, 1, 1);
    x.know(0, 2, 1);
    Checks.due("13: WAGES are 1+h", x.bunkIs(0, 5), 3);
    Checks.due("13: use 2", x.untell(2), Checks.BEYOND);
    for (int v : Checks.WILD) {
      Checks.due("13: use " + v, x.untell(v), Checks.BEYOND);
    }
  }
}
