/** Puts texts on tapes, for the tests. */
final class Texts {
  static final int FED = 20;

  private Texts() { }

  /** Feeds a text to an object's tape, behind what is there; answers how many characters there are then. */
  static int feed(Counted object, String text) {
    int answer = 0;
    for (int from = 0; from < text.length(); from += FED) {
      answer = feedFrom(object, text, from);
    }
    int rest = text.length() % FED;
    return rest == 0 ? answer : object.end(rest);
  }

  /** Feeds twenty characters of a text, and zeros behind its end. */
  static int feedFrom(Counted object, String text, int from) {
    return object.feed(four(text, from), four(text, from + 4), four(text, from + 8), four(text, from + 12), four(text, from + 16));
  }

  private static int four(String text, int from) {
    int number = 0;
    for (int i = from; i < from + 4; i++) {
      number = number << 8 | (i < text.length() ? text.charAt(i) & 255 : 0);
    }
    return number;
  }

  /** A new object that has read the text. */
  static Counted read(String text) {
    Counted object = new Counted();
    feed(object, text);
    object.read();
    return object;
  }

  /** A new object that has written the form of a text. */
  static Counted write(String text) {
    Counted object = read(text);
    object.write();
    return object;
  }

  /** A text whose form has just so many characters, some 3,700 at the least; it is far shorter itself. */
  static String withForm(int length) {
    int trys = 59;
    int indented = 2 * trys;
    int rest = length;
    for (int level = 0; level < trys; level++) {
      rest -= 3 * 2 * level + "try\ncatch\nend\n".length();
    }
    StringBuilder lines = new StringBuilder();
    while (rest > 2 * (indented + 3) + 200) {
      lines.append("a;");
      rest -= indented + 3;
    }
    int name = rest - 2 * (indented + 2) - 1;
    lines.append("a;").append("b".repeat(name)).append(';');
    return "try ".repeat(trys) + lines + "catch end ".repeat(trys);
  }
}
