/** Puts texts on tapes and takes forms off objects, for the tests. */
final class Texts {
  static final int FED = 20;

  private Texts() { }

  /** Feeds a text to an object's tape, which is empty; answers how many calls that took. */
  static int feed(EquationText object, String text) {
    int calls = 0;
    for (int from = 0; from < text.length(); from += FED) {
      object.feed(four(text, from), four(text, from + 4), four(text, from + 8), four(text, from + 12), four(text, from + 16));
      calls++;
    }
    int rest = text.length() % FED;
    if (rest != 0) {
      object.end(rest);
      calls++;
    }
    return calls;
  }

  private static int four(String text, int from) {
    int number = 0;
    for (int i = from; i < from + 4; i++) {
      number = number << 8 | (i < text.length() ? text.charAt(i) & 255 : 0);
    }
    return number;
  }

  /** A new object that has read the text. */
  static EquationText read(String text) {
    EquationText object = new EquationText();
    feed(object, text);
    object.read();
    return object;
  }

  static String written(EquationText object, int length) {
    StringBuilder form = new StringBuilder();
    for (int i = 0; i < length; i++) {
      form.append((char) object.written(i));
    }
    return form.toString();
  }

  static String token(EquationText object, int k) {
    StringBuilder token = new StringBuilder();
    for (int i = 0; object.character(k, i) != EquationText.NONE; i++) {
      token.append((char) object.character(k, i));
    }
    return token.toString();
  }
}
