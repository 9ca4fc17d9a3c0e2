/** Compares answers with those that are due, and counts the wrong ones; the tests extend it for its names. */
abstract class Checks {
  static final int NONE = EquationText.NONE;
  static final int LEAST = Integer.MIN_VALUE;
  static final int LARGEST = Integer.MAX_VALUE;
  static final String REFUSED = "IllegalArgumentException";
  private static int checks = 0;
  private static int wrong = 0;

  static void due(String what, Object got, Object want) {
    checks++;
    if (!got.equals(want)) {
      wrong++;
      System.out.println(shown(what) + " answered " + shown(got) + ", due is " + shown(want));
    }
  }

  /** Long texts are told by their ends, so that the answers can be found between them. */
  private static String shown(Object value) {
    String text = value.toString();
    return text.length() <= 400 ? text : text.substring(0, 200) + " .. " + text.substring(text.length() - 200);
  }

  static void finish() {
    System.out.println(checks + " checks, " + wrong + " wrong answers");
    System.exit(wrong == 0 ? 0 : 1);
  }

  /** What end answers, or the name of what it throws. */
  static String end(Counted object, int n) {
    try {
      return "" + object.end(n);
    } catch (IllegalArgumentException refused) {
      return refused.getClass().getSimpleName();
    }
  }

  /** The fault of a text is where the only ` stands, which is not part of it. */
  static void dueFault(String marked) {
    int place = marked.indexOf('`');
    dueFaultAt(place, marked.substring(0, place) + marked.substring(place + 1));
  }

  static void dueFaultAt(int place, String text) {
    Counted object = Texts.read("kept;");
    Texts.feed(object, text);
    due("read() of " + text, object.read(), NONE);
    due("place() of " + text, object.place(), place);
    due("nodes() behind " + text, object.nodes(), 3);
    due("character(2, 0) behind " + text, object.character(2, 0), (int) 'k');
  }

  /** A text is read behind one that has a fault, so that place() has something to forget. */
  static Counted dueRight(String text, int tokens) {
    Counted object = Texts.read("`");
    Texts.feed(object, text);
    due("read() of " + text, object.read(), tokens);
    due("place() of " + text, object.place(), NONE);
    return object;
  }

  static void dueTree(String text, String tree) {
    due("the tree of " + text, Asked.of(text).tree(0), tree);
  }

  /** The form is the one that is due, and is read as the same tree, which has the same form. */
  static void dueForm(String text, String form) {
    Asked asked = Asked.of(text);
    Asked again = Asked.ofForm(text);
    due("the form of " + text, asked.form(), form);
    due("rewind() behind " + text, Texts.write(text).rewind(), form.length());
    due("read() of the form of " + text + " stands", again.tokens() != NONE, true);
    due("the tree of the form of " + text, again.shape(), asked.shape());
    due("the form of the form of " + text, again.form(), form);
  }
}
