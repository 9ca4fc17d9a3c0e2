/** What an object answers that has read a text and written its form; it is made anew before its calls are used up. */
final class Asked {
  private static final String BEFORE = "kept;";
  private final String text;
  private final boolean rewound;
  private Counted object;
  private int tokens;

  private Asked(String text, boolean rewound) {
    this.text = text;
    this.rewound = rewound;
    make();
  }

  static Asked of(String text) {
    return new Asked(text, false);
  }

  /** It has read the text's form behind the text, and written the form of that. */
  static Asked ofForm(String text) {
    return new Asked(text, true);
  }

  private void make() {
    object = Texts.read(BEFORE);
    Texts.feed(object, text);
    tokens = object.read();
    object.write();
    if (rewound) {
      object.rewind();
      tokens = object.read();
      object.write();
    }
  }

  /** What read() answered. */
  int tokens() {
    return tokens;
  }

  /** The object, for one call that changes nothing. */
  Counted ask() {
    if (object.callsLeft() == 0) {
      make();
    }
    return object;
  }

  String form() {
    int length = ask().write();
    StringBuilder form = new StringBuilder();
    for (int i = 0; i < length; i++) {
      form.append((char) ask().written(i));
    }
    return form.toString();
  }

  String token(int k) {
    StringBuilder token = new StringBuilder();
    for (int i = 0; ask().character(k, i) != EquationText.NONE; i++) {
      token.append((char) ask().character(k, i));
    }
    return token.toString();
  }

  /** A node as kind@place, perhaps /second place, perhaps the token in braces, perhaps the parts in brackets. */
  String tree(int k) {
    int second = ask().node(k, 2);
    String places = "@" + ask().node(k, 1) + (second == EquationText.NONE ? "" : "/" + second);
    String token = token(k);
    StringBuilder parts = new StringBuilder();
    for (int i = 0; i < ask().node(k, 3); i++) {
      parts.append(i == 0 ? "(" : " ").append(tree(ask().part(k, i)));
    }
    return ask().node(k, 0) + places + (token.isEmpty() ? "" : "{" + token + "}") + parts + (parts.length() == 0 ? "" : ")");
  }

  /** All nodes without their places, and without the tokens of those whose first token may be a bracket that is left out. */
  String shape() {
    StringBuilder shape = new StringBuilder();
    int nodes = ask().nodes();
    for (int k = 0; k < nodes; k++) {
      int kind = ask().node(k, 0);
      boolean ofFirstToken = kind == 20 || kind == 37;
      shape.append(kind).append(ofFirstToken ? "" : token(k)).append('/').append(ask().node(k, 3)).append(' ');
    }
    return shape.toString();
  }
}
