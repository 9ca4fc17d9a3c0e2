import java.util.ArrayList;
import java.util.List;
import java.util.Random;

/** Promises 4 to 12 on many texts, right and wrong ones, against SecondReader. */
public final class RandomTextsTest {
  private static final String[] TOKENS = {"a", "b", "f", "g", "abc_1", "1", "2.5", "1e3", "1e999", "0.1e-9", "\"x y\"", "\"\"",
      "||", "&&", "==", "~=", "<=", ">=", "<", ">", ":", "+", "-", "*", "/", "\\", ".*", "./", "^", ".^", "'", "~", "(", ")",
      "[", "]", ",", ";", "=", "if", "elseif", "else", "end", "while", "for", "break", "continue", "return", "function",
      "print", "show", "try", "catch", ".", "#"};
  private static final String[] BLANKS = {" ", " ", "\n", "\t", "\r\n", "  ", " % a ; (\n", "%\n"};

  private static int wrong = 0;
  private static int texts = 0;
  private static int rightTexts = 0;
  private final Random random;
  private final List<String> out = new ArrayList<>();
  private int room;
  private int loops = 0;

  private RandomTextsTest(long seed, int room) {
    random = new Random(seed);
    this.room = room;
  }

  private static void due(String text, String call, long got, long want) {
    if (got != want && wrong++ < 20) {
      System.out.println("after reading <" + text + "> " + call + " answered " + got + ", due is " + want);
    }
  }

  private static void compare(String text) {
    texts++;
    SecondReader want = new SecondReader(text);
    Asked got = Asked.of(text);
    due(text, "read()", got.tokens(), want.count);
    due(text, "place()", got.ask().place(), want.fault);
    if (want.program == null) {
      due(text, "nodes()", got.ask().nodes(), 3);
      due(text, "character(2, 0)", got.ask().character(2, 0), 'k');
      return;
    }
    rightTexts++;
    compareNodes(text, want, got);
    compareForm(text, want, got);
  }

  private static void compareNodes(String text, SecondReader want, Asked got) {
    due(text, "nodes()", got.ask().nodes(), want.nodes.size());
    for (int k = 0; k < want.nodes.size(); k++) {
      SecondReader.Node node = want.nodes.get(k);
      due(text, "node(" + k + ", 0)", got.ask().node(k, 0), node.kind);
      due(text, "node(" + k + ", 1)", got.ask().node(k, 1), node.place);
      due(text, "node(" + k + ", 2)", got.ask().node(k, 2), node.second);
      due(text, "node(" + k + ", 3)", got.ask().node(k, 3), node.parts.size());
      for (int i = 0; i <= node.parts.size(); i++) {
        int number = i < node.parts.size() ? want.nodes.indexOf(node.parts.get(i)) : EquationText.NONE;
        due(text, "part(" + k + ", " + i + ")", got.ask().part(k, i), number);
      }
      for (int i = 0; i <= node.token.length(); i++) {
        int character = i < node.token.length() ? node.token.charAt(i) : EquationText.NONE;
        due(text, "character(" + k + ", " + i + ")", got.ask().character(k, i), character);
      }
    }
  }

  private static void compareForm(String text, SecondReader want, Asked got) {
    String form = want.form();
    due(text, "write()", got.ask().write(), form.length());
    for (int i = 0; i <= form.length(); i++) {
      due(text, "written(" + i + ")", got.ask().written(i), i < form.length() ? form.charAt(i) : EquationText.NONE);
    }
    SecondReader again = new SecondReader(form);
    Counted object = Texts.write(text);
    due(text, "rewind()", object.rewind(), form.length());
    due(text, "read() of the form", object.read(), again.count);
    due(text, "place() in the form", object.place(), again.fault);
    if (again.program != null) {
      due(text, "nodes() of the form", object.nodes(), want.nodes.size());
      due(text, "the same form again", again.form().equals(form) ? 1 : 0, 1);
      due(text, "write() of the form", object.write(), form.length());
    }
  }

  /** One object that reads texts one behind the other, for as long as its calls last. */
  private static void compareInTurn(long seed) {
    Counted object = new Counted();
    int nodes = 0;
    int length = 0;
    for (int i = 0; object.callsLeft() > 110; i++) {
      RandomTextsTest made = new RandomTextsTest(1000 * seed + i, 5 + i % 40);
      made.program();
      if (made.chance(70)) {
        made.spoil();
      }
      String text = made.joined();
      if (text.length() > 2000) {
        continue;
      }
      SecondReader want = new SecondReader(text);
      Texts.feed(object, text);
      due(text, "read() in turn", object.read(), want.count);
      due(text, "place() in turn", object.place(), want.fault);
      nodes = want.program == null ? nodes : want.nodes.size();
      length = want.program == null ? length : want.form().length();
      due(text, "nodes() in turn", object.nodes(), nodes);
      due(text, "write() in turn", object.write(), nodes == 0 ? EquationText.NONE : length);
    }
  }

  // Texts that follow the grammar, for the most part.

  private void add(String... tokens) {
    out.addAll(List.of(tokens));
    room -= tokens.length;
  }

  private boolean chance(int percent) {
    return random.nextInt(100) < percent;
  }

  private String one(String... of) {
    return of[random.nextInt(of.length)];
  }

  private void program() {
    while (room > 0) {
      if (chance(15)) {
        function();
      } else {
        statement(0);
      }
    }
  }

  private void function() {
    add("function");
    int results = chance(10) ? random.nextInt(10) : random.nextInt(3);
    if (results == 1 && chance(50)) {
      add(name(0), "=");
    } else if (results > 0) {
      add("[");
      names(results);
      add("]", "=");
    }
    add("f" + random.nextInt(chance(95) ? 10000 : 3), "(");
    names(chance(10) ? random.nextInt(10) : random.nextInt(3));
    add(")");
    block(1);
    add("end");
  }

  private void names(int number) {
    for (int i = 0; i < number; i++) {
      add(i == 0 ? "" : ",", chance(99) ? name(i) : name(0));
    }
  }

  private static String name(int i) {
    return "n" + i;
  }

  private void block(int depth) {
    int statements = random.nextInt(4);
    for (int i = 0; i < statements && room > 0; i++) {
      statement(depth);
    }
  }

  private void statement(int depth) {
    switch (random.nextInt(depth > 4 ? 7 : 11)) {
      case 0:
        add("[");
        int targets = chance(95) ? 1 + random.nextInt(3) : 1 + random.nextInt(10);
        int nothings = chance(50) ? 40 : 0;
        for (int i = 0; i < targets; i++) {
          add(i == 0 ? "" : ",", chance(nothings) ? "~" : name(i));
        }
        add("]");
        if (nothings > 0 || chance(50)) {
          add("=", "f", "(");
          list(depth, random.nextInt(3));
          add(")");
        }
        break;
      case 1:
        add(loops > 0 || chance(2) ? one("break", "continue", "return") : "return");
        break;
      case 2:
        add(one("print", "show"));
        list(depth, chance(95) ? 1 + random.nextInt(3) : 1 + random.nextInt(9));
        break;
      case 3: case 4:
        value(depth);
        break;
      case 5:
        add("a", "=");
        value(depth);
        break;
      case 6:
        add("a", "(");
        arguments(depth, chance(97) ? 1 + random.nextInt(2) : random.nextInt(10));
        add(")", "=");
        value(depth);
        break;
      default:
        blocks(depth);
        return;
    }
    add(";");
  }

  private void blocks(int depth) {
    int choice = random.nextInt(4);
    loops += choice < 2 ? 1 : 0;
    switch (choice) {
      case 0:
        add("while", "(");
        value(depth);
        add(")");
        break;
      case 1:
        add("for", "(", "k", "=");
        value(depth);
        add(")");
        break;
      case 2:
        add("try");
        block(depth + 1);
        add("catch");
        break;
      default:
        add("if", "(");
        value(depth);
        add(")");
        for (int i = random.nextInt(3); i > 0; i--) {
          block(depth + 1);
          add("elseif", "(");
          value(depth);
          add(")");
        }
        if (chance(50)) {
          block(depth + 1);
          add("else");
        }
        break;
    }
    block(depth + 1);
    loops -= choice < 2 ? 1 : 0;
    add("end");
  }

  private void list(int depth, int number) {
    for (int i = 0; i < number; i++) {
      add(i == 0 ? "" : ",");
      value(depth + 1);
    }
  }

  private void arguments(int depth, int number) {
    int special = number <= 2 || chance(10) ? 15 : 0;
    for (int i = 0; i < number; i++) {
      add(i == 0 ? "" : ",");
      if (chance(special)) {
        add(":");
      } else if (chance(special)) {
        add("end", one("+", "-", ":", "*"), "1");
      } else {
        value(depth + 1);
      }
    }
  }

  private void value(int depth) {
    int choice = random.nextInt(room < 0 || depth > 6 ? 4 : 14);
    switch (choice) {
      case 0: case 1:
        add(one("a", "b", "x", "y"));
        break;
      case 2:
        add(one("1", "2.5", "1e3", "00.10e-2", chance(98) ? "1.7976931348623158e308" : "1.7976931348623159e308"));
        break;
      case 3:
        add("\"" + one("", "a", "%", "it's", "[1, 2]") + "\"");
        break;
      case 4: case 5:
        value(depth + 1);
        add(one("||", "&&", "==", "~=", "<", "<=", ">", ">=", chance(50) ? ":" : "*", "+", "-", "*", "/", "\\", ".*", "./"));
        value(depth + 1);
        break;
      case 6:
        value(depth + 1);
        add(one("^", ".^"), chance(40) ? "-" : "");
        if (chance(95)) {
          add(one("a", "2", "f(1)", "(-b)", "(a+b)", "(-a^b)", "(-(a*b))", "(-a')", "c'", "(+b)"));
        } else {
          value(depth + 1);
        }
        break;
      case 7:
        add(one("-", "+", "~"));
        value(depth + 1);
        break;
      case 8:
        value(depth + 1);
        add("'");
        break;
      case 9: case 10:
        add("(");
        value(depth + 1);
        add(")");
        break;
      case 11: case 12:
        add(one("a", "f", "g"), "(");
        arguments(depth + 1, chance(90) ? random.nextInt(3) : random.nextInt(9));
        add(")");
        break;
      default:
        rows(depth);
        break;
    }
  }

  private void rows(int depth) {
    add("[");
    int number = random.nextInt(3);
    for (int i = 0; i < number; i++) {
      add(i == 0 ? "" : ";");
      list(depth, 1 + random.nextInt(3));
    }
    add("]");
  }

  private void spoil() {
    if (out.isEmpty()) {
      return;
    }
    int at = random.nextInt(out.size());
    switch (random.nextInt(4)) {
      case 0:
        out.remove(at);
        break;
      case 1:
        out.add(at, one(TOKENS));
        break;
      case 2:
        out.set(at, one(TOKENS));
        break;
      default:
        out.subList(at, out.size()).clear();
        break;
    }
  }

  private String joined() {
    StringBuilder text = new StringBuilder();
    boolean tight = chance(30);
    for (String token : out) {
      boolean wordy = text.length() > 0 && !token.isEmpty() && Character.isLetterOrDigit(text.charAt(text.length() - 1))
          && Character.isLetterOrDigit(token.charAt(0));
      text.append(tight && !wordy ? "" : one(BLANKS)).append(token);
    }
    return text.toString();
  }

  /** A text that grows token by token; mostly by such that leave it the beginning of a program. */
  private static void grow(long seed, String beginning, int steps) {
    Random random = new Random(seed);
    String text = beginning;
    for (int step = 0; step < steps; step++) {
      String longer = text + " " + TOKENS[random.nextInt(TOKENS.length)];
      compare(longer);
      SecondReader reader = new SecondReader(longer);
      if (reader.program != null || reader.fault == longer.length()) {
        text = longer;
      }
    }
  }

  public static void main(String[] args) {
    for (long seed = 0; seed < 6000; seed++) {
      RandomTextsTest made = new RandomTextsTest(seed, 5 + (int) (seed % 90));
      made.program();
      compare(made.joined());
      made.spoil();
      compare(made.joined());
      made.spoil();
      compare(made.joined());
    }
    for (long seed = 0; seed < 60; seed++) {
      grow(seed, "", 300);
      grow(seed, "while (1) [", 200);
      grow(seed, "function [", 200);
      grow(seed, "x = a(", 200);
      grow(seed, "try ".repeat(58), 100);
      grow(seed, "try ".repeat(59) + "[", 60);
      grow(seed, "x = " + "-".repeat(29) + "(".repeat(29), 100);
    }
    for (long seed = 0; seed < 300; seed++) {
      compareInTurn(seed);
    }
    System.out.println(texts + " texts, " + rightTexts + " of them right, " + wrong + " wrong answers");
    System.exit(wrong == 0 && rightTexts > 5000 && texts - rightTexts > 5000 ? 0 : 1);
  }
}
