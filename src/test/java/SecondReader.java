import java.math.BigDecimal;
import java.math.BigInteger;
import java.util.ArrayList;
import java.util.HashSet;
import java.util.List;
import java.util.Set;
import java.util.regex.Matcher;
import java.util.regex.Pattern;

/**
 * The document's grammar a second time, by calls within calls and with Java's library, so that the two
 * readers share no thought: where they differ, one of them is wrong.
 */
final class SecondReader {
  static final class Node {
    final int kind;
    final int place;
    int second = -1;
    final String token;
    final List<Node> parts = new ArrayList<>();

    Node(int kind, int place, String token, Node... parts) {
      this.kind = kind;
      this.place = place;
      this.token = token;
      this.parts.addAll(List.of(parts));
    }
  }

  private static final class Fault extends RuntimeException {
    private static final long serialVersionUID = 1L;
    final int index;

    Fault(int index) {
      super(null, null, false, false);
      this.index = index;
    }
  }

  private record Token(String type, String text, int place) { }

  private static final BigInteger TOO_LARGE = BigInteger.TWO.pow(1024).subtract(BigInteger.TWO.pow(970));
  private static final Pattern BLANKS = Pattern.compile("(?:[\\t\\n\\r ]|%[^\\n]*)*");
  private static final Pattern NAME = Pattern.compile("[A-Za-z][A-Za-z0-9_]*");
  private static final Pattern NUMERAL = Pattern.compile("[0-9]+(?:\\.[0-9]+)?(?:e[+-]?[0-9]+)?");
  private static final Pattern TEXT = Pattern.compile("\"[ !#-~]{0,4096}\"");
  private static final Pattern SIGNS =
      Pattern.compile("\\|\\||&&|==|~=|<=|>=|\\.\\*|\\./|\\.\\^|[<>:+*/\\\\^'~()\\[\\],;=-]");
  private static final Set<String> WORDS = Set.of("if", "elseif", "else", "end", "while", "for", "break", "continue",
      "return", "function", "print", "show", "try", "catch");
  private static final Set<String> COMPARISONS = Set.of("==", "~=", "<", "<=", ">", ">=");
  private static final Set<String> PRODUCTS = Set.of("*", "/", "\\", ".*", "./");

  private final List<Token> tokens = new ArrayList<>();
  private final Set<String> functions = new HashSet<>();
  private int at = 0;
  private int depth = 0;
  private int signs = 0;
  private int loops = 0;
  /** For each open NAME with brackets its arguments so far, whether ':' or 'end' stands there, and whether it is of an item. */
  private final List<int[]> calls = new ArrayList<>();

  int fault = -1;
  int count = -1;
  Node program = null;
  final List<Node> nodes = new ArrayList<>();

  SecondReader(String text) {
    scan(text);
    try {
      program = program();
      count = tokens.size() - 1;
      number(program);
    } catch (Fault refused) {
      fault = tokens.get(refused.index).place;
    }
  }

  private void scan(String text) {
    int place = 0;
    while (true) {
      place = endOf(BLANKS, text, place);
      if (place == text.length()) {
        tokens.add(new Token("over", "", place));
        return;
      }
      Token token = tokenAt(text, place);
      tokens.add(token);
      if (token.type.equals("wrong")) {
        return;
      }
      place += token.text.length();
    }
  }

  private static int endOf(Pattern pattern, String text, int place) {
    Matcher matcher = pattern.matcher(text).region(place, text.length());
    return matcher.lookingAt() ? matcher.end() : -1;
  }

  private static Token tokenAt(String text, int place) {
    int end = endOf(NAME, text, place);
    if (end >= 0) {
      String name = text.substring(place, end);
      String type = name.length() > 255 ? "wrong" : WORDS.contains(name) ? name : "NAME";
      return new Token(type, name, place);
    }
    end = endOf(NUMERAL, text, place);
    if (end >= 0) {
      String numeral = text.substring(place, end);
      return new Token(isFinite(numeral) ? "NUMERAL" : "wrong", numeral, place);
    }
    end = endOf(TEXT, text, place);
    if (end >= 0) {
      return new Token("TEXT", text.substring(place, end), place);
    }
    end = endOf(SIGNS, text, place);
    if (end >= 0) {
      return new Token(text.substring(place, end), text.substring(place, end), place);
    }
    return new Token("wrong", "", place);
  }

  private static boolean isFinite(String numeral) {
    int mark = numeral.indexOf('e');
    BigDecimal mantissa = new BigDecimal(mark < 0 ? numeral : numeral.substring(0, mark));
    if (mantissa.signum() == 0 || mark < 0 && mantissa.precision() - mantissa.scale() < 300) {
      return true;
    }
    BigInteger exponent = mark < 0 ? BigInteger.ZERO : new BigInteger(numeral.substring(mark + 1).replace("+", ""));
    if (exponent.bitLength() > 25) {
      return exponent.signum() < 0;
    }
    long magnitude = (long) mantissa.precision() - mantissa.scale() + exponent.longValue();
    if (magnitude < 300 || magnitude > 320) {
      return magnitude < 300;
    }
    return mantissa.scaleByPowerOfTen(exponent.intValue()).compareTo(new BigDecimal(TOO_LARGE)) < 0;
  }

  private void number(Node node) {
    nodes.add(node);
    for (Node part : node.parts) {
      number(part);
    }
  }

  private Fault fault() {
    return new Fault(at);
  }

  private Token token() {
    return tokens.get(at);
  }

  private boolean sees(String type) {
    return token().type.equals(type);
  }

  private Token take(String type) {
    if (!sees(type) || at >= 16384) {
      throw fault();
    }
    return tokens.get(at++);
  }

  private Token takeLevel(String type) {
    if (sees(type) && depth == 60) {
      throw fault();
    }
    Token token = take(type);
    depth++;
    return token;
  }

  private Token takeEndOfLevel(String type) {
    Token token = take(type);
    depth--;
    return token;
  }

  private Node leaf(int kind, Token token) {
    return new Node(kind, token.place, token.text);
  }

  private Node program() {
    Node node = new Node(0, 0, "");
    while (!sees("over")) {
      node.parts.add(sees("function") ? function() : statement());
    }
    return node;
  }

  private Node function() {
    Token word = takeLevel("function");
    Node results = null;
    List<Node> resultNames = new ArrayList<>();
    Token name;
    if (sees("[")) {
      takeLevel("[");
      resultNames = differentNames("]");
      takeEndOfLevel("]");
      take("=");
      name = newFunctionName();
    } else {
      name = take("NAME");
      if (sees("=")) {
        take("=");
        resultNames.add(leaf(32, name));
        name = newFunctionName();
      } else if (sees("(") && !functions.add(name.text)) {
        throw fault();
      }
    }
    results = new Node(2, name.place, "");
    results.parts.addAll(resultNames);
    Node parameters = new Node(2, takeLevel("(").place, "");
    if (!sees(")")) {
      parameters.parts.addAll(differentNames(")"));
    }
    Node block = block(takeEndOfLevel(")"));
    takeEndOfLevel("end");
    return new Node(1, word.place, name.text, results, parameters, block);
  }

  private Token newFunctionName() {
    if (sees("NAME") && !functions.add(token().text)) {
      throw fault();
    }
    return take("NAME");
  }

  private List<Node> differentNames(String end) {
    List<Node> names = new ArrayList<>();
    Set<String> known = new HashSet<>();
    do {
      if (!names.isEmpty()) {
        take(",");
      }
      if (sees("NAME") && !known.add(token().text)) {
        throw fault();
      }
      names.add(leaf(32, take("NAME")));
    } while (names.size() < 8 && !sees(end));
    return names;
  }

  private Node block(Token before) {
    Node block = new Node(3, before.place, "");
    while (!sees("end") && !sees("else") && !sees("elseif") && !sees("catch")) {
      block.parts.add(statement());
    }
    return block;
  }

  private Node statement() {
    switch (token().type) {
      case "[":
        return bracketStatement();
      case "if":
        return ifStatement();
      case "while":
      case "for":
        return loop();
      case "try":
        return tryStatement();
      case "break":
      case "continue":
        if (loops == 0) {
          throw fault();
        }
        return word();
      case "return":
        return word();
      case "print":
      case "show":
        return values();
      default:
        return plain();
    }
  }

  /** Both kinds of statement are looked at; where neither is one, the one that gets farther tells the fault. */
  private Node bracketStatement() {
    if (depth == 60) {
      throw fault();
    }
    int from = at;
    int farthest = targetsFault(at);
    if (farthest < 0) {
      return several();
    }
    try {
      return plain();
    } catch (Fault refused) {
      if (from > refused.index) {
        throw new IllegalStateException();
      }
      throw new Fault(Math.max(refused.index, farthest));
    }
  }

  private int targetsFault(int bracket) {
    int index = bracket + 1;
    for (int targets = 1; targets <= 8; targets++) {
      String type = tokens.get(index).type;
      if (!type.equals("NAME") && !type.equals("~")) {
        return index;
      }
      index++;
      if (tokens.get(index).type.equals("]")) {
        return tokens.get(index + 1).type.equals("=") ? -1 : index + 1;
      }
      if (!tokens.get(index).type.equals(",")) {
        return index;
      }
      if (targets < 8) {
        index++;
      }
    }
    return index;
  }

  private Node several() {
    Token bracket = takeLevel("[");
    Node targets = new Node(2, bracket.place, "");
    do {
      if (!targets.parts.isEmpty()) {
        take(",");
      }
      targets.parts.add(sees("~") ? leaf(5, take("~")) : leaf(32, take("NAME")));
    } while (!sees("]"));
    takeEndOfLevel("]");
    Token equals = take("=");
    Node call = call(take("NAME"), false);
    take(";");
    Node node = new Node(10, equals.place, "=", targets, call);
    node.second = bracket.place;
    return node;
  }

  private Node ifStatement() {
    Node node = leaf(11, takeLevel("if"));
    condition(node);
    while (sees("elseif")) {
      take("elseif");
      condition(node);
    }
    if (sees("else")) {
      node.parts.add(block(take("else")));
    }
    takeEndOfLevel("end");
    return node;
  }

  private void condition(Node node) {
    takeLevel("(");
    node.parts.add(or());
    node.parts.add(block(takeEndOfLevel(")")));
  }

  private Node loop() {
    Token word = takeLevel(token().type);
    Node node = leaf(word.type.equals("for") ? 13 : 12, word);
    takeLevel("(");
    if (node.kind == 13) {
      node.parts.add(leaf(32, take("NAME")));
      take("=");
    }
    node.parts.add(or());
    loops++;
    node.parts.add(block(takeEndOfLevel(")")));
    loops--;
    takeEndOfLevel("end");
    return node;
  }

  private Node tryStatement() {
    Token word = takeLevel("try");
    Node node = leaf(14, word);
    node.parts.add(block(word));
    node.parts.add(block(take("catch")));
    takeEndOfLevel("end");
    return node;
  }

  private Node word() {
    Token word = take(token().type);
    take(";");
    return leaf(word.type.equals("break") ? 15 : word.type.equals("continue") ? 16 : 17, word);
  }

  private Node values() {
    Token word = take(token().type);
    Node node = leaf(word.type.equals("print") ? 18 : 19, word);
    node.parts.add(or());
    while (!sees(";") && node.parts.size() < 8) {
      take(",");
      node.parts.add(or());
    }
    take(";");
    return node;
  }

  private Node plain() {
    Token first = token();
    Node value = or();
    boolean bare = value.place == first.place;
    boolean canBeGiven = bare && (value.kind == 32 || value.kind == 33 && value.parts.size() >= 1 && value.parts.size() <= 2);
    if (sees("=") && canBeGiven) {
      Node node = leaf(21, take("="));
      node.second = first.place;
      node.parts.add(value);
      node.parts.add(or());
      take(";");
      return node;
    }
    take(";");
    return new Node(20, first.place, first.text, value);
  }

  private Node operation(Node left, Node right, Token token) {
    return new Node(40, token.place, token.text, left, right);
  }

  private Node or() {
    Node left = and();
    while (sees("||")) {
      Token token = take("||");
      left = operation(left, and(), token);
    }
    return left;
  }

  private Node and() {
    Node left = comparison();
    while (sees("&&")) {
      Token token = take("&&");
      left = operation(left, comparison(), token);
    }
    return left;
  }

  private Node comparison() {
    Node left = range();
    while (COMPARISONS.contains(token().type)) {
      Token token = take(token().type);
      left = operation(left, range(), token);
    }
    return left;
  }

  private Node range() {
    Node first = sum();
    if (!sees(":")) {
      return first;
    }
    Token colon = take(":");
    Node node = new Node(41, colon.place, ":", first, sum());
    if (sees(":")) {
      node.second = take(":").place;
      node.parts.add(sum());
    }
    return node;
  }

  private Node sum() {
    Node left = product();
    while (sees("+") || sees("-")) {
      Token token = take(token().type);
      left = operation(left, product(), token);
    }
    return left;
  }

  private Node product() {
    Node left = signed();
    while (PRODUCTS.contains(token().type)) {
      Token token = take(token().type);
      left = operation(left, signed(), token);
    }
    return left;
  }

  private Node signed() {
    if (sees("-") || sees("+") || sees("~")) {
      Token token = takeLevel(token().type);
      signs++;
      return new Node(39, token.place, token.text, signed());
    }
    return power();
  }

  private Node power() {
    Node left = post();
    while (sees("^") || sees(".^")) {
      Token token = take(token().type);
      Token minus = sees("-") ? take("-") : null;
      Node right = post();
      left = operation(left, minus == null ? right : new Node(39, minus.place, "-", right), token);
    }
    return left;
  }

  private Node post() {
    int before = signs;
    signs = 0;
    Node node = item();
    depth -= before;
    while (sees("'")) {
      node = new Node(38, take("'").place, "'", node);
    }
    return node;
  }

  private Node item() {
    switch (token().type) {
      case "NUMERAL":
        return leaf(30, take("NUMERAL"));
      case "TEXT":
        return leaf(31, take("TEXT"));
      case "NAME":
        Token name = take("NAME");
        return sees("(") ? call(name, true) : leaf(32, name);
      case "(":
        takeLevel("(");
        Node inside = or();
        takeEndOfLevel(")");
        return inside;
      case "[":
        return rows();
      case "end":
        return end();
      default:
        throw fault();
    }
  }

  private Node end() {
    int[] nearest = calls.isEmpty() ? null : calls.get(calls.size() - 1);
    if (nearest == null || nearest[2] == 0 || nearest[0] >= 2) {
      throw fault();
    }
    nearest[1] = 1;
    return leaf(35, take("end"));
  }

  private Node call(Token name, boolean ofItem) {
    Node node = leaf(33, name);
    node.second = takeLevel("(").place;
    int[] call = {0, 0, ofItem ? 1 : 0};
    calls.add(call);
    if (!sees(")")) {
      argument(node, call);
      while (!sees(")")) {
        if (call[0] >= (call[1] == 1 ? 2 : 8)) {
          throw fault();
        }
        take(",");
        argument(node, call);
      }
    }
    calls.remove(calls.size() - 1);
    takeEndOfLevel(")");
    return node;
  }

  private void argument(Node node, int[] call) {
    if (sees(":") && call[2] == 1 && call[0] < 2) {
      call[1] = 1;
      node.parts.add(leaf(34, take(":")));
    } else {
      node.parts.add(or());
    }
    call[0]++;
  }

  private Node rows() {
    Node node = leaf(36, takeLevel("["));
    if (!sees("]")) {
      node.parts.add(row());
      while (sees(";")) {
        take(";");
        node.parts.add(row());
      }
    }
    takeEndOfLevel("]");
    return node;
  }

  private Node row() {
    Node node = leaf(37, token());
    node.parts.add(or());
    while (sees(",")) {
      take(",");
      node.parts.add(or());
    }
    return node;
  }

  // The one form.

  String form() {
    StringBuilder form = new StringBuilder();
    for (Node part : program.parts) {
      write(part, "", form);
    }
    return form.toString();
  }

  private static void write(Node node, String indent, StringBuilder form) {
    form.append(indent);
    switch (node.kind) {
      case 1:
        String results = list(node.parts.get(0), ", ");
        int number = node.parts.get(0).parts.size();
        form.append("function ").append(number == 0 ? "" : number == 1 ? results + " = " : "[" + results + "] = ");
        form.append(node.token).append('(').append(list(node.parts.get(1), ", ")).append(")\n");
        writeBlock(node.parts.get(2), indent, form);
        form.append(indent).append("end\n");
        break;
      case 11:
        writeIf(node, indent, form);
        break;
      case 12:
        form.append("while (").append(value(node.parts.get(0))).append(")\n");
        writeBlock(node.parts.get(1), indent, form);
        form.append(indent).append("end\n");
        break;
      case 13:
        form.append("for (").append(node.parts.get(0).token).append(" = ").append(value(node.parts.get(1))).append(")\n");
        writeBlock(node.parts.get(2), indent, form);
        form.append(indent).append("end\n");
        break;
      case 14:
        form.append("try\n");
        writeBlock(node.parts.get(0), indent, form);
        form.append(indent).append("catch\n");
        writeBlock(node.parts.get(1), indent, form);
        form.append(indent).append("end\n");
        break;
      default:
        form.append(line(node)).append(";\n");
        break;
    }
  }

  private static String line(Node node) {
    switch (node.kind) {
      case 10:
        return "[" + list(node.parts.get(0), ", ") + "] = " + value(node.parts.get(1));
      case 18:
      case 19:
        return node.token + " " + list(node, ", ");
      case 20:
        return value(node.parts.get(0));
      case 21:
        return value(node.parts.get(0)) + " = " + value(node.parts.get(1));
      default:
        return node.token;
    }
  }

  private static void writeIf(Node node, String indent, StringBuilder form) {
    String word = "if (";
    int i = 0;
    while (i + 1 < node.parts.size()) {
      form.append(i == 0 ? "" : indent).append(word).append(value(node.parts.get(i))).append(")\n");
      writeBlock(node.parts.get(i + 1), indent, form);
      word = "elseif (";
      i += 2;
    }
    if (i < node.parts.size()) {
      form.append(indent).append("else\n");
      writeBlock(node.parts.get(i), indent, form);
    }
    form.append(indent).append("end\n");
  }

  private static void writeBlock(Node block, String indent, StringBuilder form) {
    for (Node statement : block.parts) {
      write(statement, indent + "  ", form);
    }
  }

  private static String list(Node node, String between) {
    StringBuilder list = new StringBuilder();
    for (Node part : node.parts) {
      list.append(list.length() == 0 ? "" : between).append(value(part));
    }
    return list.toString();
  }

  private static String value(Node node) {
    switch (node.kind) {
      case 33:
        return node.token + "(" + list(node, ", ") + ")";
      case 36:
        return "[" + list(node, "; ") + "]";
      case 37:
        return list(node, ", ");
      case 38:
        return inBrackets(node.parts.get(0), 9) + "'";
      case 39:
        return node.token + inBrackets(node.parts.get(0), 7);
      case 40:
        return operation(node);
      case 41:
        String range = inBrackets(node.parts.get(0), 5);
        for (Node part : node.parts.subList(1, node.parts.size())) {
          range += ":" + inBrackets(part, 5);
        }
        return range;
      default:
        return node.token;
    }
  }

  private static String operation(Node node) {
    int rank = rank(node);
    Node right = node.parts.get(1);
    String left = inBrackets(node.parts.get(0), rank);
    if (rank == 8) {
      boolean asItIs = right.kind == 39 && right.token.equals("-") && rank(right.parts.get(0)) >= 9;
      return left + node.token + (asItIs ? value(right) : inBrackets(right, 9));
    }
    return left + " " + node.token + " " + inBrackets(right, rank + 1);
  }

  private static String inBrackets(Node node, int needed) {
    return rank(node) < needed ? "(" + value(node) + ")" : value(node);
  }

  private static int rank(Node node) {
    if (node.kind != 40) {
      return node.kind == 41 ? 4 : node.kind == 39 ? 7 : node.kind == 38 ? 9 : 10;
    }
    switch (node.token) {
      case "||":
        return 1;
      case "&&":
        return 2;
      case "+":
      case "-":
        return 5;
      case "^":
      case ".^":
        return 8;
      default:
        return COMPARISONS.contains(node.token) ? 3 : 6;
    }
  }
}
