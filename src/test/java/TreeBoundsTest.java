/** The sentences of promises 6 to 9 that name a bound, and those of 'Terms' about nodes and places that they use. */
public final class TreeBoundsTest extends Checks {
  /** A text with every kind of node, and what is due of each of its nodes: kind, place, second place, parts, token. */
  private static final String EVERY_KIND = "function [a, b] = f(c) while (a) break; continue; end end"
      + " [~, a] = f(1); if (a) else return; end for (k = 1) end try catch end print a; show b; \"t\"; x(:, end) = -[a', b; 2 + c];"
      + " a:b; a:b:c;";

  private static Counted everyKind() {
    return Texts.read(EVERY_KIND);
  }

  /** The only node of a kind, or the first one. */
  private static int first(int kind) {
    for (int k = 0; k < everyKind().nodes(); k++) {
      if (everyKind().node(k, 0) == kind) {
        return k;
      }
    }
    return NONE;
  }

  private static void dueNode(int k, int kind, int place, int second, int parts, String token) {
    Counted object = everyKind();
    due("node(" + k + ", 0)", object.node(k, 0), kind);
    due("node(" + k + ", 1)", object.node(k, 1), place);
    due("node(" + k + ", 2)", object.node(k, 2), second);
    due("node(" + k + ", 3)", object.node(k, 3), parts);
    due("part(" + k + ", -1)", object.part(k, -1), NONE);
    due("part(" + k + ", 0)", object.part(k, 0), parts == 0 ? NONE : k + 1);
    due("part(" + k + ", last) is one", object.part(k, parts - 1) > k, parts > 0);
    due("part(" + k + ", last + 1)", object.part(k, parts), NONE);
    due("character(" + k + ", -1)", object.character(k, -1), NONE);
    for (int i = 0; i < token.length(); i++) {
      due("character(" + k + ", " + i + ")", object.character(k, i), (int) token.charAt(i));
    }
    due("character(" + k + ", last + 1)", object.character(k, token.length()), NONE);
  }

  private static int placeOf(String words) {
    return EVERY_KIND.indexOf(words);
  }

  /** "Each has a KIND, a PLACE on the tape (..), and PARTS"; "Each node's TOKEN is that at its place (..)" */
  private static void everyKindOfNode() {
    dueNode(0, 0, 0, NONE, 11, "");
    dueNode(first(1), 1, 0, NONE, 3, "f");
    dueNode(first(2), 2, placeOf("f(c)"), NONE, 2, "");
    dueNode(first(2) + 3, 2, placeOf("(c)"), NONE, 1, "");
    dueNode(first(3), 3, placeOf(") while"), NONE, 1, "");
    dueNode(first(10), 10, placeOf("= f(1)"), placeOf("[~"), 2, "=");
    dueNode(first(10) + 1, 2, placeOf("[~"), NONE, 2, "");
    dueNode(first(5), 5, placeOf("~, a"), NONE, 0, "~");
    dueNode(first(11), 11, placeOf("if (a)"), NONE, 3, "if");
    dueNode(first(11) + 2, 3, placeOf(") else"), NONE, 0, "");
    dueNode(first(11) + 3, 3, placeOf("else"), NONE, 1, "");
    dueNode(first(12), 12, placeOf("while"), NONE, 2, "while");
    dueNode(first(13), 13, placeOf("for"), NONE, 3, "for");
    dueNode(first(14), 14, placeOf("try"), NONE, 2, "try");
    dueNode(first(14) + 1, 3, placeOf("try"), NONE, 0, "");
    dueNode(first(14) + 2, 3, placeOf("catch"), NONE, 0, "");
    dueNode(first(15), 15, placeOf("break"), NONE, 0, "break");
    dueNode(first(16), 16, placeOf("continue"), NONE, 0, "continue");
    dueNode(first(17), 17, placeOf("return"), NONE, 0, "return");
    dueNode(first(18), 18, placeOf("print"), NONE, 1, "print");
    dueNode(first(19), 19, placeOf("show"), NONE, 1, "show");
    dueNode(first(20), 20, placeOf("\"t\""), NONE, 1, "\"t\"");
    dueNode(first(21), 21, placeOf("= -["), placeOf("x("), 2, "=");
  }

  private static void everyKindOfValue() {
    dueNode(first(30), 30, placeOf("1);"), NONE, 0, "1");
    dueNode(first(31), 31, placeOf("\"t\""), NONE, 0, "\"t\"");
    dueNode(first(32), 32, placeOf("a, b] = f"), NONE, 0, "a");
    dueNode(first(33), 33, placeOf("f(1)"), placeOf("(1)"), 1, "f");
    dueNode(first(21) + 1, 33, placeOf("x("), placeOf("(:"), 2, "x");
    dueNode(first(34), 34, placeOf(":, end"), NONE, 0, ":");
    dueNode(first(35), 35, placeOf("end) ="), NONE, 0, "end");
    dueNode(first(36), 36, placeOf("[a', b;"), NONE, 2, "[");
    dueNode(first(37), 37, placeOf("a', b;"), NONE, 2, "a");
    dueNode(first(38), 38, placeOf("', b;"), NONE, 1, "'");
    dueNode(first(39), 39, placeOf("-["), NONE, 1, "-");
    dueNode(first(40), 40, placeOf("+ c"), NONE, 2, "+");
    dueNode(first(40) - 1, 37, placeOf("2 +"), NONE, 1, "2");
    dueNode(first(41), 41, placeOf(":b; a"), NONE, 2, ":");
    dueNode(first(41) + 4, 41, placeOf(":b:c"), placeOf(":c;"), 3, ":");
  }

  /** "How many nodes the tree has; 0 when there is none." */
  private static void nodes() {
    due("nodes() without a tree", new Counted().nodes(), 0);
    due("nodes() behind a fault alone", Texts.read("a").nodes(), 0);
    due("nodes() of an empty program", Texts.read("").nodes(), 1);
    due("nodes() of return;", Texts.read("return;").nodes(), 2);
    due("nodes() of a;", Texts.read("a;").nodes(), 3);
    due("nodes() of ((a));", Texts.read("((a));").nodes(), 3);
    Counted object = Texts.read("a;");
    Texts.feed(object, "a + b;");
    object.read();
    due("nodes() of a larger tree", object.nodes(), 5);
    Texts.feed(object, "return;");
    object.read();
    due("nodes() of a smaller tree", object.nodes(), 2);
    due("node(2, 0) of a smaller tree", object.node(2, 0), NONE);
    due("part(1, 0) of a smaller tree", object.part(1, 0), NONE);
    due("character(2, 0) of a smaller tree", object.character(2, 0), NONE);
    object.read();
    due("nodes() of an empty program behind others", object.nodes(), 1);
  }

  /** "NONE when there is no such node or what." */
  private static void noSuchNode() {
    Counted object = Texts.read("a:b; f(1);");
    int[] wrongNodes = {8, 9, -1, -2, LARGEST, LEAST, LEAST + 8, 613566757};
    for (int k : wrongNodes) {
      for (int what = 0; what <= 3; what++) {
        due("node(" + k + ", " + what + ")", object.node(k, what), NONE);
      }
      due("part(" + k + ", 0)", object.part(k, 0), NONE);
      due("character(" + k + ", 0)", object.character(k, 0), NONE);
    }
    due("node(7, 0)", object.node(7, 0), 30);
    int[] wrongWhats = {4, 5, 6, 7, -1, -2, LARGEST, LEAST};
    for (int what : wrongWhats) {
      for (int k = 0; k <= 8; k++) {
        due("node(" + k + ", " + what + ")", object.node(k, what), NONE);
      }
    }
  }

  /** "second place (2, NONE when none is told)": a range's second ':', if it has one, and no other range's. */
  private static void secondPlaces() {
    dueTree("a:b;", "0@0(20@0{a}(41@1{:}(32@0{a} 32@2{b})))");
    dueTree("a:b:c;", "0@0(20@0{a}(41@1/3{:}(32@0{a} 32@2{b} 32@4{c})))");
    dueTree("(a:b):c;", "0@0(20@0{(}(41@5{:}(41@2{:}(32@1{a} 32@3{b}) 32@6{c})))");
    dueTree("(a:b:c):d;", "0@0(20@0{(}(41@7{:}(41@2/4{:}(32@1{a} 32@3{b} 32@5{c}) 32@8{d})))");
    dueTree("a:(b:c):d;", "0@0(20@0{a}(41@1/7{:}(32@0{a} 41@4{:}(32@3{b} 32@5{c}) 32@8{d})))");
    dueTree("a:b==c:d;", "0@0(20@0{a}(40@3{==}(41@1{:}(32@0{a} 32@2{b}) 41@6{:}(32@5{c} 32@7{d}))))");
    dueTree("a(b) ;", "0@0(20@0{a}(33@0/1{a}(32@2{b})))");
    dueTree("a (  ) ;", "0@0(20@0{a}(33@0/2{a}))");
    dueTree(" a (1) = 1;", "0@0(21@7/1{=}(33@1/3{a}(30@4{1}) 30@9{1}))");
  }

  /** "Part i of a node, from 0: its number. NONE when there is none." */
  private static void parts() {
    Counted object = Texts.read("f(1, g(2, 3), [4, 5]);");
    due("part(2, 0)", object.part(2, 0), 3);
    due("part(2, 1)", object.part(2, 1), 4);
    due("part(2, 2)", object.part(2, 2), 7);
    int[] wrong = {3, 4, -1, -2, LARGEST, LEAST};
    for (int i : wrong) {
      due("part(2, " + i + ")", object.part(2, i), NONE);
      due("part(3, " + i + ")", object.part(3, i), NONE);
      due("part(-1, " + i + ")", object.part(-1, i), NONE);
    }
    due("part(3, 0) of a numeral", object.part(3, 0), NONE);
    due("part(0, 0)", object.part(0, 0), 1);
    due("part(0, 1)", object.part(0, 1), NONE);
    Counted none = new Counted();
    due("part(0, -1) without a tree", none.part(0, -1), NONE);
    due("part(-1, -1) without a tree", none.part(-1, -1), NONE);
    Counted many = Texts.read("a;".repeat(4000));
    due("part(0, 3999) of 4000", many.part(0, 3999), 7999);
    due("part(0, 4000) of 4000", many.part(0, 4000), NONE);
  }

  /** "Character i of a node's token (of a TEXT with both its signs "), from 0; NONE when there is none." */
  private static void characters() {
    Counted object = Texts.read("\"ab\" == name_1;");
    due("character(3, -1)", object.character(3, -1), NONE);
    due("character(3, 0)", object.character(3, 0), (int) '"');
    due("character(3, 1)", object.character(3, 1), (int) 'a');
    due("character(3, 3)", object.character(3, 3), (int) '"');
    due("character(3, 4)", object.character(3, 4), NONE);
    due("character(2, 1)", object.character(2, 1), (int) '=');
    due("character(2, 2)", object.character(2, 2), NONE);
    due("character(4, 5)", object.character(4, 5), (int) '1');
    due("character(4, 6)", object.character(4, 6), NONE);
    int[] wrong = {-1, LEAST, LARGEST, LEAST + 1, 65536, 1 << 30};
    for (int i : wrong) {
      for (int k = -1; k <= 5; k++) {
        due("character(" + k + ", " + i + ")", object.character(k, i), NONE);
      }
    }
    Counted empty = Texts.read("\"\";");
    due("character(2, 1) of an empty TEXT", empty.character(2, 1), (int) '"');
    due("character(2, 2) of an empty TEXT", empty.character(2, 2), NONE);
    Counted longest = Texts.read("\"" + "t".repeat(4096) + "\";");
    due("character(2, 4096) of the longest TEXT", longest.character(2, 4096), (int) 't');
    due("character(2, 4097) of the longest TEXT", longest.character(2, 4097), (int) '"');
    due("character(2, 4098) of the longest TEXT", longest.character(2, 4098), NONE);
    Counted last = Texts.read("a;return ;");
    due("character(3, 5) at the tape's end", last.character(3, 5), (int) 'n');
    due("character(3, 6) at the tape's end", last.character(3, 6), NONE);
  }

  /** "Brackets '(' or ')' of an item have no node; what is in them stands for them." */
  private static void brackets() {
    dueTree("(a);", "0@0(20@0{(}(32@1{a}))");
    dueTree("[(a), b; (-c)];",
        "0@0(20@0{[}(36@0{[}(37@1{(}(32@2{a} 32@6{b}) 37@9{(}(39@10{-}(32@11{c})))))");
    dueTree("((a)+(b));", "0@0(20@0{(}(40@4{+}(32@2{a} 32@6{b})))");
    dueTree("a^(-b);", "0@0(20@0{a}(40@1{^}(32@0{a} 39@3{-}(32@4{b}))))");
    dueTree("f((a));", "0@0(20@0{f}(33@0/1{f}(32@3{a})))");
    dueTree("if ((a)) end", "0@0(11@0{if}(32@5{a} 3@7))");
  }

  /** Results and parameters that are none, one and more; the place of the NAMES is told even so. */
  private static void namesOfFunctions() {
    dueTree("function f() end", "0@0(1@0{f}(2@9 2@10 3@11))");
    dueTree("function a = f(b) end", "0@0(1@0{f}(2@13(32@9{a}) 2@14(32@15{b}) 3@16))");
    dueTree("function [a] = f(b, c) end", "0@0(1@0{f}(2@15(32@10{a}) 2@16(32@17{b} 32@20{c}) 3@21))");
    dueTree("function [a, b] = f() end", "0@0(1@0{f}(2@18(32@10{a} 32@13{b}) 2@19 3@20))");
    Counted eight = Texts.read("function [a,b,c,d,e,f,g,h]=z(a,b,c,d,e,f,g,h) end");
    due("node(2, 3) of eight results", eight.node(2, 3), 8);
    due("part(2, 7) of eight results", eight.part(2, 7), 10);
    due("part(2, 8) of eight results", eight.part(2, 8), NONE);
    due("node(11, 3) of eight parameters", eight.node(11, 3), 8);
    due("part(11, 7) of eight parameters", eight.part(11, 7), 19);
  }

  /** A node's token is whole, be it of one character or of more: at the beginning of rows and statements, and before brackets. */
  private static void longTokens() {
    dueTree("[abc, d; 12.5e1];", "0@0(20@0{[}(36@0{[}(37@1{abc}(32@1{abc} 32@6{d}) 37@9{12.5e1}(30@9{12.5e1}))))");
    dueTree("abc;", "0@0(20@0{abc}(32@0{abc}))");
    dueTree("abc(1);", "0@0(20@0{abc}(33@0/3{abc}(30@4{1})))");
    dueTree("[abc] = def(1);", "0@0(10@6/0{=}(2@0(32@1{abc}) 33@8/11{def}(30@12{1})))");
    dueTree(" [ab, cd] = ef();", "0@0(10@10/1{=}(2@1(32@2{ab} 32@6{cd}) 33@12/14{ef}))");
    dueTree(" [ab, ~, cd] = ef();", "0@0(10@13/1{=}(2@1(32@2{ab} 5@6{~} 32@9{cd}) 33@15/17{ef}))");
    dueTree("function ab = cde(fg) end", "0@0(1@0{cde}(2@14(32@9{ab}) 2@17(32@18{fg}) 3@20))");
  }

  /** Trees as deep and as broad as 512 calls can make them. */
  private static void largeTrees() {
    Counted turned = Texts.read("a" + "'".repeat(10000) + ";");
    due("nodes() of 10000 turns", turned.nodes(), 10003);
    due("node(2, 1) of 10000 turns", turned.node(2, 1), 10000);
    due("part(10001, 0) of 10000 turns", turned.part(10001, 0), 10002);
    due("write() of 10000 turns", turned.write(), 10003);
    Counted sum = Texts.read("a" + "+a".repeat(5000) + ";");
    due("nodes() of 5000 sums", sum.nodes(), 10003);
    due("node(5001, 1) of 5000 sums", sum.node(5001, 1), 1);
    due("part(2, 1) of 5000 sums", sum.part(2, 1), 10002);
    Counted rows = Texts.read("[a" + ";a".repeat(5000) + "];");
    due("node(2, 3) of 5001 rows", rows.node(2, 3), 5001);
    due("part(2, 5000) of 5001 rows", rows.part(2, 5000), 10003);
    Counted tries = Texts.read("try catch end ".repeat(700));
    due("nodes() of 700 try", tries.nodes(), 2101);
    due("part(0, 699) of 700 try", tries.part(0, 699), 2098);
  }

  public static void main(String[] args) {
    everyKindOfNode();
    everyKindOfValue();
    nodes();
    noSuchNode();
    secondPlaces();
    parts();
    characters();
    brackets();
    namesOfFunctions();
    longTokens();
    largeTrees();
    finish();
  }
}
