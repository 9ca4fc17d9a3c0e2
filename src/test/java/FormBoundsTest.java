/** The sentences of promises 10 and 11 that name a bound, and those of 'Terms' about RANKS and the one form that they use. */
public final class FormBoundsTest extends Checks {
  /** For each rank from 1 the operations of two that have it. */
  private static final String[][] OPERATIONS = {{}, {"||"}, {"&&"}, {"==", "~=", "<", "<=", ">", ">="}, {}, {"+", "-"},
      {"*", "/", "\\", ".*", "./"}, {}, {"^", ".^"}};
  /** For each rank from 1 parts in their one form that have it. */
  private static final String[][] PARTS = {{}, {"a || b"}, {"a && b"}, {"a == b", "a ~= b", "a < b", "a <= b", "a > b", "a >= b"},
      {"a:b", "a:b:c"}, {"a + b", "a - b"}, {"a * b", "a / b", "a \\ b", "a .* b", "a ./ b"},
      {"-a", "+a", "~a", "-a'", "-f(1)", "-[1]", "-a^b", "--a", "-(a * b)", "-(a + b)", "-(a || b)", "+a'", "~a^b"},
      {"a^b", "a.^b", "a^-b"},
      {"a'", "a''", "f(1)'", "(a + b)'"}, {"a", "1", "2.5e1", "\"t\"", "f()", "f(1, :)", "f(end)", "[]", "[1, 2; 3]"}};

  private static String bracketed(boolean needed, String part) {
    return needed ? "(" + part + ")" : part;
  }

  private static String operation(int rank, String operation) {
    return rank == 8 ? operation : " " + operation + " ";
  }

  /** "a '-' of a part with rank 9 or more", of those above. */
  private static boolean isMinusOfTightPart(String part) {
    return part.equals("-a") || part.equals("-a'") || part.equals("-f(1)") || part.equals("-[1]");
  }

  /** "Of an operation of two, the left part needs its rank at least, the right one more; but behind ^ and .^ (..)" */
  private static void partsOfOperations() {
    for (int rank = 1; rank <= 8; rank++) {
      for (String sign : OPERATIONS[rank]) {
        String between = operation(rank, sign);
        for (int ofPart = 1; ofPart <= 10; ofPart++) {
          for (String part : PARTS[ofPart]) {
            boolean standsBehind = ofPart > rank || rank == 8 && isMinusOfTightPart(part);
            dueForm("(" + part + ")" + sign + "z;", bracketed(ofPart < rank, part) + between + "z;\n");
            dueForm("z" + sign + "(" + part + ");", "z" + between + bracketed(!standsBehind, part) + ";\n");
          }
        }
      }
    }
  }

  /** "A range's parts need 5, a sign's 7, TURN's 9" */
  private static void partsOfOthers() {
    for (int rank = 1; rank <= 10; rank++) {
      for (String part : PARTS[rank]) {
        String ofRange = bracketed(rank < 5, part);
        dueForm("(" + part + "):z;", ofRange + ":z;\n");
        dueForm("z:(" + part + ");", "z:" + ofRange + ";\n");
        dueForm("(" + part + "):(" + part + "):(" + part + ");", ofRange + ":" + ofRange + ":" + ofRange + ";\n");
        for (String sign : new String[] {"-", "+", "~"}) {
          dueForm(sign + "(" + part + ");", sign + bracketed(rank < 7, part) + ";\n");
        }
        dueForm("(" + part + ")';", bracketed(rank < 9, part) + "';\n");
      }
    }
  }

  /** "all others 1": no other part is ever in brackets. */
  private static void partsWithoutBrackets() {
    for (int rank = 1; rank <= 10; rank++) {
      for (String part : PARTS[rank]) {
        String inBrackets = "((" + part + "))";
        dueForm(inBrackets + ";", part + ";\n");
        dueForm("x=" + inBrackets + ";", "x = " + part + ";\n");
        dueForm("x(" + inBrackets + ")=1;", "x(" + part + ") = 1;\n");
        dueForm("f(" + inBrackets + ",z);", "f(" + part + ", z);\n");
        dueForm("f(z," + inBrackets + ");", "f(z, " + part + ");\n");
        dueForm("[q]=f(" + inBrackets + ");", "[q] = f(" + part + ");\n");
        dueForm("[" + inBrackets + "," + inBrackets + ";z];", "[" + part + ", " + part + "; z];\n");
        dueForm("print" + inBrackets + "," + inBrackets + ";", "print " + part + ", " + part + ";\n");
        dueForm("show" + inBrackets + ";", "show " + part + ";\n");
        dueForm("if(" + inBrackets + ")elseif(" + inBrackets + ")end", "if (" + part + ")\nelseif (" + part + ")\nend\n");
        dueForm("while(" + inBrackets + ")end", "while (" + part + ")\nend\n");
        dueForm("for(k=" + inBrackets + ")end", "for (k = " + part + ")\nend\n");
      }
    }
  }

  /** Behind ^ and .^ it is the rank of the part of the '-' that counts, not how the text had it. */
  private static void minusBehindPowers() {
    for (String power : new String[] {"^", ".^"}) {
      dueForm("a" + power + "-b;", "a" + power + "-b;\n");
      dueForm("a" + power + "(-b);", "a" + power + "-b;\n");
      dueForm("a" + power + "-(b);", "a" + power + "-b;\n");
      dueForm("a" + power + "-b';", "a" + power + "-b';\n");
      dueForm("a" + power + "-(b^c)';", "a" + power + "-(b^c)';\n");
      dueForm("a" + power + "-(b^c);", "a" + power + "(-b^c);\n");
      dueForm("a" + power + "(-b^c);", "a" + power + "(-b^c);\n");
      dueForm("a" + power + "-(-b);", "a" + power + "(--b);\n");
      dueForm("a" + power + "-(b*c);", "a" + power + "(-(b * c));\n");
      dueForm("a" + power + "-(b+c);", "a" + power + "(-(b + c));\n");
      dueForm("a" + power + "-(b:c);", "a" + power + "(-(b:c));\n");
      dueForm("a" + power + "-(b==c);", "a" + power + "(-(b == c));\n");
      dueForm("a" + power + "-(b&&c);", "a" + power + "(-(b && c));\n");
      dueForm("a" + power + "-(b||c);", "a" + power + "(-(b || c));\n");
      dueForm("a" + power + "-b" + power + "c;", "a" + power + "-b" + power + "c;\n");
      dueForm("(-a)" + power + "b;", "(-a)" + power + "b;\n");
      dueForm("-a" + power + "b;", "-a" + power + "b;\n");
      dueForm("(a" + power + "-b)';", "(a" + power + "-b)';\n");
    }
    dueForm("a*-b;", "a * -b;\n");
    dueForm("a-(-b);", "a - -b;\n");
  }

  /** The form by the ranks has three levels where a^-(b+ ..) has one: it is read as long as these are not over 60. */
  private static void powersInOneAnother() {
    for (int powers = 1; powers <= 20; powers += 19) {
      dueForm("a^-(b+".repeat(powers) + "c" + ")".repeat(powers) + ";", "a^(-(b + ".repeat(powers) + "c" + "))".repeat(powers) + ";\n");
    }
    Counted object = Texts.write("a^-(b+".repeat(21) + "c" + ")".repeat(21) + ";");
    due("rewind() of 21 powers", object.rewind(), 21 * 11 + 3);
    due("read() of 63 levels", object.read(), NONE);
    due("place() of the 61st level", object.place(), 20 * 9 + 2);
  }

  /** "lines, each with two blanks for each FUNCTION and each BLOCK of a statement that it lies in, and character 10 at its end" */
  private static void indents() {
    dueForm("return;", "return;\n");
    dueForm("function f() return; end", "function f()\n  return;\nend\n");
    dueForm("if (a) b; end", "if (a)\n  b;\nend\n");
    dueForm("function f() if (a) b; elseif (c) d; else e; end end",
        "function f()\n  if (a)\n    b;\n  elseif (c)\n    d;\n  else\n    e;\n  end\nend\n");
    dueForm("while (a) while (b) c; end d; end e;", "while (a)\n  while (b)\n    c;\n  end\n  d;\nend\ne;\n");
    dueForm("for (k = a) try b; catch c; end end", "for (k = a)\n  try\n    b;\n  catch\n    c;\n  end\nend\n");
    String[] plain = {"a", "a = b", "a(1) = b", "[a, ~] = f()", "break", "continue", "return", "print a", "show a, b"};
    for (String statement : plain) {
      dueForm("while(1)" + statement + ";end", "while (1)\n  " + statement + ";\nend\n");
      dueForm("function g()for(k=1)" + statement + ";end end", "function g()\n  for (k = 1)\n    " + statement + ";\n  end\nend\n");
    }
    for (int trys = 59; trys <= 60; trys++) {
      StringBuilder opened = new StringBuilder();
      StringBuilder closed = new StringBuilder();
      for (int level = 0; level < trys; level++) {
        opened.append("  ".repeat(level)).append("try\n");
        closed.insert(0, "  ".repeat(level) + "catch\n" + "  ".repeat(level + 1) + "c;\n" + "  ".repeat(level) + "end\n");
      }
      dueForm("try ".repeat(trys) + "b;" + " catch c; end".repeat(trys), opened + "  ".repeat(trys) + "b;\n" + closed);
    }
  }

  /** Statements and lists that are empty, have one and have more. */
  private static void emptyAndMore() {
    dueForm("", "");
    dueForm(" % nothing\n", "");
    dueForm("function f() end", "function f()\nend\n");
    dueForm("function a=f(b) end", "function a = f(b)\nend\n");
    dueForm("function [a]=f(b,c) end", "function a = f(b, c)\nend\n");
    dueForm("function [a,b]=f() end", "function [a, b] = f()\nend\n");
    dueForm("function [a,b,c,d,e,f,g,h]=z(a,b,c,d,e,f,g,h) end",
        "function [a, b, c, d, e, f, g, h] = z(a, b, c, d, e, f, g, h)\nend\n");
    dueForm("if(a)end", "if (a)\nend\n");
    dueForm("if(a)else end", "if (a)\nelse\nend\n");
    dueForm("if(a)elseif(b)end", "if (a)\nelseif (b)\nend\n");
    dueForm("if(a)elseif(b)else end", "if (a)\nelseif (b)\nelse\nend\n");
    dueForm("try catch end", "try\ncatch\nend\n");
    dueForm("[a]=f();[~]=f(1);[~,b]=f(1,2);", "[a] = f();\n[~] = f(1);\n[~, b] = f(1, 2);\n");
    dueForm("[~,~,~,~,~,~,~,a]=f(1,2,3,4,5,6,7,8);", "[~, ~, ~, ~, ~, ~, ~, a] = f(1, 2, 3, 4, 5, 6, 7, 8);\n");
    dueForm("print 1;print 1,2,3,4,5,6,7,8;", "print 1;\nprint 1, 2, 3, 4, 5, 6, 7, 8;\n");
    dueForm("show\"\";while(1)break;continue;end", "show \"\";\nwhile (1)\n  break;\n  continue;\nend\n");
    dueForm("f();f(1);f(:);f(:,end);", "f();\nf(1);\nf(:);\nf(:, end);\n");
    dueForm("[];[1];[1,2];[1;2];", "[];\n[1];\n[1, 2];\n[1; 2];\n");
  }

  /** "A NUMERAL and a TEXT as on the tape." */
  private static void tokensAsOnTheTape() {
    dueForm("00.10e+05+0e0;", "00.10e+05 + 0e0;\n");
    dueForm("\"  ( % )  \";", "\"  ( % )  \";\n");
    dueForm("2.^2;2 .*2;", "2.^2;\n2 .* 2;\n");
    String name = "n".repeat(255);
    dueForm(name + "=" + name + ";", name + " = " + name + ";\n");
    String text = "\"" + "~".repeat(4096) + "\"";
    dueForm(text + ";", text + ";\n");
  }

  /** "how many characters. NONE, and what was written before stays, when there are more than 65536" */
  private static void longForms() {
    for (int length = 65535; length <= 65536; length++) {
      Counted object = Texts.write(Texts.withForm(length));
      due("write() of " + length, object.write(), length);
      due("written(0) of " + length, object.written(0), (int) 't');
      due("written(last) of " + length, object.written(length - 1), 10);
      due("written(length) of " + length, object.written(length), NONE);
      due("rewind() of " + length, object.rewind(), length);
      due("read() of a form of " + length + " stands", object.read() != NONE, true);
      due("write() of a form of " + length, object.write(), length);
    }
    for (int length = 65537; length <= 65538; length++) {
      Counted object = Texts.write("ab;");
      Texts.feed(object, Texts.withForm(length));
      due("read() of a text with " + length + " stands", object.read() != NONE, true);
      due("write() of " + length, object.write(), NONE);
      dueWritten("ab;\n", object);
      due("write() of " + length + " again", object.write(), NONE);
      due("rewind() behind " + length, object.rewind(), 4);
      due("read() behind " + length, object.read(), 2);
      due("write() behind " + length, object.write(), 4);
    }
  }

  private static void dueWritten(String form, Counted object) {
    for (int i = 0; i < form.length(); i++) {
      due("written(" + i + ")", object.written(i), (int) form.charAt(i));
    }
    due("written(" + form.length() + ")", object.written(form.length()), NONE);
  }

  /** What was written stays behind a form that is far too long, also a full one; and so it does for a new object. */
  private static void farTooLong() {
    String far = "try ".repeat(59) + "a;".repeat(2000) + "catch end ".repeat(59);
    Counted object = Texts.write(far);
    due("write() of far too much", object.write(), NONE);
    due("written(0) behind far too much", object.written(0), NONE);
    due("rewind() behind far too much", object.rewind(), 0);
    Texts.feed(object, "a;");
    object.read();
    due("write() of little behind far too much", object.write(), 3);
    dueWritten("a;\n", object);
    Counted full = Texts.write(Texts.withForm(65536));
    Texts.feed(full, far);
    full.read();
    due("write() of far too much behind a full form", full.write(), NONE);
    due("written(65535) behind far too much", full.written(65535), 10);
    due("written(65536) behind far too much", full.written(65536), NONE);
    due("rewind() of a full form behind far too much", full.rewind(), 65536);
  }

  /** "or there is no tree": also behind faults alone; a fault behind a tree leaves the tree to be written. */
  private static void noTree() {
    Counted object = new Counted();
    due("write() of a new object", object.write(), NONE);
    Texts.feed(object, "a;");
    due("write() before read()", object.write(), NONE);
    object.rewind();
    Texts.feed(object, "a");
    object.read();
    due("write() behind a fault", object.write(), NONE);
    due("written(0) behind a fault", object.written(0), NONE);
    object.read();
    due("write() of an empty program", object.write(), 0);
    due("written(0) of an empty program", object.written(0), NONE);
    Texts.feed(object, "a;");
    object.read();
    Texts.feed(object, "bcd");
    object.read();
    due("write() of a tree behind a fault", object.write(), 3);
    dueWritten("a;\n", object);
  }

  /** "Character i of what was written; NONE when there is none." */
  private static void written() {
    Counted object = Texts.write("a + b;");
    dueWritten("a + b;\n", object);
    int[] wrong = {-1, -2, 7, 8, 127, 128, 65535, 65536, LARGEST, LEAST, LEAST + 6};
    for (int i : wrong) {
      due("written(" + i + ")", object.written(i), NONE);
    }
    Texts.feed(object, "c;");
    object.read();
    dueWritten("a + b;\n", object);
    due("write() of a shorter form", object.write(), 3);
    dueWritten("c;\n", object);
    object.read();
    due("write() of an empty form", object.write(), 0);
    dueWritten("", object);
    Texts.feed(object, "d = e;");
    object.read();
    dueWritten("", object);
    due("write() of a longer form", object.write(), 7);
    dueWritten("d = e;\n", object);
  }

  public static void main(String[] args) {
    partsOfOperations();
    partsOfOthers();
    partsWithoutBrackets();
    minusBehindPowers();
    powersInOneAnother();
    indents();
    emptyAndMore();
    tokensAsOnTheTape();
    longForms();
    farTooLong();
    noTree();
    written();
    finish();
  }
}
