/** The sentence of 'Terms' about DEPTH, part by part, for promises 4 and 5: 60 levels stand, the 61st does not. */
public final class LevelBoundsTest extends Checks {
  private static final String[] SIGNS = {"-", "+", "~"};

  private static String inTrys(int trys, String statement) {
    return "try ".repeat(trys) + statement + " catch end".repeat(trys);
  }

  /** A statement of so many tokens that can stand in so many try. */
  private static void dueInTrys(int trys, String statement, int tokens) {
    dueRight(inTrys(trys, statement), 3 * trys + tokens);
  }

  private static void dueFaultInTrys(int trys, String marked) {
    dueFault(inTrys(trys, marked));
  }

  /** "each open '(' or '['": one in another, up to the 60th. */
  private static void nestedBrackets() {
    for (int levels = 59; levels <= 60; levels++) {
      dueRight("x=" + "(".repeat(levels) + "a" + ")".repeat(levels) + ";", 2 * levels + 4);
      dueRight("x=" + "[".repeat(levels) + "]".repeat(levels) + ";", 2 * levels + 3);
      dueRight("[".repeat(levels) + "a" + "]".repeat(levels) + ";", 2 * levels + 2);
      dueRight("f(".repeat(levels) + ")".repeat(levels) + ";", 3 * levels + 1);
      dueRight("[x]=" + "f(".repeat(levels) + "a" + ")".repeat(levels) + ";", 3 * levels + 6);
      dueRight("print " + "(".repeat(levels) + "a" + ")".repeat(levels) + ";", 2 * levels + 3);
    }
    for (String open : new String[] {"(", "[", "f("}) {
      for (String next : new String[] {"(a", "[a", "[]", "-a", "+a", "~a"}) {
        dueFault("x=" + open.repeat(60) + "`" + next);
      }
      dueFault("x=" + open.repeat(60) + "a`(1)");
      dueFault("x=" + open.repeat(60) + "a`()");
    }
    dueFault("[".repeat(60) + "`[a");
    dueFault("[x]=" + "f(".repeat(60) + "`(a");
  }

  /** "each open '(' or '['": those of every statement, as the 60th and as the 61st level. */
  private static void bracketsOfStatements() {
    dueInTrys(59, "(a);", 4);
    dueFaultInTrys(60, "`(a);");
    dueInTrys(59, "[a];", 4);
    dueFaultInTrys(60, "`[a];");
    dueInTrys(59, "[];", 3);
    dueFaultInTrys(60, "`[];");
    dueInTrys(59, "a(1);", 5);
    dueFaultInTrys(60, "a`(1);");
    dueInTrys(59, "a() + a();", 8);
    dueFaultInTrys(60, "a`();");
    dueInTrys(59, "a(1) = a(2);", 10);
    dueFaultInTrys(60, "a`(1) = 2;");
    dueFaultInTrys(60, "b = a`(1);");
    dueInTrys(59, "[a] = f(1);", 9);
    dueFaultInTrys(60, "`[a] = f(1);");
    dueInTrys(58, "[a] = f((1));", 11);
    dueFaultInTrys(59, "[a] = f(`(1));");
    dueFaultInTrys(59, "[a] = f(g`(1));");
    dueInTrys(59, "print (a), [b], f(c);", 14);
    dueFaultInTrys(60, "print `(a);");
    dueFaultInTrys(60, "show a, `[b];");
    dueInTrys(60, "a = b + c';", 7);
    dueInTrys(60, "print a, b;", 5);
    dueInTrys(60, "return;", 2);
  }

  /** "each if, while, for and try (with all up to its end)": the word is a level, and its '(' another one. */
  private static void blocks() {
    dueInTrys(59, "try catch end", 3);
    dueFaultInTrys(60, "`try catch end");
    dueInTrys(58, "if (1) a; elseif (1) b; else c; end", 16);
    dueFaultInTrys(59, "if `(1) end");
    dueFaultInTrys(60, "`if (1) end");
    dueFaultInTrys(58, "if (`(1)) end");
    dueFaultInTrys(58, "if (1) elseif (`(1)) end");
    dueInTrys(58, "while (1) break; end", 7);
    dueFaultInTrys(59, "while `(1) end");
    dueFaultInTrys(60, "`while (1) end");
    dueFaultInTrys(58, "while (`-1) end");
    dueInTrys(58, "for (k = 1) continue; end", 9);
    dueFaultInTrys(59, "for `(k = 1) end");
    dueFaultInTrys(60, "`for (k = 1) end");
    dueFaultInTrys(58, "for (k = `[1]) end");
    for (String head : new String[] {"if (1) ", "while (1) ", "for (k = 1) "}) {
      int tokens = head.startsWith("for") ? 6 : 4;
      dueRight(head.repeat(59) + "a; " + "end ".repeat(59), 59 * (tokens + 1) + 2);
      dueRight(head.repeat(59) + "(a); " + "end ".repeat(59), 59 * (tokens + 1) + 4);
      dueFault(head.repeat(59) + "(`(a));");
      dueFault(head.repeat(59) + head.replace("(", "`("));
    }
  }

  /** A level of blocks lasts up to the end, in each of its blocks; then it is free again. */
  private static void blocksThatEnd() {
    dueInTrys(57, "if (1) (a); elseif (1) (a); else (a); end", 22);
    dueFaultInTrys(58, "if (1) (`(a)); end");
    dueFaultInTrys(58, "if (1) elseif (1) (`(a)); end");
    dueFaultInTrys(58, "if (1) else (`(a)); end");
    dueInTrys(58, "if (1) (a); elseif (1) (a); else (a); end", 22);
    dueFaultInTrys(58, "while (1) (`(a)); end");
    dueFaultInTrys(58, "for (k = 1) (`(a)); end");
    dueFaultInTrys(59, "try `(a); catch end");
    dueFaultInTrys(59, "try catch `(a); end");
    dueInTrys(58, "if (1) end while (1) end for (k = 1) end ((a));", 23);
    dueInTrys(59, "try catch end try catch end (a); [a]; -a;", 17);
    dueFaultInTrys(59, "try catch end try `try");
    dueRight((inTrys(60, "a;") + " ").repeat(2), 2 * 182);
    dueFault(inTrys(60, "a;") + " " + inTrys(60, "`try "));
    dueRight("try catch end ".repeat(100), 300);
    dueRight("(a);".repeat(100), 400);
    dueRight("if (1) end ".repeat(100), 500);
    dueRight("a = " + "(b)+".repeat(100) + "c;", 404);
    dueRight("a = [" + "(b),".repeat(100) + "[c];[]" + "];", 400 + 11);
  }

  /** "each function": it is the first level of all that is in it, and is free behind its end. */
  private static void functions() {
    dueRight("function f() " + inTrys(59, "a;") + " end", 177 + 7);
    dueFault("function f() " + inTrys(59, "`try"));
    dueFault("function f() " + inTrys(59, "a`(1);"));
    dueFault("function x = f(a, b) " + inTrys(59, "`-a;"));
    dueFault("function [x, y] = f(a, b) " + inTrys(59, "`[a];"));
    dueRight("function [x, y] = f(a, b) " + inTrys(59, "a;") + " end", 177 + 16);
    dueRight("function [x] = f(a) end " + inTrys(60, "a;"), 182 + 10);
    dueFault("function [x] = f(a) end " + inTrys(60, "`(a);"));
    dueRight("function f() end function g() end " + inTrys(60, "a;"), 182 + 10);
    dueFault("function f() end function g() " + inTrys(59, "`try"));
  }

  /** "each sign of 'signed'": up to the 60th, alone and mixed with other levels. */
  private static void signs() {
    for (String sign : SIGNS) {
      for (int levels = 59; levels <= 60; levels++) {
        dueRight(sign.repeat(levels) + "a;", levels + 2);
        dueRight("x = " + sign.repeat(levels) + "1;", levels + 4);
      }
      for (String next : SIGNS) {
        dueFault(sign.repeat(60) + "`" + next + "a;");
      }
      dueFault(sign.repeat(60) + "`(a);");
      dueFault(sign.repeat(60) + "`[a];");
      dueFault(sign.repeat(60) + "a`(1);");
      dueInTrys(59, sign + "a;", 3);
      dueFaultInTrys(60, "`" + sign + "a;");
      dueFaultInTrys(59, sign + "`" + sign + "a;");
      dueFaultInTrys(59, sign + "`(a);");
    }
    dueRight("-+~".repeat(20) + "a;", 62);
    dueFault("-+~".repeat(20) + "`~a;");
    dueRight("x=" + "-(".repeat(30) + "a" + ")".repeat(30) + ";", 94);
    dueFault("x=" + "-(".repeat(30) + "`-");
    dueFault("x=" + "-[".repeat(30) + "a, `(");
  }

  /** "until the first item behind it is over": each kind of item ends the signs before it, and none before its own end. */
  private static void signsThatEnd() {
    String signs = "-".repeat(60);
    for (String item : new String[] {"1", "\"t\"", "a"}) {
      dueRight(signs + item + "*(b);", 66);
      dueRight(signs + item + "^(b);", 66);
      dueRight(signs + item + "'+[b];", 67);
      dueRight(signs + item + " == " + signs + "b;", 124);
      dueRight(signs + item + ":" + signs + "b:" + signs + "c;", 186);
      dueFault(signs + item + " + " + signs + "`-b;");
    }
    dueRight("f(" + "-".repeat(59) + "end*(1));", 3 + 59 + 6);
    dueFault("f(" + "-".repeat(59) + "`-end);");
    String fewer = "-".repeat(59);
    dueRight(fewer + "(a)^(b);", 67);
    dueRight(fewer + "[a]^(b);", 67);
    dueRight(fewer + "[]^(b);", 66);
    dueRight(fewer + "a(1)^[b];", 68);
    dueRight(fewer + "a()^[b];", 67);
    dueRight(fewer + "(a)^" + "(".repeat(60) + "b" + ")".repeat(60) + ";", 185);
    dueFault(fewer + "(a)^" + "(".repeat(60) + "`(b");
    dueRight(fewer + "a(1)^" + "(".repeat(60) + "b" + ")".repeat(60) + ";", 186);
    dueFault(fewer + "a(1)^" + "(".repeat(60) + "`[b");
    dueRight("-".repeat(58) + "[-a]^" + "(".repeat(60) + "b" + ")".repeat(60) + ";", 185);
    dueFault(fewer + "(a + `(b));");
    dueFault(fewer + "[a, `(b)];");
    dueFault(fewer + "a(1, `-b);");
    dueFault(fewer + "(`-a);");
    dueFault("-".repeat(58) + "(-a + -b + (`-c));");
    dueRight("-".repeat(58) + "(-a + -b + (c));", 58 + 12);
  }

  /** "(the '-' behind '^' and '.^' is no level)" */
  private static void minusBehindPowers() {
    for (String power : new String[] {"^", ".^"}) {
      dueRight("x=" + "(".repeat(60) + "a" + power + "-b" + ")".repeat(60) + ";", 127);
      dueInTrys(60, "a" + power + "-b" + power + "-c;", 8);
      dueInTrys(59, "a" + power + "-(b);", 7);
      dueInTrys(59, "a" + power + "-b(1);", 8);
      dueInTrys(59, "-a" + power + "-[b];", 8);
      dueFaultInTrys(60, "a" + power + "-`(b);");
      dueFaultInTrys(60, "a" + power + "-b`(1);");
      dueFaultInTrys(59, "a" + power + "(`-b);");
      dueRight("-".repeat(60) + "a" + power + "-b;", 65);
      dueRight("-".repeat(60) + "a" + power + "-(b);", 67);
      dueRight("a" + (power + "-b").repeat(100) + ";", 302);
    }
  }

  /** A '~' that is a target is no sign of 'signed', and so no level; one that is a sign is. */
  private static void targets() {
    dueInTrys(59, "[~, a] = f(1);", 11);
    dueInTrys(59, "[a, ~] = f(1);", 11);
    dueInTrys(59, "[~, ~] = f();", 10);
    dueInTrys(58, "[~, a] = f((1));", 13);
    dueInTrys(58, "[~a];", 5);
    dueInTrys(58, "[a, ~b];", 7);
    dueFaultInTrys(59, "[~ `b];");
    dueFaultInTrys(59, "[a, ~ `b];");
    dueFaultInTrys(59, "[~ `~b];");
    dueFaultInTrys(58, "[~ `~b];");
    dueFaultInTrys(59, "[`-b];");
    dueFaultInTrys(59, "[1, `~b];");
    dueFaultInTrys(59, "[a; `~b];");
    dueFaultInTrys(59, "[a`(1)];");
    dueFaultInTrys(59, "[~, a] `+ 1;");
    dueFaultInTrys(60, "`[~] = f();");
    dueFaultInTrys(59, "[~] = f(`-1);");
    dueFaultInTrys(59, "x = [`~b];");
    dueFaultInTrys(59, "[a, b, c, d, e, f, g, h, `~];");
    dueInTrys(59, "[a, b, c, d, e, f, g, ~] = z();", 22);
  }

  /** Nothing of a text that was refused counts for the next one. */
  private static void behindFaults() {
    Counted object = new Counted();
    for (String open : new String[] {"try ".repeat(60) + "#", "(".repeat(61), "-".repeat(61), "x = a + b * -(-", "while (1) [~, "}) {
      Texts.feed(object, open);
      due("read() of " + open, object.read(), NONE);
      Texts.feed(object, inTrys(60, "a;"));
      due("read() of 60 levels behind " + open, object.read(), 182);
      Texts.feed(object, open);
      due("read() of " + open, object.read(), NONE);
      Texts.feed(object, "a;" + "(".repeat(61));
      object.read();
      due("place() of the 61st level behind " + open, object.place(), 62);
    }
  }

  public static void main(String[] args) {
    nestedBrackets();
    bracketsOfStatements();
    blocks();
    blocksThatEnd();
    functions();
    signs();
    signsThatEnd();
    minusBehindPowers();
    targets();
    behindFaults();
    finish();
  }
}
