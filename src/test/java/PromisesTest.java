/** Each promise of the document with ordinary inputs, the edges that it names, and wrong inputs. */
public final class PromisesTest {
  private static final int NONE = EquationText.NONE;
  private static int checks = 0;
  private static int wrong = 0;

  private static void due(String what, Object got, Object want) {
    checks++;
    if (!got.equals(want)) {
      wrong++;
      System.out.println(what + " answered " + got + ", due is " + want);
    }
  }

  private static String endAnswer(EquationText object, int n) {
    try {
      return "" + object.end(n);
    } catch (IllegalArgumentException refused) {
      return "refused";
    }
  }

  /** The fault of a text is where the only ` stands, which is not part of it. */
  private static void dueFault(String marked) {
    int place = marked.indexOf('`');
    String text = marked.substring(0, place) + marked.substring(place + 1);
    EquationText object = Texts.read("kept;");
    Texts.feed(object, text);
    due("read() of " + marked, object.read(), NONE);
    due("place() of " + marked, object.place(), place);
    due("nodes() behind " + marked, object.nodes(), 3);
    due("character(2, 0) behind " + marked, object.character(2, 0), (int) 'k');
  }

  private static EquationText dueRight(String text, int tokens) {
    EquationText object = Texts.read("`");
    Texts.feed(object, text);
    due("read() of " + text, object.read(), tokens);
    due("place() of " + text, object.place(), NONE);
    return object;
  }

  private static void dueTree(String text, String tree) {
    due("the tree of " + text, tree(Texts.read(text), 0), tree);
  }

  /** A node as kind@place, perhaps /second place, perhaps the token in braces, perhaps the parts in brackets. */
  private static String tree(EquationText object, int k) {
    StringBuilder tree = new StringBuilder();
    tree.append(object.node(k, 0)).append('@').append(object.node(k, 1));
    if (object.node(k, 2) != NONE) {
      tree.append('/').append(object.node(k, 2));
    }
    String token = Texts.token(object, k);
    tree.append(token.isEmpty() ? "" : "{" + token + "}");
    for (int i = 0; i < object.node(k, 3); i++) {
      tree.append(i == 0 ? "(" : " ").append(tree(object, object.part(k, i)));
    }
    return tree.append(object.node(k, 3) > 0 ? ")" : "").toString();
  }

  private static void dueForm(String text, String form) {
    EquationText object = Texts.read(text);
    int nodes = object.nodes();
    int length = object.write();
    due("the form of " + text, Texts.written(object, length), form);
    due("rewind() behind " + text, object.rewind(), form.length());
    object.read();
    due("place() in the form of " + text, object.place(), NONE);
    due("nodes() of the form of " + text, object.nodes(), nodes);
    due("write() of the form of " + text, object.write(), form.length());
  }

  private static void newObject() {
    EquationText object = new EquationText();
    due("nodes() at first", object.nodes(), 0);
    due("node(0, 0) at first", object.node(0, 0), NONE);
    due("part(0, 0) at first", object.part(0, 0), NONE);
    due("character(0, 0) at first", object.character(0, 0), NONE);
    due("place() at first", object.place(), NONE);
    due("write() at first", object.write(), NONE);
    due("written(0) at first", object.written(0), NONE);
    due("rewind() at first", object.rewind(), 0);
    due("end(0) at first", endAnswer(object, 0), "refused");
    due("NONE", EquationText.NONE, -1);
    due("read() at first", object.read(), 0);
    EquationText other = new EquationText();
    due("nodes() of another object", other.nodes(), 0);
  }

  private static void feed() {
    EquationText object = new EquationText();
    due("feed", object.feed(0x61202B20, 0x62202020, 0x3B202020, 0x20202020, 0x0A0A0A23), 20);
    due("feed", object.feed(-1, 0, 0, 0, 0), 40);
    due("read() of a + b; ... #", object.read(), NONE);
    due("place() of #", object.place(), 19);
    due("feed behind read", object.feed(0x20202020, 0x61FF2020, 0, 0, 0), 20);
    object.read();
    due("place() of character 255", object.place(), 5);
    due("feed", object.feed(0x80202020, 0, 0, 0, 0), 20);
    object.read();
    due("place() of character 128", object.place(), 0);
  }

  private static void end() {
    EquationText object = new EquationText();
    due("end(20) of an empty tape", endAnswer(object, 20), "refused");
    object.feed(0x613B623B, 0x633B643B, 0x653B663B, 0x673B683B, 0x693B6A3B);
    due("end(21)", endAnswer(object, 21), "refused");
    due("end(-1)", endAnswer(object, -1), "refused");
    due("end(largest)", endAnswer(object, Integer.MAX_VALUE), "refused");
    due("end(smallest)", endAnswer(object, Integer.MIN_VALUE), "refused");
    due("end(20)", endAnswer(object, 20), "20");
    due("end(19)", endAnswer(object, 19), "19");
    due("end(19) of 19", endAnswer(object, 19), "refused");
    due("end(0) of 19", endAnswer(object, 0), "refused");
    due("feed", object.feed(0x613B623B, 0x633B643B, 0x653B663B, 0x673B683B, 0x693B6A3B), 39);
    due("end(3)", endAnswer(object, 3), "22");
    due("end(10) again", endAnswer(object, 10), "12");
    due("read() of a;b;c;d;e;f;", object.read(), 12);
    object.feed(0, 0, 0, 0, 0);
    due("end(0)", endAnswer(object, 0), "0");
    due("read() of nothing", object.read(), 0);
  }

  private static void read() {
    dueRight("", 0);
    dueRight("  \t\r\n % all of it ( \"", 0);
    dueRight("a;%b\nc;", 4);
    dueRight("a1_B + Ab;", 4);
    dueRight("AZaz_09 = Z + z;", 6);
    dueRight("endif = iff + ends;", 6);
    dueRight("1.5e+10 + 2e-3 - 0.5;", 6);
    dueRight("1.*2./3.^4;", 8);
    dueRight("a<=b>=c==d~=e<f>g||h&&i;", 18);
    dueRight("\"%[ '~!\";", 2);
    dueRight("return;", 2);
    dueRight("f(1,2,3,4,5,6,7,8);", 19);
    dueRight("print 1,2,3,4,5,6,7,8;", 17);
    dueRight("[a,b,c,d,e,f,g,h] = z(1,2,3,4,5,6,7,8);", 37);
    dueRight("[a,b,c,d,e,f,g,h,i];", 20);
    dueRight("[~,~,~,~,~,~,~,~] = z();", 22);
    dueRight("function [a,b,c,d,e,f,g,h] = z(a,b,c,d,e,f,g,h) end", 38);
    dueRight("function f = f(f) end f = f(f);", 15);
    dueRight("function f() end function F() end", 10);
    dueRight("while (1) if (a) break; end try continue; catch break; end end", 19);
    dueRight("f(end, (end));", 9);
    dueRight("f([end, 1; end], end');", 14);
    dueRight("f(:, :);", 7);
    dueRight("f(g(:), 2, 3);", 12);
    EquationText object = dueRight("a = 1;", 4);
    Texts.feed(object, "b");
    due("read() of b", object.read(), NONE);
    due("nodes() of the tree before", object.nodes(), 4);
    due("read() of the tape behind a fault", object.read(), 0);
    due("nodes() of an empty program", object.nodes(), 1);
  }

  private static void tokenFaults() {
    dueFault("a `# b;");
    dueFault("a `| b;");
    dueFault("a `& b;");
    dueFault("a`.b;");
    dueFault("a`.';");
    dueFault("1`.;");
    dueFault("1`.e5;");
    dueFault("`.5;");
    dueFault("1`E5;");
    dueFault("1`e;");
    dueFault("1`e+;");
    dueFault("2`a;");
    dueFault("`_a;");
    dueFault("`!a;");
    dueFault("a; `\"open;");
    dueFault("a; `\"two\nlines\";");
    dueFault("a; `\"tab\t\";");
    dueFault("a; `\"\u007f\";");
    dueFault("a; `\u0000");
    dueFault("a; `\u000b");
    dueFault("a; `\f");
    dueFault("a; `\u00a0");
    dueFault("x = `1e999;");
    dueRight("N".repeat(255) + ";", 2);
    dueFault("`" + "N".repeat(256) + ";");
    dueRight("\"" + "t".repeat(4096) + "\";", 2);
    dueFault("`\"" + "t".repeat(4097) + "\";");
  }

  private static void numeralFaults() {
    String tooLarge = java.math.BigInteger.TWO.pow(1024).subtract(java.math.BigInteger.TWO.pow(970)).toString();
    String below = new java.math.BigInteger(tooLarge).subtract(java.math.BigInteger.ONE).toString();
    dueRight(below + ";", 2);
    dueRight("000" + below + ".999;", 2);
    dueRight("0.00" + below + "e311;", 2);
    dueRight(below.charAt(0) + "." + below.substring(1) + "9e308;", 2);
    dueRight(below + "000e-3;", 2);
    dueFault("`" + tooLarge + ";");
    dueFault("`000" + tooLarge + ".000;");
    dueFault("`" + tooLarge + ".0e0;");
    dueFault("`0.00" + tooLarge + "e311;");
    dueFault("`" + tooLarge.charAt(0) + "." + tooLarge.substring(1) + "e308;");
    dueFault("`" + tooLarge + "000e-3;");
    dueFault("`1" + "0".repeat(309) + ";");
    dueRight("1" + "0".repeat(308) + ";", 2);
    dueRight("1e308;", 2);
    dueFault("`1e309;");
    dueFault("`10e308;");
    dueRight("0.1e309;", 2);
    dueRight("1.7976931348623157e308;", 2);
    dueFault("`1.7976931348623159e308;");
    dueFault("`2e308;");
    dueRight("0e99999999999999999999;", 2);
    dueRight("0.000e+99999999999999999999;", 2);
    dueFault("`1e99999999999999999999;");
    dueFault("`1e4294967296;");
    dueFault("`1e18446744073709551616;");
    dueRight("1e-99999999999999999999;", 2);
    dueRight("1e000000000000000000000000000001;", 2);
    dueRight("0." + "0".repeat(2000) + "1e2300;", 2);
    dueFault("`0." + "0".repeat(2000) + "1e2310;");
    dueRight("1" + "0".repeat(2000) + "e-1700;", 2);
    dueFault("`1" + "0".repeat(2000) + "e-1690;");
  }

  private static void grammarFaults() {
    dueFault("`;");
    dueFault("a`");
    dueFault("a  %b\n`");
    dueFault("a +`");
    dueFault("a + `;");
    dueFault("a `b;");
    dueFault("a; `)");
    dueFault("(a`;");
    dueFault("(a`];");
    dueFault("[a`);");
    dueFault("(`);");
    dueFault("(a`, b);");
    dueFault("a(1`;");
    dueFault("a(1,`);");
    dueFault("a(`,);");
    dueFault("a'`(1);");
    dueFault("a(1)`(2);");
    dueFault("[a]`(1);");
    dueFault("\"a\"`(1);");
    dueFault("a ^ `+b;");
    dueFault("a ^ `~b;");
    dueFault("a .^ -`-b;");
    dueFault("a * `* b;");
    dueFault("a' `b;");
    dueFault("a:b:c`:d;");
    dueFault("[`;];");
    dueFault("[a,`];");
    dueFault("[a;`];");
    dueFault("[`,a];");
    dueFault("[[a;`]];");
    dueFault("`end;");
    dueFault("`else;");
    dueFault("`catch;");
    dueFault("if `a;");
    dueFault("if (a`;");
    dueFault("if (a `= 1) end");
    dueFault("if (`) end");
    dueFault("if (1) else `else end");
    dueFault("if (1) else `elseif (1) end");
    dueFault("if (1) `catch end");
    dueFault("if (1) end `end");
    dueFault("if (1)`");
    dueFault("while (1) `else end");
    dueFault("while `1;");
    dueFault("for (`1 = 2) end");
    dueFault("for (`end = 2) end");
    dueFault("for (k `== 2) end");
    dueFault("for (k`(1) = 2) end");
    dueFault("for (k = 2`, 3) end");
    dueFault("try a; `end");
    dueFault("try catch `catch end");
    dueFault("try `else end");
    dueFault("`break;");
    dueFault("`continue;");
    dueFault("while (1) end `break;");
    dueFault("if (1) `break; end");
    dueFault("while (1) end function f() `continue; end");
    dueFault("while (1) break`, end");
    dueFault("return `1;");
    dueFault("print `;");
    dueFault("show a,`;");
    dueFault("print 1,2,3,4,5,6,7,8`,9;");
    dueFault("show 1,2,3,4,5,6,7,8`,9;");
    dueFault("print a `= 1;");
    dueFault("while (1) `function f() end end");
    dueFault("function f() `function g() end end");
  }

  private static void equalsFaults() {
    dueFault("1 `= 2;");
    dueFault("\"a\" `= 2;");
    dueFault("(a) `= 1;");
    dueFault("(a(1)) `= 1;");
    dueFault("a() `= 1;");
    dueFault("a(1, 2, 3) `= 1;");
    dueFault("a' `= 1;");
    dueFault("-a `= 1;");
    dueFault("a + b `= 1;");
    dueFault("a:b `= 1;");
    dueFault("a = b `= c;");
    dueFault("a(b `= 1);");
    dueFault("a = `;");
    dueFault("a = b`");
    dueFault("[a + b] `= 1;");
    dueFault("a = [b] `= f();");
    dueRight("a(1) = 1; a(:, 2) = 2; a = [b];", 22);
  }

  private static void argumentFaults() {
    dueFault("a(1, 2, `:);");
    dueFault("a(1, 2, `end);");
    dueFault("a(1, 2, (`end));");
    dueFault("a(1, 2, [`end]);");
    dueFault("a(:, 1`, 2);");
    dueFault("a(1, :`, 2);");
    dueFault("a(end, 1`, 2);");
    dueFault("a(1, [(end)]`, 2);");
    dueFault("a(:`:);");
    dueFault("a(:`+ 1);");
    dueFault("a(:`');");
    dueFault("a((`:));");
    dueFault("a([`:]);");
    dueFault("a(1 + `:);");
    dueFault("f(a(1, 2, `end));");
    dueFault("f(a(1, 2, (g([`:]))));");
    dueFault("f(a(1, 2, `:));");
    dueRight("f(1, 2, a(end)); f(a(end), 1, 2); f(a(:, end), 1, 2);", 38);
    dueRight("f(1, 2, a(1 + (end)));", 16);
    dueFault("(`end);");
    dueFault("[`end];");
    dueFault("x = `end;");
    dueFault("if (`end) end");
    dueFault("print `end;");
    dueFault("for (k = `end) end");
    dueFault("[x] = f(`end);");
    dueFault("[x] = f(`:);");
    dueFault("[x] = f((`end));");
    dueFault("[x] = f(1,2,3,4,5,6,7,8`,9);");
    dueRight("[x] = f(g(end), g(:));", 17);
    dueFault("f(1,2,3,4,5,6,7,8`,9);");
    dueFault("f()`");
  }

  private static void targetFaults() {
    dueFault("[~, a] `+ 1;");
    dueFault("[~, a]`;");
    dueFault("[~`;");
    dueFault("[~ a, ~`, b];");
    dueFault("[a, ~] `+ 1;");
    dueFault("[a, ~ `= 1;");
    dueFault("[~, `1] = f();");
    dueFault("[~, a`(1)] = f();");
    dueFault("[~,`] = f();");
    dueFault("[~] = `1;");
    dueFault("[~] = f`;");
    dueFault("[~] = f()`'");
    dueFault("[a, 1] `= f();");
    dueFault("[a; b] `= f();");
    dueFault("[a(1)] `= f();");
    dueFault("[(a)] `= f();");
    dueFault("[[a]] `= f();");
    dueFault("[-a] `= f();");
    dueFault("[~a] `= f();");
    dueFault("[a'] `= f();");
    dueFault("[a]' `= f();");
    dueFault("([a]) `= f();");
    dueFault("[] `= f();");
    dueFault("[a `= 1;");
    dueFault("[a, b] = f(x) `+ 1;");
    dueFault("[a, b] = `(f(x));");
    dueFault("[a, b] = f(x)`");
    dueFault("[a, b] +`= 1;");
    dueFault("[a,b,c,d,e,f,g,h,i] `= z();");
    dueFault("[a,b,c,d,e,f,g,~`,i] = z();");
    dueFault("[~,b,c,d,e,f,g,h`,i] = z();");
    dueFault("[a,b,c,d,e,f,g,h,~`,j] = z();");
    dueFault("[a,b,c,d,e,f,g,h,~`] = z();");
    dueFault("x = [~`, a] ;");
    dueRight("[a]; [a, b] + 1; [~a, b]; [a, ~b]; [a] == b;", 32);
    dueRight("[a] = f(); [a, a] = f(a); [~] = f(1, 2);", 30);
  }

  private static void functionFaults() {
    dueFault("function`");
    dueFault("function `(a) end");
    dueFault("function `1() end");
    dueFault("function `if() end");
    dueFault("function f `end");
    dueFault("function f(`1) end");
    dueFault("function f(a,`) end");
    dueFault("function f(a `b) end");
    dueFault("function f(`~) end");
    dueFault("function [`] = f() end");
    dueFault("function [a `= f() end");
    dueFault("function [a] `f() end");
    dueFault("function [a] = `(b) end");
    dueFault("function [a, `~] = f() end");
    dueFault("function [a, `a] = f() end");
    dueFault("function f(a, b, `a) end");
    dueFault("function [a,b,c,d,e,f,g,h`,i] = z() end");
    dueFault("function z(a,b,c,d,e,f,g,h`,i) end");
    dueFault("function f() end function f`() end");
    dueFault("function f() end function a = `f() end");
    dueFault("function f() end function [a, b] = `f() end");
    dueFault("function f() end a; function g() end function f`() end");
    dueFault("function a = f() end function f`() end");
    dueFault("function f()`");
    dueFault("function f() `else end");
    dueRight("function f = f() end function f = g() end", 14);
    dueRight("function ab() end function a() end function aB() end", 15);
    dueRight("function [a, A, aa] = f(a, A, aa) end", 18);
  }

  private static void levels() {
    dueRight("x=" + "(".repeat(60) + "a" + ")".repeat(60) + ";", 124);
    dueFault("x=" + "(".repeat(60) + "`(a");
    dueFault("x=" + "(".repeat(60) + "`[a");
    dueFault("x=" + "(".repeat(60) + "`-a");
    dueFault("x=" + "(".repeat(60) + "a`(1)");
    dueRight("x=" + "(".repeat(60) + "a^-b" + ")".repeat(60) + ";", 127);
    dueRight("-".repeat(60) + "a;", 62);
    dueFault("-".repeat(60) + "`-a;");
    dueFault("-".repeat(60) + "`~a;");
    dueFault("-".repeat(60) + "a`(1);");
    dueFault("-".repeat(60) + "`(a);");
    dueRight("-".repeat(60) + "a^(b);", 66);
    dueRight("-".repeat(59) + "(a)^(b);", 67);
    dueRight("-".repeat(59) + "a(1)^[b];", 68);
    dueFault("-".repeat(59) + "a(`-1);");
    dueRight("-".repeat(60) + "a + " + "-".repeat(60) + "b;", 124);
    dueRight("-".repeat(60) + "1'^(" + "-".repeat(59) + "b);", 126);
    dueFault("-".repeat(60) + "1'^(" + "-".repeat(59) + "`-b);");
    dueRight("x = " + "[".repeat(60) + "]".repeat(60) + ";", 123);
    dueRight("try ".repeat(60) + "a;" + " catch end".repeat(60), 182);
    dueFault("try ".repeat(60) + "`try");
    dueFault("try ".repeat(60) + "`if (1)");
    dueFault("try ".repeat(60) + "`[a]");
    dueFault("try ".repeat(60) + "`-a;");
    dueFault("try ".repeat(60) + "a`(1);");
    dueFault("if (1) ".repeat(59) + "if `(1)");
    dueFault("while (1) ".repeat(59) + "while `(1)");
    dueFault("for (k = 1) ".repeat(59) + "for `(k = 1)");
    dueRight("if (1) ".repeat(59) + "end ".repeat(59), 295);
    dueRight("function f() " + "try ".repeat(59) + "a;" + "catch end ".repeat(59) + "end", 177 + 7);
    dueFault("function f() " + "try ".repeat(59) + "`try");
    dueRight("try ".repeat(59) + "[~, a] = f(1);" + "catch end ".repeat(59), 177 + 11);
    dueFault("try ".repeat(59) + "[~ `b];");
    dueFault("try ".repeat(59) + "[a, ~ `b];");
    dueFault("try ".repeat(59) + "[`-b];");
    dueRight("try ".repeat(58) + "[~b];" + "catch end ".repeat(58), 174 + 5);
    dueFault("try ".repeat(59) + "[a`(1)];");
    dueRight("-".repeat(59) + "(a)^" + "(".repeat(60) + "b" + ")".repeat(60) + ";", 185);
    dueFault("-".repeat(59) + "(a)^" + "(".repeat(60) + "`(b");
    dueRight("-".repeat(59) + "a(1)^" + "(".repeat(60) + "b" + ")".repeat(60) + ";", 186);
    dueRight("-".repeat(58) + "[-a]^" + "(".repeat(60) + "b" + ")".repeat(60) + ";", 185);
    dueFault("-".repeat(58) + "(-a + -b + (`-c));");
    dueRight("try ".repeat(58) + "[~] = f((1));" + "catch end ".repeat(58), 174 + 11);
    dueFault("try ".repeat(58) + "[~] = f((`(1)));");
    dueRight("try catch end ".repeat(100), 300);
    dueRight("(a);".repeat(100), 400);
  }

  /** Nothing of a text that was refused is left when the next one is read. */
  private static void afterFaults() {
    EquationText object = Texts.read("while (1) [");
    Texts.feed(object, "break;");
    object.read();
    due("place() of break behind an open loop", object.place(), 0);
    Texts.feed(object, "a + b * -(-");
    object.read();
    Texts.feed(object, "c;" + "(".repeat(61));
    object.read();
    due("place() of the 61st level behind open signs", object.place(), 62);
    Texts.feed(object, "(".repeat(60) + "a" + ")".repeat(60) + ";");
    due("read() of 60 levels behind 60 open ones", object.read(), 122);
    Texts.feed(object, "function f() end function g(");
    object.read();
    Texts.feed(object, "function f() end");
    due("read() of a function behind one of its name", object.read(), 5);
    Texts.feed(object, "a(:, ");
    object.read();
    Texts.feed(object, "a(1, 2, 3);");
    due("read() of three arguments behind an open ':'", object.read(), 9);
    Texts.feed(object, "if (1) else ");
    object.read();
    Texts.feed(object, "if (1) else end");
    due("read() of else behind an open else", object.read(), 6);
    Texts.feed(object, "[a, ");
    object.read();
    Texts.feed(object, "([b]) + 1;");
    due("read() of rows behind open targets", object.read(), 8);
    due("write() of rows", object.write(), 9);
  }

  private static void placeAnswers() {
    EquationText object = Texts.read("  a b");
    due("place() of a fault", object.place(), 4);
    due("place() asked again", object.place(), 4);
    Texts.feed(object, "x y z");
    due("place() before the next read()", object.place(), 4);
    object.end(object.feed(0, 0, 0, 0, 0) - 25);
    object.read();
    due("place() of the next fault", object.place(), 2);
    object.read();
    due("place() behind a right text", object.place(), NONE);
    Texts.feed(object, "a;\n  ( %\n");
    object.read();
    due("place() of an early end", object.place(), 9);
  }

  private static void trees() {
    dueTree("", "0@0");
    dueTree(" a;", "0@0(20@1{a}(32@1{a}))");
    dueTree("(a);", "0@0(20@0{(}(32@1{a}))");
    dueTree("a = b;", "0@0(21@2/0{=}(32@0{a} 32@4{b}))");
    dueTree("a(1, :) = b;", "0@0(21@8/0{=}(33@0/1{a}(30@2{1} 34@5{:}) 32@10{b}))");
    dueTree("f();", "0@0(20@0{f}(33@0/1{f}))");
    dueTree("f( end );", "0@0(20@0{f}(33@0/1{f}(35@3{end})))");
    dueTree("\"a b\"';", "0@0(20@0{\"a b\"}(38@5{'}(31@0{\"a b\"})))");
    dueTree("1.50e+2;", "0@0(20@0{1.50e+2}(30@0{1.50e+2}))");
    dueTree("[];", "0@0(20@0{[}(36@0{[}))");
    dueTree("[1,(a);-b];",
        "0@0(20@0{[}(36@0{[}(37@1{1}(30@1{1} 32@4{a}) 37@7{-}(39@7{-}(32@8{b})))))");
    dueTree("a+b-c;", "0@0(20@0{a}(40@3{-}(40@1{+}(32@0{a} 32@2{b}) 32@4{c})))");
    dueTree("a+b*c;", "0@0(20@0{a}(40@1{+}(32@0{a} 40@3{*}(32@2{b} 32@4{c}))))");
    dueTree("-a^-b';", "0@0(20@0{-}(39@0{-}(40@2{^}(32@1{a} 39@3{-}(38@5{'}(32@4{b}))))))");
    dueTree("a^b^c;", "0@0(20@0{a}(40@3{^}(40@1{^}(32@0{a} 32@2{b}) 32@4{c})))");
    dueTree("a^-b^c;", "0@0(20@0{a}(40@4{^}(40@1{^}(32@0{a} 39@2{-}(32@3{b})) 32@5{c})))");
    dueTree("-a*b;", "0@0(20@0{-}(40@2{*}(39@0{-}(32@1{a}) 32@3{b})))");
    dueTree("a:b;", "0@0(20@0{a}(41@1{:}(32@0{a} 32@2{b})))");
    dueTree("a:b:c==d;", "0@0(20@0{a}(40@5{==}(41@1/3{:}(32@0{a} 32@2{b} 32@4{c}) 32@7{d})))");
    dueTree("a||b&&c<=d;",
        "0@0(20@0{a}(40@1{||}(32@0{a} 40@4{&&}(32@3{b} 40@7{<=}(32@6{c} 32@9{d})))))");
    dueTree("a.^b.*c./d\\e;",
        "0@0(20@0{a}(40@10{\\}(40@7{./}(40@4{.*}(40@1{.^}(32@0{a} 32@3{b}) 32@6{c}) 32@9{d}) 32@11{e})))");
    dueTree("print a, 1;show b;", "0@0(18@0{print}(32@6{a} 30@9{1}) 19@11{show}(32@16{b}))");
    dueTree("return;", "0@0(17@0{return})");
    dueTree(" [a, ~] = f(1);", "0@0(10@8/1{=}(2@1(32@2{a} 5@5{~}) 33@10/11{f}(30@12{1})))");
    dueTree("[a] = f();", "0@0(10@4/0{=}(2@0(32@1{a}) 33@6/7{f}))");
    dueTree("while (a) break; continue; end",
        "0@0(12@0{while}(32@7{a} 3@8(15@10{break} 16@17{continue})))");
    dueTree("for (k = a) end", "0@0(13@0{for}(32@5{k} 32@9{a} 3@10))");
    dueTree("try a; catch b; end", "0@0(14@0{try}(3@0(20@4{a}(32@4{a})) 3@7(20@13{b}(32@13{b}))))");
    dueTree("if (a) elseif (b) c; else end",
        "0@0(11@0{if}(32@4{a} 3@5 32@15{b} 3@16(20@18{c}(32@18{c})) 3@21))");
    dueTree("if (a) end", "0@0(11@0{if}(32@4{a} 3@5))");
    dueTree(" function name() end", "0@0(1@1{name}(2@10 2@14 3@15))");
    dueTree("function r = name(a, b) r = a; end a;",
        "0@0(1@0{name}(2@13(32@9{r}) 2@17(32@18{a} 32@21{b}) 3@22(21@26/24{=}(32@24{r} 32@28{a}))) 20@35{a}(32@35{a}))");
    dueTree("function [r, s] = name() end", "0@0(1@0{name}(2@18(32@10{r} 32@13{s}) 2@22 3@23))");
  }

  private static void nodeAnswers() {
    EquationText object = Texts.read("a:b; f(1);");
    due("nodes()", object.nodes(), 8);
    due("node(8, 0)", object.node(8, 0), NONE);
    due("node(-1, 0)", object.node(-1, 0), NONE);
    due("node(largest, 1)", object.node(Integer.MAX_VALUE, 1), NONE);
    due("node(smallest, 1)", object.node(Integer.MIN_VALUE, 1), NONE);
    due("node(0, 4)", object.node(0, 4), NONE);
    due("node(0, 5)", object.node(0, 5), NONE);
    due("node(0, 6)", object.node(0, 6), NONE);
    due("node(0, -1)", object.node(0, -1), NONE);
    due("node(0, largest)", object.node(0, Integer.MAX_VALUE), NONE);
    due("node(0, 2)", object.node(0, 2), NONE);
    due("node(0, 3)", object.node(0, 3), 2);
    due("part(0, 0)", object.part(0, 0), 1);
    due("part(0, 1)", object.part(0, 1), 5);
    due("part(0, 2)", object.part(0, 2), NONE);
    due("part(0, -1)", object.part(0, -1), NONE);
    due("part(0, largest)", object.part(0, Integer.MAX_VALUE), NONE);
    due("part(8, 0)", object.part(8, 0), NONE);
    due("part(-1, 0)", object.part(-1, 0), NONE);
    due("part(smallest, 0)", object.part(Integer.MIN_VALUE, 0), NONE);
    due("part(7, 0)", object.part(7, 0), NONE);
    due("character(0, 0)", object.character(0, 0), NONE);
    due("character(2, 0)", object.character(2, 0), (int) ':');
    due("character(2, 1)", object.character(2, 1), NONE);
    due("character(2, -1)", object.character(2, -1), NONE);
    due("character(2, smallest)", object.character(2, Integer.MIN_VALUE), NONE);
    due("character(2, largest)", object.character(2, Integer.MAX_VALUE), NONE);
    due("character(8, 0)", object.character(8, 0), NONE);
    due("character(-1, 0)", object.character(-1, 0), NONE);
    due("character(largest, 0)", object.character(Integer.MAX_VALUE, 0), NONE);
    Texts.feed(object, "other text that is none");
    object.read();
    due("character(6, 0) behind a fault", object.character(6, 0), (int) 'f');
  }

  private static void forms() {
    dueForm("", "");
    dueForm("a;b=c;", "a;\nb = c;\n");
    dueForm("((a));", "a;\n");
    dueForm("a*(b+c)-(d*e);", "a * (b + c) - d * e;\n");
    dueForm("a-(b-c)-d;", "a - (b - c) - d;\n");
    dueForm("(a||b)&&(c||d);", "(a || b) && (c || d);\n");
    dueForm("a||(b||c);", "a || (b || c);\n");
    dueForm("(a==b)==(c==d);", "a == b == (c == d);\n");
    dueForm("(a:b):(c+d):(e:f:g);", "(a:b):c + d:(e:f:g);\n");
    dueForm("(a==b):(c||d);", "(a == b):(c || d);\n");
    dueForm("(a:b)+c;", "(a:b) + c;\n");
    dueForm("(-a)*-b;", "-a * -b;\n");
    dueForm("-(a*b);", "-(a * b);\n");
    dueForm("-(a^b);", "-a^b;\n");
    dueForm("(-a)^b;", "(-a)^b;\n");
    dueForm("a^(-b);", "a^-b;\n");
    dueForm("a.^(-b');", "a.^-b';\n");
    dueForm("a^(+b);", "a^(+b);\n");
    dueForm("a^(~b);", "a^(~b);\n");
    dueForm("a^(--b);", "a^(--b);\n");
    dueForm("a^(-b^c);", "a^(-b^c);\n");
    dueForm("a^-(b+c);", "a^(-(b + c));\n");
    dueForm("a^-(b(1));", "a^-b(1);\n");
    dueForm("a^-[b];", "a^-[b];\n");
    dueForm("a^(b^c);", "a^(b^c);\n");
    dueForm("(a^b)^c;", "a^b^c;\n");
    dueForm("(a^b)';", "(a^b)';\n");
    dueForm("(-a)';", "(-a)';\n");
    dueForm("(a')';", "a'';\n");
    dueForm("-(-(~a));", "--~a;\n");
    dueForm("2.^3.*4./5\\6;", "2.^3 .* 4 ./ 5 \\ 6;\n");
    dueForm("f( (a) , :)=g( );", "f(a, :) = g();\n");
    dueForm("[ 1 ,2;3,(4:5) ];[];", "[1, 2; 3, 4:5];\n[];\n");
    dueForm("print a,\"  b \" ;show 1e0;", "print a, \"  b \";\nshow 1e0;\n");
    dueForm("[a,~]=f(1,g(end));return;", "[a, ~] = f(1, g(end));\nreturn;\n");
    dueForm("function f()end function a=g(b)end function[a]=h(b,c)return;end function[a,b]=k()end",
        "function f()\nend\nfunction a = g(b)\nend\nfunction a = h(b, c)\n  return;\nend\nfunction [a, b] = k()\nend\n");
    dueForm("if(a)b;elseif(c)elseif(d)e;else f;end", "if (a)\n  b;\nelseif (c)\nelseif (d)\n  e;\nelse\n  f;\nend\n");
    dueForm("if(a)else end", "if (a)\nelse\nend\n");
    dueForm("function f()while(a)for(k=1:2)try break;catch continue;end end end end",
        "function f()\n  while (a)\n    for (k = 1:2)\n      try\n        break;\n      catch\n        continue;\n"
        + "      end\n    end\n  end\nend\n");
  }

  private static void writtenAnswers() {
    EquationText object = Texts.read("a");
    due("write() without a tree", object.write(), NONE);
    Texts.feed(object, "a ;");
    object.read();
    due("written(0) before write()", object.written(0), NONE);
    due("write()", object.write(), 3);
    due("written(0)", object.written(0), (int) 'a');
    due("written(1)", object.written(1), (int) ';');
    due("written(2)", object.written(2), 10);
    due("written(3)", object.written(3), NONE);
    due("written(-1)", object.written(-1), NONE);
    due("written(largest)", object.written(Integer.MAX_VALUE), NONE);
    due("written(smallest)", object.written(Integer.MIN_VALUE), NONE);
    Texts.feed(object, "bc;");
    object.read();
    due("written(0) behind another read()", object.written(0), (int) 'a');
    due("rewind()", object.rewind(), 3);
    due("written(0) behind rewind()", object.written(0), (int) 'a');
    object.feed(0x20202020, 0x20202020, 0x20202020, 0x20202020, 0x20202028);
    object.read();
    due("place() behind rewind() and feed", object.place(), 23);
    Texts.feed(object, "lost");
    due("rewind() over a tape", object.rewind(), 3);
    due("read() of the form", object.read(), 2);
    due("character(1, 0)", object.character(1, 0), (int) 'a');
    object.write();
    object.read();
    due("write() of an empty program", object.write(), 0);
    due("written(0) of an empty form", object.written(0), NONE);
    due("rewind() of an empty form", object.rewind(), 0);
  }

  /** A text whose form has just so many characters. */
  private static String textWithForm(int length) {
    StringBuilder lines = new StringBuilder();
    int indented = 2 * 59;
    int rest = length;
    for (int level = 0; level < 59; level++) {
      rest -= 3 * 2 * level + "try\ncatch\nend\n".length();
    }
    while (rest > 2 * (indented + 3) + 200) {
      lines.append("a;");
      rest -= indented + 3;
    }
    int name = rest - 2 * (indented + 2) - 1;
    lines.append("a;").append("b".repeat(name)).append(';');
    return "try ".repeat(59) + lines + "catch end ".repeat(59);
  }

  private static void bounds() {
    String full = textWithForm(65536);
    due("the form's length", new SecondReader(full).form().length(), 65536);
    EquationText object = Texts.read(full);
    due("write() of 65536", object.write(), 65536);
    due("written(65535)", object.written(65535), 10);
    due("written(65536)", object.written(65536), NONE);
    due("rewind() of 65536", object.rewind(), 65536);
    due("feed over the bound", object.feed(0, 0, 0, 0, 0), NONE);
    due("end(1)", endAnswer(object, 1), "65517");
    due("feed over the bound by one", object.feed(0, 0, 0, 0, 0), NONE);
    due("end(19)", endAnswer(object, 19), "65516");
    due("feed to the bound", object.feed(0x20202020, 0x20202020, 0x20202020, 0x20202020, 0x20202020), 65536);
    due("feed at the bound", object.feed(0, 0, 0, 0, 0), NONE);
    due("read() of a form that was cut", object.read(), NONE);
    due("place() at the tape's end", object.place(), 65536);
    object.rewind();
    due("read() of the form", object.read(), new SecondReader(full).count);
    Texts.feed(object, textWithForm(65537));
    due("read() of the longer text", object.read() > 0, true);
    due("write() of 65537", object.write(), NONE);
    due("written(65535) as before", object.written(65535), 10);
    due("rewind() as before", object.rewind(), 65536);
    EquationText other = Texts.read("try ".repeat(59) + "a;".repeat(4000) + "catch end ".repeat(59));
    due("write() of far too much", other.write(), NONE);
    due("written(0) behind it", other.written(0), NONE);
    due("rewind() behind it", other.rewind(), 0);
    Texts.feed(other, "a;");
    other.read();
    due("write() of little behind it", other.write(), 3);
    due("written(0) of little behind it", other.written(0), (int) 'a');
  }

  private static void deepTrees() {
    String turned = "a" + "'".repeat(8000) + ";";
    EquationText object = dueRight(turned, 8002);
    due("nodes() of many turns", object.nodes(), 8003);
    due("part(8001, 0) of many turns", object.part(8001, 0), 8002);
    due("write() of many turns", object.write(), 8003);
    EquationText sums = dueRight("a" + "+a".repeat(4000) + ";", 8002);
    due("write() of a long sum", sums.write(), 1 + 4000 * 4 + 2);
    due("node(4001, 1) of a long sum", sums.node(4001, 1), 1);
    EquationText many = dueRight("a;".repeat(4000), 8000);
    due("part(0, 3999) of many statements", many.part(0, 3999), 7999);
    StringBuilder signs = new StringBuilder();
    for (int level = 0; level < 60; level++) {
      signs.append("-".repeat(60 - level)).append("a^(");
    }
    String open = signs.toString();
    EquationText signed = dueRight(open + "b" + ")".repeat(60) + ";", open.length() + 62);
    due("nodes() of many signs", signed.nodes(), 2 + 1830 + 120 + 1);
  }

  public static void main(String[] args) {
    newObject();
    feed();
    end();
    read();
    tokenFaults();
    numeralFaults();
    grammarFaults();
    equalsFaults();
    argumentFaults();
    targetFaults();
    functionFaults();
    levels();
    afterFaults();
    placeAnswers();
    trees();
    nodeAnswers();
    forms();
    writtenAnswers();
    bounds();
    deepTrees();
    System.out.println(checks + " checks, " + wrong + " wrong answers");
    System.exit(wrong == 0 ? 0 : 1);
  }
}
