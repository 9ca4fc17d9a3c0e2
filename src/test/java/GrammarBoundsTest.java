/** The sentences of 'Terms' about programs that name a bound, and about where a fault is, for promises 4 and 5. */
public final class GrammarBoundsTest extends Checks {
  /** So many values with ',' between, each of one token. */
  private static String values(int number) {
    StringBuilder values = new StringBuilder();
    for (int i = 1; i <= number; i++) {
      values.append(i == 1 ? "" : ",").append(i);
    }
    return values.toString();
  }

  private static String names(int number) {
    StringBuilder names = new StringBuilder();
    for (int i = 1; i <= number; i++) {
      names.append(i == 1 ? "n" : ",n").append(i);
    }
    return names.toString();
  }

  /** How many tokens a list of so many has. */
  private static int listed(int number) {
    return number == 0 ? 0 : 2 * number - 1;
  }

  /** "A '=' may stand behind an "or" of a statement only if that is (..) a NAME, or a NAME with one or two arguments." */
  private static void equals() {
    dueRight("a = 1;", 4);
    dueFault("a() `= 1;");
    dueRight("a(1) = 1;", 7);
    dueRight("a(1, 2) = 1;", 9);
    for (int arguments = 3; arguments <= 8; arguments++) {
      dueFault("a(" + values(arguments) + ") `= 1;");
    }
    dueRight("a(:) = 1; a(:, :) = 1; a(end) = 1; a(end, end) = 1; a(b(1, 2, 3)) = 1;", 46);
    dueFault("1 `= 2;");
    dueFault("\"a\" `= 2;");
    dueFault("a' `= 1;");
    dueFault("a(1)' `= 1;");
    dueFault("-a `= 1;");
    dueFault("~a(1) `= 1;");
    dueFault("a + b `= 1;");
    dueFault("a^b `= 1;");
    dueFault("a:b `= 1;");
    dueFault("a || b(1) `= 1;");
    dueFault("a == b `= 1;");
    dueFault("[a + b] `= 1;");
    dueFault("[] `= 1;");
  }

  /** "without brackets around it", and only of a statement, and once. */
  private static void equalsAndBrackets() {
    dueFault("(a) `= 1;");
    dueFault("((a)) `= 1;");
    dueFault("(a(1)) `= 1;");
    dueRight("a((1)) = (b);", 11);
    dueFault("a = b `= c;");
    dueFault("a(1) = b(1) `= c;");
    dueFault("a = [b] `= f();");
    dueFault("a(b `= 1);");
    dueFault("(a `= 1);");
    dueFault("[a `= 1];");
    dueFault("print a `= 1;");
    dueFault("if (a `= 1) end");
    dueFault("while (a `= 1) end");
    dueFault("for (k = a `= 1) end");
    dueFault("a = `;");
    dueFault("a == `= b;");
  }

  /** "':' as a whole argument (..) stand only in the first two arguments in the brackets of a NAME of an item" */
  private static void allArguments() {
    dueRight("a(:);", 5);
    dueRight("a(:, 1);", 7);
    dueRight("a(1, :);", 7);
    dueRight("a(:, :);", 7);
    dueFault("a(1, 2, `:);");
    dueFault("a(1, 2, 3, `:);");
    dueFault("a(1, 2, 3, 4, 5, 6, 7, `:);");
    dueFault("a(:`:);");
    dueFault("a(:`1);");
    dueFault("a(:`+ 1);");
    dueFault("a(:`');");
    dueFault("a(1:`);");
    dueFault("a(1 + `:);");
    dueFault("a(-`:);");
    dueFault("a((`:));");
    dueFault("a([`:]);");
    dueFault("(`:);");
    dueFault("[`:];");
    dueFault("x = `:;");
    dueFault("print `:;");
    dueFault("if (`:) end");
    dueFault("[x] = f(`:);");
    dueFault("[x] = f(1, `:);");
    dueFault("function f(`:) end");
    dueFault("f(a(1, 2, `:));");
    dueRight("[x] = f(g(:, :), 1, 2);", 18);
    dueRight("x = -a(:)';", 9);
  }

  /** "'end' anywhere in an argument, stand only in the first two arguments in the brackets of a NAME of an item" */
  private static void endArguments() {
    dueRight("a(end);", 5);
    dueRight("a(end, 1);", 7);
    dueRight("a(1, end);", 7);
    dueRight("a(end, end);", 7);
    dueRight("a((end), [1, 2; -end' + 1]);", 19);
    dueRight("a(1:end, end:-1:1);", 14);
    dueFault("a(1, 2, `end);");
    dueFault("a(1, 2, 3 + `end);");
    dueFault("a(1, 2, (`end));");
    dueFault("a(1, 2, [1; `end]);");
    dueFault("a(1, 2, 3, 4, 5, 6, 7, `end);");
    dueFault("x = `end;");
    dueFault("(`end);");
    dueFault("[`end];");
    dueFault("-`end;");
    dueFault("a + `end;");
    dueFault("print `end;");
    dueFault("if (`end) end");
    dueFault("while (`end) end");
    dueFault("for (k = `end) end");
    dueFault("[x] = f(`end);");
    dueFault("[x] = f((`end));");
    dueFault("[x] = f(1, [`end]);");
    dueFault("a(end`(1));");
    dueRight("[x] = f(g(end), 1, g(1, end));", 21);
  }

  /** "('end' belongs to the nearest such NAME, whatever is around that)" */
  private static void nearestName() {
    dueRight("f(1, 2, a(end));", 12);
    dueRight("f(1, 2, a(1 + (end)));", 16);
    dueRight("f(1, 2, (a([end])));", 16);
    dueRight("f(a(end), 1, 2);", 12);
    dueRight("f(a(1, end), 1, 2);", 14);
    dueFault("f(a(1, 2, `end));");
    dueFault("f(1, a(1, 2, (`end)));");
    dueFault("f(a(1, 2, [`end]), end);");
    dueFault("f(1, 2, a(1, 2, `end));");
    dueRight("f(a(1, 2, b(end)), end);", 17);
    dueRight("f(a(end), end);", 10);
    dueRight("f(a(1, 2, 3), end);", 14);
    dueRight("f(1, 2, 3, 4, 5, 6, 7, a(end, end));", 24);
    dueFault("f(a() + (1), 2, `end);");
    dueFault("f(a(end), 2, `end);");
  }

  /** "and if one stands there, a third argument cannot" */
  private static void noThirdArgument() {
    String[] special = {":", "end", "(end)", "[1, end]", "end + 1", "-end'", "1:end"};
    for (String argument : special) {
      dueFault("a(" + argument + ", 2`, 3);");
      dueFault("a(1, " + argument + "`, 3);");
      dueFault("a(" + argument + ", " + argument + "`, 3);");
      dueFault("f(1, 2, a(1, " + argument + "`, 3));");
      dueRight("f(a(1, " + argument + "), 2, 3);", 13 + tokensOf(argument));
      dueFault("f(a(1, 2, 3), " + argument + "`, 3);");
      dueFault("f(" + argument + ", a(1, 2, 3)`, 3);");
    }
    dueRight("a(1, 2, 3);", 9);
    dueRight("a(b(:), b(end), 3);", 15);
  }

  private static int tokensOf(String argument) {
    return new SecondReader("a(" + argument + ");").count - 4;
  }

  /** "Calls have at most 8 arguments": those of items and those behind targets. */
  private static void callBounds() {
    for (int number = 0; number <= 8; number++) {
      dueRight("f(" + values(number) + ");", 4 + listed(number));
      dueRight("[x] = f(" + values(number) + ");", 8 + listed(number));
    }
    for (int number = 9; number <= 10; number++) {
      String beyond = values(8) + "`" + values(number).substring(values(8).length());
      dueFault("f(" + beyond + ");");
      dueFault("x = -f(" + beyond + ")';");
      dueFault("f(1, f(" + beyond + "), 3);");
      dueFault("[x] = f(" + beyond + ");");
      dueFault("[x] = f(1, f(" + beyond + "));");
    }
    String eight = "f(" + values(8) + ")";
    dueRight("f(" + (eight + ",").repeat(7) + eight + ");", 8 * 18 + 7 + 4);
    dueFault("f(" + (eight + ",").repeat(7) + eight + "`," + eight + ");");
    dueFault("f(`,1);");
    dueFault("f(1,`);");
    dueFault("f(1,`,2);");
    dueFault("f(" + values(7) + ",`);");
    dueFault("f(" + values(8) + "`");
  }

  /** "'[' statements at most 8 targets" */
  private static void targetBounds() {
    for (int number = 1; number <= 8; number++) {
      dueRight("[" + names(number) + "] = f();", 7 + listed(number));
      dueRight("[~" + ",~".repeat(number - 1) + "] = f();", 7 + listed(number));
      dueRight("[" + "a,".repeat(number - 1) + "~] = f();", 7 + listed(number));
      dueRight("[~" + ",a".repeat(number - 1) + "] = f();", 7 + listed(number));
    }
    dueFault("[" + names(9) + "] `= f();");
    dueFault("[" + names(20) + "] `= f();");
    dueRight("[" + names(8) + "];", 3 + listed(8));
    dueRight("[" + names(9) + "];", 3 + listed(9));
    dueRight("[" + names(20) + "];", 3 + listed(20));
    dueFault("[~,b,c,d,e,f,g,h`,i] = z();");
    dueFault("[a,b,c,d,e,f,g,~`,i] = z();");
    dueFault("[~,~,~,~,~,~,~,~`,~] = z();");
    dueFault("[a,b,c,d,e,f,g,h,~`] = z();");
    dueFault("[a,b,c,d,e,f,g,h,~`,j] = z();");
    dueRight("[a,b,c,d,e,f,g,h,~i];", 21);
    dueRight("[a,b,c,d,e,f,g,~i,h];", 21);
    dueFault("[a,b,c,d,e,f,g,h`");
    dueFault("[] `= f();");
  }

  /** "print and show at most 8 values" */
  private static void valueBounds() {
    for (String word : new String[] {"print", "show"}) {
      dueFault(word + " `;");
      for (int number = 1; number <= 8; number++) {
        dueRight(word + " " + values(number) + ";", 2 + listed(number));
      }
      dueFault(word + " " + values(8) + "`,9;");
      dueFault(word + " " + values(8) + "`,9,10;");
      dueFault(word + " " + values(7) + ",`;");
      dueRight(word + " " + "[" + values(9) + "]" + ",[]".repeat(7) + ";", 42);
      dueFault(word + " f(" + values(8) + ")" + ",1".repeat(7) + "`,1;");
    }
  }

  /** Rows have no bound but that of the tokens; an empty one cannot stand. */
  private static void rows() {
    dueRight("[];", 3);
    dueRight("[" + values(100) + "];", 3 + listed(100));
    dueRight("[1" + ";1".repeat(99) + "];", 3 + listed(100));
    dueRight("[1" + ";1,2".repeat(99) + "];", 3 + 1 + 99 * 4);
    dueFault("[`;];");
    dueFault("[1;`];");
    dueFault("[1,`];");
    dueFault("[`,1];");
    dueFault("[1;`;2];");
    dueFault("[1,`;2];");
  }

  /** "A statement that begins with '[' may be either of the two that can, as long as both can." */
  private static void eitherStatement() {
    dueRight("[a]; [a, b] + 1; [~a, b]; [a, ~b]; [a] == b;", 32);
    dueRight("[a] = f(); [a, a] = f(a); [~] = f(1, 2);", 30);
    dueRight("[~a]; [~~a]; [~-a, ~a];", 20);
    dueFault("[~, a] `+ 1;");
    dueFault("[~, a]`;");
    dueFault("[~]`';");
    dueFault("[~, ~] `== 1;");
    dueFault("[~`;");
    dueFault("[`~= a];");
    dueFault("[~ a, ~`, b];");
    dueFault("[~ a, ~`] = f();");
    dueFault("[a, ~] `+ 1;");
    dueFault("[a, ~ `= 1;");
    dueFault("[~, `1] = f();");
    dueFault("[~, `(a)] = f();");
    dueFault("[~, ~`a] = f();");
    dueFault("[~, a`(1)] = f();");
    dueFault("[~, a`'] = f();");
    dueFault("[~, a`; b] = f();");
    dueFault("[~,`] = f();");
    dueFault("[a, 1] `= f();");
    dueFault("[1, a] `= f();");
    dueFault("[a; b] `= f();");
    dueFault("[a; ~`] = f();");
    dueFault("[a(1)] `= f();");
    dueFault("[(a)] `= f();");
    dueFault("[[a]] `= f();");
    dueFault("[-a] `= f();");
    dueFault("[~a] `= f();");
    dueFault("[a'] `= f();");
    dueFault("[a + b] `= f();");
    dueFault("[a]' `= f();");
    dueFault("([a]) `= f();");
    dueFault("-[a] `= f();");
    dueFault("[a, b] == c `= f();");
    dueFault("([~`, a]);");
    dueFault("(~`, a) = f();");
    dueFault("(~`] = f();");
    dueFault("(~`) = f();");
    dueFault("~`, a] = f();");
    dueFault("[a]; try ~`, a] = f(); catch end");
    dueFault("[a] = f(); try print ~`; catch end");
    dueFault("x = [~`, a];");
    dueFault("print [~`];");
  }

  /** Behind the '=' of targets stands one call and ';' alone. */
  private static void behindTargets() {
    dueFault("[~] = `1;");
    dueFault("[~] = `-f();");
    dueFault("[~] = `[a];");
    dueFault("[~] = f`;");
    dueFault("[a] = f`'();");
    dueFault("[a, b] = `(f(x));");
    dueFault("[a, b] = f(x) `+ 1;");
    dueFault("[~] = f()`'");
    dueFault("[a] = f()`(1);");
    dueFault("[a] = f() `= g();");
    dueFault("[a, b] = f(x)`");
    dueFault("[a, b] = f(x`;");
    dueFault("[a, b]`(1);");
  }

  /** "break and continue stand only inside a loop (of the same function)." */
  private static void loops() {
    for (String word : new String[] {"break", "continue"}) {
      dueFault("`" + word + ";");
      dueRight("while (1) " + word + "; end", 7);
      dueRight("for (k = 1) " + word + "; end", 9);
      dueFault("while (1) " + word + "; end `" + word + ";");
      dueFault("for (k = 1) end `" + word + ";");
      dueFault("while (1) end if (1) `" + word + "; end");
      dueFault("if (1) `" + word + "; end");
      dueFault("try `" + word + "; catch end");
      dueFault("try catch `" + word + "; end");
      dueFault("function f() `" + word + "; end");
      dueFault("while (1) end function f() `" + word + "; end");
      dueRight("function f() while (1) " + word + "; end end", 12);
      dueFault("function f() while (1) end `" + word + "; end");
      dueFault("function f() while (1) end end `" + word + ";");
      dueRight("while (1) while (1) end " + word + "; end", 12);
      dueFault("while (1) while (1) end end `" + word + ";");
      dueRight("while (1) if (1) " + word + "; elseif (1) " + word + "; else " + word + "; end end", 21);
      dueRight("while (1) try " + word + "; catch " + word + "; end end", 12);
      dueFault("while (1) " + word + " `1; end");
      dueFault("while (1) " + word + "`, end");
    }
    dueRight("return;", 2);
    dueRight("function f() return; end", 7);
    dueFault("return `1;");
    dueFault("return`");
    dueFault("a; return`");
    dueFault("while (1) break`");
  }

  /** "A function has at most 8 parameters, which differ from one another, and 8 results, which do, too" */
  private static void functionBounds() {
    dueFault("function [`] = f() end");
    for (int number = 1; number <= 8; number++) {
      dueRight("function [" + names(number) + "] = f() end", 8 + listed(number));
    }
    for (int number = 0; number <= 8; number++) {
      dueRight("function f(" + names(number) + ") end", 5 + listed(number));
      dueRight("function [" + names(8) + "] = f(" + names(number) + ") end", 8 + listed(8) + listed(number));
    }
    dueFault("function [" + names(8) + "`,n9] = f() end");
    dueFault("function f(" + names(8) + "`,n9) end");
    dueFault("function [" + names(8) + "`,n1] = f() end");
    dueFault("function f(" + names(8) + "`,n1) end");
    for (int number = 1; number <= 7; number++) {
      dueFault("function f(" + names(number) + ",`n1) end");
      dueFault("function f(" + names(number) + ",`n" + number + ") end");
      dueFault("function [" + names(number) + ",`n1] = f() end");
      dueFault("function [" + names(number) + ",`n" + number + "] = f() end");
    }
    dueRight("function f = f(f) end f = f(f);", 15);
    dueRight("function [a, b] = f(b, a) end", 14);
  }

  /** "no two functions of a text have one name (.. told at it, or, without results, at the '(' behind it)" */
  private static void functionNames() {
    dueFault("function f() end function f`() end");
    dueFault("function f() end function a = `f() end");
    dueFault("function f() end function [a, b] = `f() end");
    dueFault("function f() end function [f] = `f() end");
    dueFault("function a = f() end function f`() end");
    dueFault("function [a, b] = f() end function f`() end");
    dueFault("function f() end a; function g() end function f`() end");
    dueFault("function f() end function g() end function x = `g() end");
    dueFault("function f() end function f`; end");
    dueRight("function f() end function f = g() end", 12);
    dueRight("function f = f() end function f = g() end", 14);
    dueRight("function f(g) end function g(f) end", 12);
    dueRight("function ab() end function a() end function aB() end function b() end", 20);
    StringBuilder many = new StringBuilder();
    for (int i = 0; i < 400; i++) {
      many.append("function f").append(i).append("() end ");
    }
    dueRight(many.toString(), 2000);
    dueFault(many + "function f0`() end");
    dueFault(many + "function a = `f399() end");
    dueRight(many + "function f400() end", 2005);
    Counted object = Texts.read("function f() end");
    Texts.feed(object, "function f() end");
    due("read() of a function of another text", object.read(), 5);
  }

  /** Functions stand in the program alone, and their heads are whole. */
  private static void functionHeads() {
    dueFault("while (1) `function f() end end");
    dueFault("function f() `function g() end end");
    dueFault("if (1) else `function f() end end");
    dueFault("function`");
    dueFault("function `(a) end");
    dueFault("function `1() end");
    dueFault("function `~ = f() end");
    dueFault("function f `end");
    dueFault("function f `, a");
    dueFault("function a = b `= c() end");
    dueFault("function f(`1) end");
    dueFault("function f(a,`) end");
    dueFault("function f(a `b) end");
    dueFault("function f(`~) end");
    dueFault("function f(a`(1)) end");
    dueFault("function [a `= f() end");
    dueFault("function [a] `f() end");
    dueFault("function [a] = `(b) end");
    dueFault("function [a] = `[b] end");
    dueFault("function [a, `~] = f() end");
    dueFault("function f() `;end");
    dueFault("function f()`");
    dueFault("function f() end `;");
    dueFault("function f() `else end");
    dueFault("function f() `catch end");
  }

  /** "if .. (elseif ..)* [ else statement* ] end" and "try .. catch .. end": one else, one catch, and nothing behind them but end. */
  private static void lastBlocks() {
    dueRight("if (1) end", 5);
    dueRight("if (1) else end", 6);
    dueFault("if (1) else `else end");
    dueFault("if (1) else `elseif (1) end");
    dueRight("if (1) " + "elseif (1) ".repeat(100) + "else end", 406);
    dueFault("`else end");
    dueFault("`elseif (1) end");
    dueFault("while (1) `else end");
    dueFault("for (k = 1) `elseif (1) end");
    dueFault("try `end");
    dueRight("try catch end", 3);
    dueFault("try catch `catch end");
    dueFault("try catch `else end");
    dueFault("`catch end");
    dueFault("if (1) `catch end");
    dueFault("`end");
    dueFault("if (1) end `end");
    dueRight("if (1) if (1) else end else end", 12);
    dueRight("try try catch end catch end", 6);
  }

  /** What stood open in a text that was refused is not open in the next one. */
  private static void behindFaults() {
    String[][] texts = {{"while (1) ", "`break;"}, {"for (k = 1) a", "`continue;"}, {"a(:, ", "a(1, 2, 3);"},
        {"a(end, ", "b = a(1, 2, 3);"}, {"if (1) else ", "if (1) else end"}, {"try catch ", "try catch end"}, {"[a, ", "([b]) + 1;"}, {"[a, b", "([~`]);"},
        {"function f() end function g(", "function f() end"}, {"function [a, b, c", "function [a, b] = g(c) end"},
        {"print 1,2,3,4,5,6,7,8", "print 1,2,3,4,5,6,7,8;"}, {"f(1,2,3,4,5,6,7,8", "f(1,2,3,4,5,6,7,8);"}, {"a:b:c", "a:b:c;"},
        {"a^-", "-a^-b;"}, {"x(", "`end;"}, {"x(", "(`end);"}};
    for (String[] pair : texts) {
      int place = pair[1].indexOf('`');
      Counted object = Texts.read(pair[0]);
      due("place() of " + pair[0], object.place(), pair[0].length());
      Texts.feed(object, pair[1].replace("`", ""));
      object.read();
      due("place() of " + pair[1] + " behind " + pair[0], object.place(), place);
    }
  }

  /** "range = sum [ ':' sum [ ':' sum ] ]" and "power = post (('^'|'.^') ['-'] post)*": no third ':' and no second '-'. */
  private static void rangesAndPowers() {
    dueRight("a:b;", 4);
    dueRight("a:b:c;", 6);
    dueFault("a:b:c`:d;");
    dueFault("a:b:c+1`:d;");
    dueRight("a:b:c == d:e:f;", 12);
    dueRight("a:b:(c:d:e);", 12);
    dueFault("a:`:b;");
    dueRight("a^-b;", 5);
    dueFault("a^-`-b;");
    dueFault("a.^-`-b;");
    dueFault("a^-`+b;");
    dueFault("a^`+b;");
    dueFault("a.^`~b;");
    dueRight("a^-b^-c.^-d;", 11);
    dueRight("a'';", 4);
    dueFault("a'`(1);");
    dueFault("a(1)`(2);");
    dueFault("(a)`(1);");
    dueFault("[a]`(1);");
  }

  /** "the text's length, if its end is too early": each beginning of a program is one, or has its fault at its end. */
  private static void beginnings() {
    String text = "function [ q , r ] = s ( a , b ) if ( a > 0 && ~ b ) q = a ; return ; elseif ( b ) r = 1 : 2 : 9 ; else q = 0 ; end end "
        + "function none ( ) end [ u , ~ ] = s ( 1 , 2 ) ; for ( k = [ 1 , 2 ; 3 , \"t\" ] ) try show k , k ' ; catch break ; end end "
        + "m ( 2 , end : 3 ) = - u .* 4 ^ - 2 ; while ( m ( : , : ) ) continue ; end print x , f ( ) ; ( [ a ] \\ b ) ; [ ] ; ";
    dueRight(text, text.split(" ").length);
    for (int length = 0; length < text.length(); length = text.indexOf(' ', length) + 1) {
      String beginning = text.substring(0, length);
      boolean isWhole = new SecondReader(beginning).program != null;
      Counted object = Texts.read(beginning);
      due("place() of " + beginning, object.place(), isWhole ? NONE : length);
      Texts.feed(object, beginning + "%\n");
      object.read();
      due("place() of " + beginning + "and a remark", object.place(), isWhole ? NONE : length + 2);
    }
  }

  /** "at the place of the first token with which the tokens up to it are no beginning of a program" */
  private static void firstFault() {
    dueFault("a `b");
    dueFault("a `) ] 1e999 #");
    dueFault("a = `= = b");
    dueFault("f(1, `) end break;");
    dueFault("  % break;\n `break; #");
    dueFault("x = (1 + 2`; y = (3;");
    dueFault("`;;");
    dueFault("a;`;");
    dueFault("if (1) end `end end");
    dueFault("try a; `end catch");
  }

  /**
   * "The 16385th token cannot stand." No 512 calls bring so many on a tape: 20 characters a call, of which seven tokens become nine
   * in the form, as ^-(b+c) does. So the tokens that can come are looked at alone: all of them stand.
   */
  private static void mostTokens() {
    Counted object = new Counted();
    for (int calls = 1; calls <= 509; calls++) {
      Texts.feedFrom(object, "a;a;a;a;a;a;a;a;a;a;", 0);
    }
    due("read() of 10180 tokens", object.read(), 10180);
    due("nodes() of 10180 tokens", object.nodes(), 10181);
    due("part(0, 5089) of 10180 tokens", object.part(0, 5089), 10179);
    int powers = 1440;
    Counted grown = new Counted();
    Texts.feed(grown, "a" + "^-(b+c)".repeat(powers) + ";");
    due("read() of many powers", grown.read(), 2 + 7 * powers);
    due("write() of many powers", grown.write(), 3 + 11 * powers);
    due("rewind() of many powers", grown.rewind(), 3 + 11 * powers);
    due("read() of the form of many powers", grown.read(), 2 + 9 * powers);
    due("nodes() of the form of many powers", grown.nodes(), 3 + 5 * powers);
  }

  public static void main(String[] args) {
    equals();
    equalsAndBrackets();
    allArguments();
    endArguments();
    nearestName();
    noThirdArgument();
    callBounds();
    targetBounds();
    valueBounds();
    rows();
    eitherStatement();
    behindTargets();
    loops();
    functionBounds();
    functionNames();
    functionHeads();
    lastBlocks();
    behindFaults();
    rangesAndPowers();
    beginnings();
    firstFault();
    mostTokens();
    finish();
  }
}
