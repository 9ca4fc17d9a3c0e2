/** Each promise of the document with ordinary and wrong inputs; the bounds have tests of their own. */
public final class PromisesTest extends Checks {
  private static void read() {
    dueRight("", 0);
    dueRight("  \t\r\n % all of it ( \"", 0);
    dueRight("a;%b\nc;", 4);
    dueRight("a1_B + Ab;", 4);
    dueRight("AZaz_09 = Z + z;", 6);
    dueRight("endif = iff + ends;", 6);
    dueRight("1.5e+10 + 2e-3 - 0.5;", 6);
    dueRight("1.*2./3.^4;", 8);
    dueRight("a<=b>=c==d~=e<f>g||h&&i;", 18);
    dueRight("\"%[ '~!\";", 2);
    dueRight("return;", 2);
    dueRight("f(1,2,3,4,5,6,7,8);", 19);
    dueRight("print 1,2,3,4,5,6,7,8;", 17);
    dueRight("[a,b,c,d,e,f,g,h] = z(1,2,3,4,5,6,7,8);", 37);
    dueRight("[a,b,c,d,e,f,g,h,i];", 20);
    dueRight("[~,~,~,~,~,~,~,~] = z();", 22);
    dueRight("function [a,b,c,d,e,f,g,h] = z(a,b,c,d,e,f,g,h) end", 38);
    dueRight("function f = f(f) end f = f(f);", 15);
    dueRight("function f() end function F() end", 10);
    dueRight("while (1) if (a) break; end try continue; catch break; end end", 19);
    dueRight("f(end, (end));", 9);
    dueRight("f([end, 1; end], end');", 14);
    dueRight("f(:, :);", 7);
    dueRight("f(g(:), 2, 3);", 12);
    Counted object = dueRight("a = 1;", 4);
    Texts.feed(object, "b");
    due("read() of b", object.read(), NONE);
    due("nodes() of the tree before", object.nodes(), 4);
    due("read() of the tape behind a fault", object.read(), 0);
    due("nodes() of an empty program", object.nodes(), 1);
  }

  private static void grammarFaults() {
    dueFault("`;");
    dueFault("a`");
    dueFault("a  %b\n`");
    dueFault("a +`");
    dueFault("a + `;");
    dueFault("a `b;");
    dueFault("a; `)");
    dueFault("(a`;");
    dueFault("(a`];");
    dueFault("[a`);");
    dueFault("(`);");
    dueFault("(a`, b);");
    dueFault("a(1`;");
    dueFault("a(1,`);");
    dueFault("a(`,);");
    dueFault("a'`(1);");
    dueFault("a(1)`(2);");
    dueFault("[a]`(1);");
    dueFault("\"a\"`(1);");
    dueFault("a ^ `+b;");
    dueFault("a ^ `~b;");
    dueFault("a .^ -`-b;");
    dueFault("a * `* b;");
    dueFault("a' `b;");
    dueFault("a:b:c`:d;");
    dueFault("[`;];");
    dueFault("[a,`];");
    dueFault("[a;`];");
    dueFault("[`,a];");
    dueFault("[[a;`]];");
    dueFault("`end;");
    dueFault("`else;");
    dueFault("`catch;");
    dueFault("if `a;");
    dueFault("if (a`;");
    dueFault("if (a `= 1) end");
    dueFault("if (`) end");
    dueFault("if (1) else `else end");
    dueFault("if (1) else `elseif (1) end");
    dueFault("if (1) `catch end");
    dueFault("if (1) end `end");
    dueFault("if (1)`");
    dueFault("while (1) `else end");
    dueFault("while `1;");
    dueFault("for (`1 = 2) end");
    dueFault("for (`end = 2) end");
    dueFault("for (k `== 2) end");
    dueFault("for (k`(1) = 2) end");
    dueFault("for (k = 2`, 3) end");
    dueFault("try a; `end");
    dueFault("try catch `catch end");
    dueFault("try `else end");
    dueFault("`break;");
    dueFault("`continue;");
    dueFault("while (1) end `break;");
    dueFault("if (1) `break; end");
    dueFault("while (1) end function f() `continue; end");
    dueFault("while (1) break`, end");
    dueFault("return `1;");
    dueFault("print `;");
    dueFault("show a,`;");
    dueFault("print 1,2,3,4,5,6,7,8`,9;");
    dueFault("show 1,2,3,4,5,6,7,8`,9;");
    dueFault("print a `= 1;");
    dueFault("while (1) `function f() end end");
    dueFault("function f() `function g() end end");
  }

  /** Nothing of texts that were refused is left when others are read, in one object. */
  private static void afterFaults() {
    Counted object = Texts.read("while (1) [");
    Texts.feed(object, "a + b * -(-");
    object.read();
    Texts.feed(object, "([b]) + 1;");
    due("read() of rows behind open targets", object.read(), 8);
    due("write() of rows", object.write(), 9);
  }

  private static void placeAnswers() {
    Counted object = Texts.read("  a b");
    due("place() of a fault", object.place(), 4);
    due("place() asked again", object.place(), 4);
    Texts.feed(object, "x y z");
    due("place() before the next read()", object.place(), 4);
    object.end(object.feed(0, 0, 0, 0, 0) - 25);
    object.read();
    due("place() of the next fault", object.place(), 2);
    object.read();
    due("place() behind a right text", object.place(), NONE);
    Texts.feed(object, "a;\n  ( %\n");
    object.read();
    due("place() of an early end", object.place(), 9);
  }

  private static void trees() {
    dueTree("", "0@0");
    dueTree(" a;", "0@0(20@1{a}(32@1{a}))");
    dueTree("(a);", "0@0(20@0{(}(32@1{a}))");
    dueTree("a = b;", "0@0(21@2/0{=}(32@0{a} 32@4{b}))");
    dueTree("a(1, :) = b;", "0@0(21@8/0{=}(33@0/1{a}(30@2{1} 34@5{:}) 32@10{b}))");
    dueTree("f();", "0@0(20@0{f}(33@0/1{f}))");
    dueTree("f( end );", "0@0(20@0{f}(33@0/1{f}(35@3{end})))");
    dueTree("\"a b\"';", "0@0(20@0{\"a b\"}(38@5{'}(31@0{\"a b\"})))");
    dueTree("1.50e+2;", "0@0(20@0{1.50e+2}(30@0{1.50e+2}))");
    dueTree("[];", "0@0(20@0{[}(36@0{[}))");
    dueTree("[1,(a);-b];",
        "0@0(20@0{[}(36@0{[}(37@1{1}(30@1{1} 32@4{a}) 37@7{-}(39@7{-}(32@8{b})))))");
    dueTree("a+b-c;", "0@0(20@0{a}(40@3{-}(40@1{+}(32@0{a} 32@2{b}) 32@4{c})))");
    dueTree("a+b*c;", "0@0(20@0{a}(40@1{+}(32@0{a} 40@3{*}(32@2{b} 32@4{c}))))");
    dueTree("-a^-b';", "0@0(20@0{-}(39@0{-}(40@2{^}(32@1{a} 39@3{-}(38@5{'}(32@4{b}))))))");
    dueTree("a^b^c;", "0@0(20@0{a}(40@3{^}(40@1{^}(32@0{a} 32@2{b}) 32@4{c})))");
    dueTree("a^-b^c;", "0@0(20@0{a}(40@4{^}(40@1{^}(32@0{a} 39@2{-}(32@3{b})) 32@5{c})))");
    dueTree("-a*b;", "0@0(20@0{-}(40@2{*}(39@0{-}(32@1{a}) 32@3{b})))");
    dueTree("a:b;", "0@0(20@0{a}(41@1{:}(32@0{a} 32@2{b})))");
    dueTree("a:b:c==d;", "0@0(20@0{a}(40@5{==}(41@1/3{:}(32@0{a} 32@2{b} 32@4{c}) 32@7{d})))");
    dueTree("a||b&&c<=d;",
        "0@0(20@0{a}(40@1{||}(32@0{a} 40@4{&&}(32@3{b} 40@7{<=}(32@6{c} 32@9{d})))))");
    dueTree("a.^b.*c./d\\e;",
        "0@0(20@0{a}(40@10{\\}(40@7{./}(40@4{.*}(40@1{.^}(32@0{a} 32@3{b}) 32@6{c}) 32@9{d}) 32@11{e})))");
    dueTree("print a, 1;show b;", "0@0(18@0{print}(32@6{a} 30@9{1}) 19@11{show}(32@16{b}))");
    dueTree("return;", "0@0(17@0{return})");
    dueTree(" [a, ~] = f(1);", "0@0(10@8/1{=}(2@1(32@2{a} 5@5{~}) 33@10/11{f}(30@12{1})))");
    dueTree("[a] = f();", "0@0(10@4/0{=}(2@0(32@1{a}) 33@6/7{f}))");
    dueTree("while (a) break; continue; end",
        "0@0(12@0{while}(32@7{a} 3@8(15@10{break} 16@17{continue})))");
    dueTree("for (k = a) end", "0@0(13@0{for}(32@5{k} 32@9{a} 3@10))");
    dueTree("try a; catch b; end", "0@0(14@0{try}(3@0(20@4{a}(32@4{a})) 3@7(20@13{b}(32@13{b}))))");
    dueTree("if (a) elseif (b) c; else end",
        "0@0(11@0{if}(32@4{a} 3@5 32@15{b} 3@16(20@18{c}(32@18{c})) 3@21))");
    dueTree("if (a) end", "0@0(11@0{if}(32@4{a} 3@5))");
    dueTree(" function name() end", "0@0(1@1{name}(2@10 2@14 3@15))");
    dueTree("function r = name(a, b) r = a; end a;",
        "0@0(1@0{name}(2@13(32@9{r}) 2@17(32@18{a} 32@21{b}) 3@22(21@26/24{=}(32@24{r} 32@28{a}))) 20@35{a}(32@35{a}))");
    dueTree("function [r, s] = name() end", "0@0(1@0{name}(2@18(32@10{r} 32@13{s}) 2@22 3@23))");
  }

  private static void forms() {
    dueForm("", "");
    dueForm("a;b=c;", "a;\nb = c;\n");
    dueForm("((a));", "a;\n");
    dueForm("a*(b+c)-(d*e);", "a * (b + c) - d * e;\n");
    dueForm("a-(b-c)-d;", "a - (b - c) - d;\n");
    dueForm("(a||b)&&(c||d);", "(a || b) && (c || d);\n");
    dueForm("a||(b||c);", "a || (b || c);\n");
    dueForm("(a==b)==(c==d);", "a == b == (c == d);\n");
    dueForm("(a:b):(c+d):(e:f:g);", "(a:b):c + d:(e:f:g);\n");
    dueForm("(a==b):(c||d);", "(a == b):(c || d);\n");
    dueForm("(a:b)+c;", "(a:b) + c;\n");
    dueForm("(-a)*-b;", "-a * -b;\n");
    dueForm("-(a*b);", "-(a * b);\n");
    dueForm("-(a^b);", "-a^b;\n");
    dueForm("(-a)^b;", "(-a)^b;\n");
    dueForm("a^(-b);", "a^-b;\n");
    dueForm("a.^(-b');", "a.^-b';\n");
    dueForm("a^(+b);", "a^(+b);\n");
    dueForm("a^(~b);", "a^(~b);\n");
    dueForm("a^(--b);", "a^(--b);\n");
    dueForm("a^(-b^c);", "a^(-b^c);\n");
    dueForm("a^-(b+c);", "a^(-(b + c));\n");
    dueForm("a^-(b(1));", "a^-b(1);\n");
    dueForm("a^-[b];", "a^-[b];\n");
    dueForm("a^(b^c);", "a^(b^c);\n");
    dueForm("(a^b)^c;", "a^b^c;\n");
    dueForm("(a^b)';", "(a^b)';\n");
    dueForm("(-a)';", "(-a)';\n");
    dueForm("(a')';", "a'';\n");
    dueForm("-(-(~a));", "--~a;\n");
    dueForm("2.^3.*4./5\\6;", "2.^3 .* 4 ./ 5 \\ 6;\n");
    dueForm("f( (a) , :)=g( );", "f(a, :) = g();\n");
    dueForm("[ 1 ,2;3,(4:5) ];[];", "[1, 2; 3, 4:5];\n[];\n");
    dueForm("print a,\"  b \" ;show 1e0;", "print a, \"  b \";\nshow 1e0;\n");
    dueForm("[a,~]=f(1,g(end));return;", "[a, ~] = f(1, g(end));\nreturn;\n");
    dueForm("function f()end function a=g(b)end function[a]=h(b,c)return;end function[a,b]=k()end",
        "function f()\nend\nfunction a = g(b)\nend\nfunction a = h(b, c)\n  return;\nend\nfunction [a, b] = k()\nend\n");
    dueForm("if(a)b;elseif(c)elseif(d)e;else f;end", "if (a)\n  b;\nelseif (c)\nelseif (d)\n  e;\nelse\n  f;\nend\n");
    dueForm("if(a)else end", "if (a)\nelse\nend\n");
    dueForm("function f()while(a)for(k=1:2)try break;catch continue;end end end end",
        "function f()\n  while (a)\n    for (k = 1:2)\n      try\n        break;\n      catch\n        continue;\n"
        + "      end\n    end\n  end\nend\n");
  }

  private static void writtenAnswers() {
    Counted object = Texts.read("a");
    due("write() without a tree", object.write(), NONE);
    Texts.feed(object, "a ;");
    object.read();
    due("written(0) before write()", object.written(0), NONE);
    due("write()", object.write(), 3);
    due("written(0)", object.written(0), (int) 'a');
    due("written(1)", object.written(1), (int) ';');
    due("written(2)", object.written(2), 10);
    due("written(3)", object.written(3), NONE);
    due("written(-1)", object.written(-1), NONE);
    due("written(largest)", object.written(Integer.MAX_VALUE), NONE);
    due("written(smallest)", object.written(Integer.MIN_VALUE), NONE);
    Texts.feed(object, "bc;");
    object.read();
    due("written(0) behind another read()", object.written(0), (int) 'a');
    due("rewind()", object.rewind(), 3);
    due("written(0) behind rewind()", object.written(0), (int) 'a');
    object.feed(0x20202020, 0x20202020, 0x20202020, 0x20202020, 0x20202028);
    object.read();
    due("place() behind rewind() and feed", object.place(), 23);
    Texts.feed(object, "lost");
    due("rewind() over a tape", object.rewind(), 3);
    due("read() of the form", object.read(), 2);
    due("character(1, 0)", object.character(1, 0), (int) 'a');
    object.write();
    object.read();
    due("write() of an empty program", object.write(), 0);
    due("written(0) of an empty form", object.written(0), NONE);
    due("rewind() of an empty form", object.rewind(), 0);
  }

  /** The example of README.md, call by call. */
  private static void example() {
    Counted x = new Counted();
    due("feed of the example", x.feed(0x61203D20, 0x622B313B, 0, 0, 0), 20);
    due("end(8) of the example", end(x, 8), "8");
    due("read() of the example", x.read(), 6);
    due("place() of the example", x.place(), NONE);
    due("nodes() of the example", x.nodes(), 6);
    due("node(3, 0) of the example", x.node(3, 0), 40);
    due("node(3, 1) of the example", x.node(3, 1), 5);
    due("node(3, 2) of the example", x.node(3, 2), NONE);
    due("node(3, 3) of the example", x.node(3, 3), 2);
    due("part(3, 1) of the example", x.part(3, 1), 5);
    due("character(3, 0) of the example", x.character(3, 0), (int) '+');
    due("character(3, 1) of the example", x.character(3, 1), NONE);
    due("write() of the example", x.write(), 11);
    due("written(0) of the example", x.written(0), (int) 'a');
    due("written(10) of the example", x.written(10), 10);
    due("rewind() of the example", x.rewind(), 11);
    due("feed of what is wrong in the example", x.feed(0x29202020, 0, 0, 0, 0), 31);
    due("end(1) of the example", end(x, 1), "12");
    due("read() of what is wrong in the example", x.read(), NONE);
    due("place() of what is wrong in the example", x.place(), 11);
    due("nodes() behind what is wrong in the example", x.nodes(), 6);
  }

  private static void deepTrees() {
    String turned = "a" + "'".repeat(8000) + ";";
    Counted object = dueRight(turned, 8002);
    due("nodes() of many turns", object.nodes(), 8003);
    due("part(8001, 0) of many turns", object.part(8001, 0), 8002);
    due("write() of many turns", object.write(), 8003);
    Counted sums = dueRight("a" + "+a".repeat(4000) + ";", 8002);
    due("write() of a long sum", sums.write(), 1 + 4000 * 4 + 2);
    due("node(4001, 1) of a long sum", sums.node(4001, 1), 1);
    Counted many = dueRight("a;".repeat(4000), 8000);
    due("part(0, 3999) of many statements", many.part(0, 3999), 7999);
    StringBuilder signs = new StringBuilder();
    for (int level = 0; level < 60; level++) {
      signs.append("-".repeat(60 - level)).append("a^(");
    }
    String open = signs.toString();
    Counted signed = dueRight(open + "b" + ")".repeat(60) + ";", open.length() + 62);
    due("nodes() of many signs", signed.nodes(), 2 + 1830 + 120 + 1);
  }

  public static void main(String[] args) {
    read();
    grammarFaults();
    afterFaults();
    placeAnswers();
    trees();
    forms();
    writtenAnswers();
    example();
    deepTrees();
    finish();
  }
}
