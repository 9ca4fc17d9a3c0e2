import java.math.BigInteger;

/** The sentences of 'Terms' about blanks and tokens that name a bound, for promises 4, 5 and 9. */
public final class TokenBoundsTest extends Checks {
  private static final String LETTERS = "ABCDEFGHIJKLMNOPQRSTUVWXYZabcdefghijklmnopqrstuvwxyz";
  private static final String DIGITS = "0123456789";
  private static final String[] WORDS = {"if", "elseif", "else", "end", "while", "for", "break", "continue", "return",
      "function", "print", "show", "try", "catch"};

  private static boolean isOneOf(String characters, int character) {
    return characters.indexOf(character) >= 0;
  }

  /** The only statement of a text is a token alone, and just this one. */
  private static void dueToken(int kind, String token) {
    dueRight(token + ";", 2);
    Counted object = Texts.read(" " + token + ";");
    int last = token.length() - 1;
    due("node(2, 0) of " + token, object.node(2, 0), kind);
    due("node(2, 1) of " + token, object.node(2, 1), 1);
    due("character(2, 0) of " + token, object.character(2, 0), (int) token.charAt(0));
    due("character(2, last) of " + token, object.character(2, last), (int) token.charAt(last));
    due("character(2, last + 1) of " + token, object.character(2, last + 1), NONE);
  }

  /** Every character between two names, where it may be a blank, part of a name, an operation, another token, or none. */
  private static void everyCharacterBetweenNames() {
    for (int character = 0; character < 256; character++) {
      String text = "a" + (char) character + "b;";
      if (isOneOf("\t\n\r '", character)) {
        dueFaultAt(2, text);
      } else if (isOneOf(LETTERS + DIGITS + "_", character)) {
        dueRight(text, 2);
      } else if (isOneOf("<>:+-*/\\^=;", character)) {
        dueRight(text, 4);
      } else if (character == '(') {
        dueFaultAt(3, text);
      } else if (character == '%') {
        dueFaultAt(4, text);
      } else {
        dueFaultAt(1, text);
      }
    }
  }

  /** Every character at the beginning, where a name may begin but with letters alone. */
  private static void everyCharacterFirst() {
    for (int character = 0; character < 256; character++) {
      String text = (char) character + "b;";
      if (isOneOf("\t\n\r " + LETTERS, character)) {
        dueRight(text, 2);
      } else if (isOneOf("-+~", character)) {
        dueRight(text, 3);
      } else if (isOneOf(DIGITS, character)) {
        dueFaultAt(1, text);
      } else if (character == '(') {
        dueFaultAt(2, text);
      } else if (character == '[') {
        dueFaultAt(3, text);
      } else if (character == '%') {
        dueRight(text, 0);
      } else {
        dueFaultAt(0, text);
      }
    }
  }

  /** "'%' and all up to the end of its line (10) are as a blank" */
  private static void remarks() {
    for (int character = 0; character < 256; character++) {
      String text = "a%" + (char) character + "#\n;";
      if (character == '\n') {
        dueFaultAt(3, text);
      } else {
        dueRight(text, 2);
      }
    }
    dueRight("%", 0);
    dueRight("%\n", 0);
    dueRight("%\na;", 2);
    dueRight("a;%", 2);
    dueRight("a;%%\n%b;\n%\nc;", 4);
    dueFault("a %;\n`");
    dueFault("a %;`");
    dueFault("a%\n`b;");
    dueFault("1%\n`2;");
    dueFault("a <%\n`= b;");
    dueRight("print \"%\", \"a\";%\"", 5);
  }

  /** "a NAME is a letter (..) and any letters, digits and '_' (one of more than 255 is no token)" */
  private static void names() {
    dueToken(32, "a");
    dueToken(32, "Z");
    dueToken(32, "z_");
    dueToken(32, "A0__9z");
    dueToken(32, "e5");
    for (int length = 254; length <= 255; length++) {
      dueToken(32, "N".repeat(length));
      dueToken(32, "n" + "_".repeat(length - 1));
      dueRight("function " + "f".repeat(length) + "() end", 5);
      dueRight("[" + "f".repeat(length) + ", b] = " + "f".repeat(length) + "();", 10);
    }
    for (int length = 256; length <= 257; length++) {
      dueFault("`" + "N".repeat(length) + ";");
      dueFault("x = `n" + "_".repeat(length - 1) + ";");
      dueFault("x + `" + "a1".repeat(length / 2) + "b;");
      dueFault("function `" + "f".repeat(length) + "() end");
      dueFault("[b, `" + "f".repeat(length) + "] = f();");
    }
    dueFault("`end" + "s".repeat(253) + ";");
    dueFault("`" + "N".repeat(5000) + ";");
    dueRight("N".repeat(255) + " + " + "n".repeat(255) + ";", 4);
    dueFault("N".repeat(255) + " `" + "n".repeat(255) + ";");
  }

  /** "A is another one than a": also where names must differ, at their first and their last character. */
  private static void namesThatDiffer() {
    String longName = "n".repeat(254);
    dueRight("function " + longName + "a() end function " + longName + "A() end function " + longName + "() end", 15);
    dueFault("function " + longName + "a() end function " + longName + "a`() end");
    dueFault("function a" + longName + "() end function x = `a" + longName + "() end");
    dueRight("function [a, A] = f(ab, aB, Ab, AB, a, b, a_) end", 24);
    dueFault("function [ab, `ab] = f() end");
    dueFault("function f(ab, aB, Ab, `ab) end");
  }

  /** "WORDS are no names" */
  private static void words() {
    for (String word : WORDS) {
      dueFault("x = `" + word + ";");
      dueFault("for (`" + word + " = 1) end");
      dueFault("function `" + word + "() end");
      dueFault("function f(`" + word + ") end");
      dueFault("function [`" + word + "] = f() end");
      dueFault("[~, `" + word + "] = f();");
      dueFault("[a] = `" + word + "();");
      dueToken(32, word + "s");
      dueToken(32, word + "_");
      dueToken(32, word + "1");
      dueToken(32, "x" + word);
      dueToken(32, word.substring(0, 1).toUpperCase() + word.substring(1));
      dueToken(32, word.toUpperCase());
      dueToken(32, word.substring(0, word.length() - 1));
    }
  }

  /** "a NUMERAL is digits, then perhaps '.' and digits, then perhaps 'e', a sign or none, and digits" */
  private static void numerals() {
    String[] whole = {"0", "9", "00", "0123456789", "1.0", "0.000", "10.01", "1e0", "1e5", "1e+5", "1e-5", "1.5e05", "1.5e+05",
        "1.5e-05", "0.5e-0"};
    for (String numeral : whole) {
      dueToken(30, numeral);
    }
    dueFault("`.5;");
    dueFault("1`.;");
    dueFault("1`. 5;");
    dueFault("1`.e5;");
    dueFault("1.5`.5;");
    dueFault("1e5`.5;");
    dueFault("1 `.5;");
    dueFault("1`e;");
    dueFault("1`e ;");
    dueFault("1`e+;");
    dueFault("1`e-;");
    dueFault("1`e+-5;");
    dueFault("1`e +5;");
    dueFault("1`e.5;");
    dueFault("1.5`e;");
    dueFault("1e5`e5;");
    dueFault("1`E5;");
    dueFault("1`_;");
    dueFault("1 `1;");
    dueRight("1e5-5+1e-5;", 6);
    dueRight("1.*2./3.^4;", 8);
    dueRight("1.5.*2e1./3.5e1.^4;", 8);
    dueRight("1\\2';", 5);
    dueToken(30, "1".repeat(300));
    dueToken(30, "0." + "1".repeat(5000));
    dueToken(30, "1e-" + "9".repeat(5000));
    dueToken(30, "0".repeat(5000));
  }

  private static void dueNotFinite(String numeral) {
    dueFault("`" + numeral + ";");
    dueFault("x = `" + numeral + ".^2;");
  }

  /** "it is the number nearest to its value, which must be finite (otherwise it is no token ..)": at the bound. */
  private static void finiteNumerals() {
    String bound = BigInteger.TWO.pow(1024).subtract(BigInteger.TWO.pow(970)).toString();
    String below = new BigInteger(bound).subtract(BigInteger.ONE).toString();
    String beyond = new BigInteger(bound).add(BigInteger.ONE).toString();
    String largest = BigInteger.TWO.pow(1024).subtract(BigInteger.TWO.pow(971)).toString();
    String[] finite = {largest, below, below + ".9", below + "." + "9".repeat(500), "000" + below + ".999", below + "e0", below + "e-0",
        "0.00" + below + "e311", "0." + below + "e+309", below.charAt(0) + "." + below.substring(1) + "9e308",
        below + "000e-3", below + "e-1", bound + "e-1", beyond.substring(0, 308), "0." + bound + "e308"};
    for (String numeral : finite) {
      dueToken(30, numeral);
    }
    String[] notFinite = {bound, bound + ".0", bound + "." + "0".repeat(500), "000" + bound + ".000", bound + "e0", bound + "e-0",
        "0.00" + bound + "e311", "0." + bound + "e+309", bound.charAt(0) + "." + bound.substring(1) + "e308",
        bound + "000e-3", bound + ".0e0", beyond, bound + ".1", below + "e1", "0." + below + "e310"};
    for (String numeral : notFinite) {
      dueNotFinite(numeral);
    }
  }

  /** "the longest one that can be cut is looked at alone: 1e999 is none": no shorter one takes its place. */
  private static void largeExponents() {
    String[] finite = {"1e308", "0.1e309", "1.7976931348623157e308", "1.7976931348623158e308", "0.00017e312", "1" + "0".repeat(308),
        "9" + "9".repeat(307), "0e999", "0e99999999999999999999", "0.000e+99999999999999999999", "00.00e4294967296",
        "1e-99999999999999999999", "1e-4294967296", "1e-2147483648", "1e000000000000000000000000000001",
        "0." + "0".repeat(2000) + "1e2300", "0." + "0".repeat(2000) + "1e2309", "1" + "0".repeat(2000) + "e-1692"};
    for (String numeral : finite) {
      dueToken(30, numeral);
    }
    String[] notFinite = {"1e999", "1e309", "10e308", "0.1e310", "1.7976931348623159e308", "1.8e308", "2e308", "9e308", "1e310",
        "1" + "0".repeat(309), "1" + "0".repeat(5000), "1e99999999999999999999", "1e4294967296", "1e4294967297", "1e2147483648",
        "1e18446744073709551616", "0.1e18446744073709551616", "1e+" + "9".repeat(3000),
        "0." + "0".repeat(2000) + "1e2310", "1" + "0".repeat(2000) + "e-1691"};
    for (String numeral : notFinite) {
      dueNotFinite(numeral);
    }
  }

  /** "a TEXT is '"', up to 4096 characters from 32 to 126 but '"', and '"'" */
  private static void texts() {
    for (int character = 0; character < 256; character++) {
      String text = "\"" + (char) character + "\"";
      if (character == '"') {
        dueFaultAt(2, text + ";");
      } else if (character >= 32 && character <= 126) {
        dueToken(31, text);
      } else {
        dueFaultAt(0, text + ";");
      }
    }
    dueToken(31, "\"\"");
    dueToken(31, "\"" + "t".repeat(4095) + "\"");
    dueToken(31, "\"" + "~".repeat(4096) + "\"");
    dueFault("`\"" + "t".repeat(4097) + "\";");
    dueFault("x = `\"" + " ".repeat(4098) + "\";");
    dueFault("x = `\"" + "t".repeat(6000) + "\";");
    dueFault("`\"");
    dueFault("`\"open;");
    dueFault("`\"" + "t".repeat(4096));
    dueFault("`\"two\nlines\";");
    dueFault("`\"tab\t\";");
    dueFault("\"a\"`\"b\";");
    dueRight("\"%\";\"[ '~!\";", 4);
  }

  /** "TOKENS are as long as can be": two signs are one token where they can be. */
  private static void longSigns() {
    String[] operations = {"||", "&&", "==", "~=", "<=", ">=", "<", ">", ":", "+", "-", "*", "/", "\\", ".*", "./", "^", ".^"};
    for (String operation : operations) {
      Counted object = dueRight("a" + operation + "b;", 4);
      due("node(2, 0) of " + operation, object.node(2, 0), operation.equals(":") ? 41 : 40);
      due("character(2, 0) of " + operation, object.character(2, 0), (int) operation.charAt(0));
      due("character(2, 1) of " + operation, object.character(2, 1), operation.length() == 2 ? (int) operation.charAt(1) : NONE);
      due("character(2, 2) of " + operation, object.character(2, 2), NONE);
      if (operation.length() == 2) {
        dueFault("a " + (isOneOf("|&.~", operation.charAt(0)) ? "`" : "") + operation.charAt(0) + " "
            + (isOneOf("=<>", operation.charAt(0)) ? "`" : "") + operation.charAt(1) + " b;");
      }
    }
    dueFault("a<=`=b;");
    dueFault("a==`=b;");
    dueFault("a~=`=b;");
    dueFault("a<`>b;");
    dueFault("a=`<b;");
    dueRight("a=~b;", 5);
    dueRight("a==~b;", 5);
    dueFault("a||`|b;");
    dueFault("a&&`&b;");
    dueFault("a`|");
    dueFault("a`&");
    dueFault("a`.");
    dueFault("a`.'b;");
    dueFault("a`..*b;");
    dueFault("a.*`*b;");
    dueFault("a `.\\ b;");
    dueFault("[`~=b];");
  }

  /** "(no token: where it begins)": also where another token would be wrong, and behind blanks. */
  private static void noTokens() {
    dueFault("a; `\u0000");
    dueFault("a; % #\n\t`#");
    dueFault("(a `# b);");
    dueFault("a `1e999;");
    dueFault("if (a) `\"open end");
    dueFault("if `#");
    dueFault("function `#");
    dueFault("[a, `#");
    dueFault("[~, `#");
    dueFault("f(:, `#");
    dueFault("a = b; `$");
  }

  public static void main(String[] args) {
    everyCharacterBetweenNames();
    everyCharacterFirst();
    remarks();
    names();
    namesThatDiffer();
    words();
    numerals();
    finiteNumerals();
    largeExponents();
    texts();
    longSigns();
    noTokens();
    finish();
  }
}
