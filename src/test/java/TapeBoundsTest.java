/** The sentences of promises 1 to 5 and 12 that name a bound or a refused call: a new object, the tape, and reading. */
public final class TapeBoundsTest extends Checks {
  private static final int BLANKS = 0x20202020;

  private static int feedBlanks(Counted object) {
    return object.feed(BLANKS, BLANKS, BLANKS, BLANKS, BLANKS);
  }

  /** A new object whose tape is a form of 65536 characters, which has been written; it has used some hundred calls. */
  private static Counted withFullTape() {
    Counted object = Texts.write(Texts.withForm(65536));
    due("rewind() of a full form", object.rewind(), 65536);
    return object;
  }

  private static void dueSize(String when, Counted object, int size) {
    due("end(20) " + when, end(object, 20), "" + size);
  }

  private static void dueEmptyTape(String when, Counted object) {
    due("end(0) " + when, end(object, 0), REFUSED);
    due("feed " + when, feedBlanks(object), 20);
  }

  /** "An empty tape, no tree, nothing written." */
  private static void newObject() {
    dueEmptyTape("of a new object", new Counted());
    due("read() of a new object", new Counted().read(), 0);
    due("place() of a new object", new Counted().place(), NONE);
    due("nodes() of a new object", new Counted().nodes(), 0);
    for (int what = 0; what <= 3; what++) {
      due("node(0, " + what + ") of a new object", new Counted().node(0, what), NONE);
    }
    due("part(0, 0) of a new object", new Counted().part(0, 0), NONE);
    due("character(0, 0) of a new object", new Counted().character(0, 0), NONE);
    due("write() of a new object", new Counted().write(), NONE);
    due("written(0) of a new object", new Counted().written(0), NONE);
    due("rewind() of a new object", new Counted().rewind(), 0);
    due("NONE", NONE, -1);
  }

  /** Two objects have nothing in common. */
  private static void anotherObject() {
    Counted object = Texts.write("a;");
    Texts.feed(object, "b");
    Counted other = new Counted();
    due("nodes() of another object", other.nodes(), 0);
    due("written(0) of another object", other.written(0), NONE);
    dueEmptyTape("of another object", other);
    other.read();
    due("written(0) of the first object", object.written(0), (int) 'a');
    due("nodes() of the first object", object.nodes(), 3);
  }

  /** "An object is used for at most 512 calls after it has been made": the last of them answers like the first. */
  private static void lastCalls() {
    Counted object = new Counted();
    for (int calls = 1; calls <= 499; calls++) {
      due("feed, call " + calls, feedBlanks(object), 20 * calls);
    }
    due("feed, call 500", object.feed(0x613D623B, BLANKS, BLANKS, BLANKS, BLANKS), 10000);
    due("end(4), call 501", end(object, 4), "9984");
    due("read(), call 502", object.read(), 4);
    due("place(), call 503", object.place(), NONE);
    due("nodes(), call 504", object.nodes(), 4);
    due("node(3, 1), call 505", object.node(3, 1), 9982);
    due("part(1, 1), call 506", object.part(1, 1), 3);
    due("character(3, 0), call 507", object.character(3, 0), (int) 'b');
    due("write(), call 508", object.write(), 7);
    due("written(6), call 509", object.written(6), 10);
    due("rewind(), call 510", object.rewind(), 7);
    due("end(0), call 511", end(object, 0), REFUSED);
    due("read(), call 512", object.read(), 4);
    due("calls left", object.callsLeft(), 0);
  }

  /** "Twenty more characters on the tape, four by each number, its highest byte first" */
  private static void feedOrder() {
    for (int i = 0; i < 20; i++) {
      Counted object = new Counted();
      due("feed", feedBlanks(object), 20);
      due("feed of # at " + i, Texts.feedFrom(object, " ".repeat(i) + "#" + " ".repeat(19 - i), 0), 40);
      object.read();
      due("place() of # at " + i, object.place(), 20 + i);
    }
  }

  /** Every character from 0 to 255 gets on the tape as it is, and is one character. */
  private static void feedCharacters() {
    int[] numbers = {0, -1, LEAST, LARGEST, 0x80808080, 0x7F7F7F7F, 0xFF00FF00, 0x00FF00FF};
    for (int number : numbers) {
      Counted object = new Counted();
      due("feed of " + number, object.feed(BLANKS, BLANKS, BLANKS, BLANKS, number), 20);
      due("feed of " + number, object.feed(number, number, number, number, number), 40);
      due("read() of " + number, object.read(), NONE);
      due("place() of " + number, object.place(), 16);
    }
  }

  /** "how many there are. NONE, and nothing is done, when there would be more than 65536." */
  private static void feedAtTheBound() {
    Counted object = withFullTape();
    due("feed of a full tape", feedBlanks(object), NONE);
    dueSize("of a full tape", object, 65536);
    due("end(1)", end(object, 1), "65517");
    due("feed to 65537", feedBlanks(object), NONE);
    dueSize("behind feed to 65537", object, 65517);
    due("end(19)", end(object, 19), "65516");
    due("feed to 65536", feedBlanks(object), 65536);
    due("feed beyond 65536", feedBlanks(object), NONE);
    due("end(19)", end(object, 19), "65535");
    due("feed to 65555", feedBlanks(object), NONE);
    due("end(0)", end(object, 0), "65515");
    due("feed to 65535", feedBlanks(object), 65535);
    due("feed beyond 65535", feedBlanks(object), NONE);
    dueSize("behind all", object, 65535);
  }

  /** A feed that is refused changes no character; all 65536 of a tape are read. */
  private static void refusedFeedDoesNothing() {
    Counted object = withFullTape();
    due("end(0)", end(object, 0), "65516");
    object.feed(BLANKS, BLANKS, BLANKS, BLANKS, 0x20202023);
    due("feed beyond", object.feed(0, 0, 0, 0, 0), NONE);
    due("read() of # at 65535", object.read(), NONE);
    due("place() of # at 65535", object.place(), 65535);
    due("rewind()", object.rewind(), 65536);
    due("feed beyond", object.feed(0, 0, 0, 0, 0), NONE);
    int tokens = new SecondReader(Texts.withForm(65536)).count;
    due("read() of 65536 characters", object.read(), tokens);
    due("place() behind 65536 characters", object.place(), NONE);
    due("node(0, 3) of 65536 characters", object.node(0, 3), 1);
    object.rewind();
    object.end(0);
    due("feed of blanks for a form's last 20", feedBlanks(object), 65536);
    object.read();
    due("place() at the end of 65536 characters", object.place(), 65536);
  }

  /** "The tape's last twenty characters become the first n of them: how many characters there are." */
  private static void endKeepsTheFirst() {
    for (int n = 0; n <= 20; n++) {
      Counted object = new Counted();
      feedBlanks(object);
      Texts.feedFrom(object, "a;b;c;d;e;f;g;h;i;j;", 0);
      due("end(" + n + ") of 40", end(object, n), "" + (20 + n));
      due("read() behind end(" + n + ")", object.read(), n % 2 == 0 ? n : NONE);
      due("place() behind end(" + n + ")", object.place(), n % 2 == 0 ? NONE : 20 + n);
    }
  }

  /** "IllegalArgumentException when n is not 0 .. 20" */
  private static void endOfWrongNumbers() {
    int[] wrong = {-1, 21, -2, 22, -20, 40, 256, 276, -256, LEAST, LEAST + 20, LARGEST};
    for (int n : wrong) {
      Counted object = new Counted();
      Texts.feedFrom(object, "a;b;c;d;e;f;g;h;i;j;", 0);
      due("end(" + n + ") of 20", end(object, n), REFUSED);
      dueSize("behind end(" + n + ")", object, 20);
      feedBlanks(object);
      due("end(" + n + ") of 40", end(object, n), REFUSED);
      due("read() behind end(" + n + ")", object.read(), 20);
    }
  }

  /** "or there are not twenty." */
  private static void endOfShortTapes() {
    for (int size = 0; size <= 19; size++) {
      Counted object = new Counted();
      Texts.feed(object, "a".repeat(size));
      for (int n = -1; n <= 21; n++) {
        due("end(" + n + ") of " + size, end(object, n), REFUSED);
      }
      due("feed behind refused ends of " + size, feedBlanks(object), size + 20);
      due("end(0) behind a feed", end(object, 0), "" + size);
    }
  }

  /** The last twenty are those of the tape, however they came there. */
  private static void endAgain() {
    Counted object = new Counted();
    Texts.feedFrom(object, "a;b;c;d;e;f;g;h;i;j;", 0);
    Texts.feedFrom(object, "k;l;m;n;o;p;q;r;s;t;", 0);
    due("end(1) of 40", end(object, 1), "21");
    due("end(17) of 21", end(object, 17), "18");
    due("end(17) of 18", end(object, 17), REFUSED);
    due("read() of 18", object.read(), 18);
    due("character(18, 0)", object.character(18, 0), (int) 'i');
    Counted form = Texts.write("a;b;c;d;e;f;g;");
    due("rewind()", form.rewind(), 21);
    due("end(18) of a form", end(form, 18), "19");
    due("end(18) of 19", end(form, 18), REFUSED);
    due("read() of a form that was cut", form.read(), NONE);
    due("place() of a form that was cut", form.place(), 19);
    Counted shortForm = Texts.write("a;b;c;d;e;fg;");
    due("rewind() of a short form", shortForm.rewind(), 19);
    due("end(0) of a short form", end(shortForm, 0), REFUSED);
  }

  /** "how many tokens it has (an empty one none: it is a PROGRAM without parts)" */
  private static void readNothing() {
    String[] empty = {"", " ", "\t\n\r ", "%", "% a;", "%\n%\n", " ".repeat(100)};
    for (String text : empty) {
      Counted object = Texts.read("a;");
      Texts.feed(object, text);
      due("read() of <" + text + ">", object.read(), 0);
      due("place() of <" + text + ">", object.place(), NONE);
      due("nodes() of <" + text + ">", object.nodes(), 1);
      due("node(0, 0) of <" + text + ">", object.node(0, 0), 0);
      due("node(0, 1) of <" + text + ">", object.node(0, 1), 0);
      due("node(0, 2) of <" + text + ">", object.node(0, 2), NONE);
      due("node(0, 3) of <" + text + ">", object.node(0, 3), 0);
      due("part(0, 0) of <" + text + ">", object.part(0, 0), NONE);
      due("character(0, 0) of <" + text + ">", object.character(0, 0), NONE);
      due("write() of <" + text + ">", object.write(), 0);
    }
  }

  /** "NONE when it has a fault: the tree there was stays." */
  private static void faultKeepsTheTree() {
    Counted object = Texts.read("b");
    due("nodes() behind a fault alone", object.nodes(), 0);
    due("node(0, 0) behind a fault alone", object.node(0, 0), NONE);
    due("write() behind a fault alone", object.write(), NONE);
    Texts.feed(object, " f(1, \"text\");");
    object.read();
    Texts.feed(object, "other = words + that + end + too + early");
    due("read() of a fault", object.read(), NONE);
    due("nodes() behind a fault", object.nodes(), 5);
    due("node(2, 0) behind a fault", object.node(2, 0), 33);
    due("node(2, 1) behind a fault", object.node(2, 1), 1);
    due("node(2, 2) behind a fault", object.node(2, 2), 2);
    due("part(2, 1) behind a fault", object.part(2, 1), 4);
    due("character(4, 1) behind a fault", object.character(4, 1), (int) 't');
    due("write() behind a fault", object.write(), 14);
    due("written(0) behind a fault", object.written(0), (int) 'f');
  }

  /** "The tape is empty then, in both cases." */
  private static void readEmptiesTheTape() {
    Counted right = Texts.read("a;".repeat(20));
    dueEmptyTape("behind a right text", right);
    due("read() behind a right text", right.read(), 0);
    Counted fault = Texts.read("a".repeat(40));
    dueEmptyTape("behind a fault", fault);
    due("read() behind a fault", fault.read(), 0);
    Counted full = withFullTape();
    full.read();
    dueEmptyTape("behind a full tape", full);
    full.read();
    due("read() of nothing at all", full.read(), 0);
    dueEmptyTape("behind nothing", full);
  }

  /** "The place of the fault, when the latest read() had one; NONE otherwise, and before the first." */
  private static void place() {
    Counted object = new Counted();
    due("place() at first", object.place(), NONE);
    Texts.feed(object, ";");
    due("place() before the first read()", object.place(), NONE);
    object.read();
    due("place() of a fault at 0", object.place(), 0);
    due("place() again", object.place(), 0);
    Texts.feed(object, "a;");
    object.write();
    object.rewind();
    due("place() behind other calls", object.place(), 0);
    Texts.feed(object, " a b");
    object.read();
    due("place() of the next fault", object.place(), 3);
    object.read();
    due("place() behind an empty text", object.place(), NONE);
    Texts.feed(object, "a");
    object.read();
    Texts.feed(object, "a;");
    object.read();
    due("place() behind a right text", object.place(), NONE);
  }

  /** "What was written (nothing at first: then an empty tape, and 0) becomes the tape: how many characters." */
  private static void rewindOfNothing() {
    Counted object = new Counted();
    Texts.feed(object, "a;".repeat(15));
    due("rewind() before all", object.rewind(), 0);
    dueEmptyTape("behind rewind() of nothing", object);
    object.read();
    Texts.feed(object, "a;".repeat(15));
    object.read();
    due("rewind() before write()", object.rewind(), 0);
    due("read() behind rewind() of nothing", object.read(), 0);
    due("write() of an empty program", object.write(), 0);
    Texts.feed(object, "a;".repeat(15));
    due("rewind() of an empty form", object.rewind(), 0);
    dueEmptyTape("behind rewind() of an empty form", object);
    Counted refused = Texts.write(Texts.withForm(65537));
    due("rewind() behind a form that was too long", refused.rewind(), 0);
    dueEmptyTape("behind a form that was too long", refused);
  }

  /** "What was written stays." It takes the place of a tape that is longer or shorter. */
  private static void rewindKeepsTheForm() {
    Counted object = Texts.write("a;");
    Texts.feed(object, "c;".repeat(15));
    due("rewind() over a longer tape", object.rewind(), 3);
    due("written(0) behind rewind()", object.written(0), (int) 'a');
    due("rewind() over itself", object.rewind(), 3);
    due("feed behind rewind()", feedBlanks(object), 23);
    due("end(0) behind rewind() and feed", end(object, 0), "3");
    due("read() of the form", object.read(), 2);
    due("written(2) behind read()", object.written(2), 10);
    due("written(3) behind read()", object.written(3), NONE);
    due("rewind() behind read()", object.rewind(), 3);
    Texts.feed(object, "b;");
    due("read() of the form and more", object.read(), 4);
    due("character(4, 0)", object.character(4, 0), (int) 'b');
    due("written(0) as before", object.written(0), (int) 'a');
    due("write() of more", object.write(), 6);
    due("rewind() of more", object.rewind(), 6);
  }

  public static void main(String[] args) {
    newObject();
    anotherObject();
    lastCalls();
    feedOrder();
    feedCharacters();
    feedAtTheBound();
    refusedFeedDoesNothing();
    endKeepsTheFirst();
    endOfWrongNumbers();
    endOfShortTapes();
    endAgain();
    readNothing();
    faultKeepsTheTree();
    readEmptiesTheTape();
    place();
    rewindOfNothing();
    rewindKeepsTheForm();
    finish();
  }
}
