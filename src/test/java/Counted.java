/** An object that counts its calls and takes no more than 512, because behind those every answer is free. */
final class Counted {
  static final int MOST_CALLS = 512;
  private final EquationText object = new EquationText();
  private int calls = 0;

  private EquationText counted() {
    if (calls == MOST_CALLS) {
      throw new IllegalStateException("a test makes more than 512 calls on one object");
    }
    calls++;
    return object;
  }

  int callsLeft() {
    return MOST_CALLS - calls;
  }

  int feed(int a, int b, int c, int d, int e) {
    return counted().feed(a, b, c, d, e);
  }

  int end(int n) {
    return counted().end(n);
  }

  int read() {
    return counted().read();
  }

  int place() {
    return counted().place();
  }

  int nodes() {
    return counted().nodes();
  }

  int node(int k, int what) {
    return counted().node(k, what);
  }

  int part(int k, int i) {
    return counted().part(k, i);
  }

  int character(int k, int i) {
    return counted().character(k, i);
  }

  int write() {
    return counted().write();
  }

  int written(int i) {
    return counted().written(i);
  }

  int rewind() {
    return counted().rewind();
  }
}
