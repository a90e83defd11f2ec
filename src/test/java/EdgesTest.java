/** All promises: every call with arguments at, beside and far outside the edges, compared with the model. */
public final class EdgesTest {
  private static final int[] EDGES = {Integer.MIN_VALUE, -104, -1, 0, 1, 2, 3, 5, 6, 7, 8, 31, 32, 33, 99, 1 << 20,
      Integer.MAX_VALUE};
  private static final long[] SETS = {Long.MIN_VALUE, -1, 0, 1, 6, 63, 127, 0x80000001L, 0xFFFFFFFFL, 1L << 32,
      Long.MAX_VALUE};

  private static SureNoes x;
  private static Model y;

  public static void main(String[] args) {
    x = new SureNoes();
    y = new Model();
    callAll("empty");
    x = new SureNoes();
    y = new Model();
    for (int i = 0; i < 3; i++) {
      Due.is("law", x.law(2 * i + 1, 30 - i), y.law(2 * i + 1, 30 - i));
    }
    for (int kind = 0; kind <= 5; kind++) {
      int m = kind == 0 ? 32 : 3 + kind;
      int laws = kind == 3 ? 3 : 7;
      Due.is("book", x.book(kind, m, laws), y.book(kind, m, laws));
    }
    callAll("a book of each kind");
    Due.end();
  }

  private static void callAll(String when) {
    for (int a : EDGES) {
      Due.is(when + ": halve(" + a + ")", x.halve(a), y.halve(a));
      Due.is(when + ": count(" + a + ")", x.count(a), y.count(a));
      for (int b : EDGES) {
        callWithTwo(when + " (" + a + ", " + b + ")", a, b);
        Due.is(when + ": best", x.best(1L << 32, a, b), y.best(1L << 32, a, b));
        for (int c : EDGES) {
          Due.is(when + ": book(" + a + ", " + b + ", " + c + ")", x.book(a, b, c), y.book(a, b, c));
        }
        for (long set : SETS) {
          callWithSet(when + " (" + a + ", " + set + ", " + b + ")", a, set, b);
        }
      }
      for (long set : SETS) {
        Due.is(when + ": most(" + a + ", " + set + ")", x.most(a, set), y.most(a, set));
        for (long out : SETS) {
          Due.is(when + ": build(" + a + ", " + set + ", " + out + ")", x.build(a, set, out), y.build(a, set, out));
        }
      }
    }
    Due.is(when + ": digest", x.digest(), y.digest());
  }

  private static void callWithTwo(String at, int a, int b) {
    Due.is("value " + at, x.value(a, b), y.value(a, b));
    Due.is("as " + at, x.as(a, b), y.as(a, b));
    Due.is("about " + at, x.about(a, b), y.about(a, b));
    Due.is("at " + at, x.at(a, b), y.at(a, b));
    Due.is("row " + at, x.row(a, b), y.row(a, b));
    Due.is("places " + at, x.places(a, b), y.places(a, b));
    Due.is("put " + at, x.put(a, b), y.put(a, b));
    Due.is("real " + at, x.real(a, b), y.real(a, b));
    Due.is("keys " + at, x.keys(a, b), y.keys(a, b));
    Due.is("made " + at, x.made(a, b), y.made(a, b));
    Due.is("spoil " + at, x.spoil(a, b), y.spoil(a, b));
    Due.is("take " + at, x.take(a, b), y.take(a, b));
    Due.is("join " + at, x.join(a, b, true), y.join(a, b, true));
    Due.is("law " + at, x.law(a, b), y.law(a, b));
  }

  private static void callWithSet(String at, int a, long set, int b) {
    Due.is("order " + at, x.order(a, set, b), y.order(a, set, b));
    Due.is("fewest " + at, x.fewest(set, a, b), y.fewest(set, a, b));
    for (int part = -1; part <= 2; part += 3) {
      Due.is("odds " + at, x.odds(set, a, b, part), y.odds(set, a, b, part));
    }
    if (set == 6 || set == 127) {
      Due.is("odds " + at, x.odds(set, a, b, 0), y.odds(set, a, b, 0));
    }
  }
}
