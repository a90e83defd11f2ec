/** Promises 24 and 25: count, digest. */
public final class ToldTest {
  public static void main(String[] args) {
    count();
    digest();
    refusalsChangeNothing();
    Due.end();
  }

  private static void count() {
    SureNoes x = new SureNoes();
    Due.is("laws", x.count(0), 0);
    Due.is("in all books, without", x.count(3), 0);
    x.law(1, 0);
    x.law(2, 5);
    Due.is("laws", x.count(0), 2);
    x.book(0, 8, 1);
    x.book(0, 4, 1);
    Due.is("books", x.count(1), 2);
    x.put(0, 3);
    x.put(0, 3);
    Due.is("really in some book", x.count(2), 1);
    Due.is("in all books", x.count(3), 0);
    x.put(1, 7);
    x.put(1, 3);
    Due.is("really in some book, each but once", x.count(2), 2);
    // 3, 11, 19, 27 are in the first, and by place 3 of 4 in the second, too.
    Due.is("in all books", x.count(3), 4);
    Due.is("what 4", x.count(4), SureNoes.OUTSIDE);
    Due.is("what -1", x.count(-1), SureNoes.OUTSIDE);
  }

  private static long due(SureNoes x) {
    long h = 367;
    for (int law = 0; law < x.count(0); law++) {
      for (int key = 0; key < 32; key++) {
        h = 31 * h + x.value(law, key);
      }
    }
    for (int book = 0; book < x.count(1); book++) {
      for (int what = 0; what <= 5; what++) {
        h = 31 * h + x.about(book, what);
      }
      for (int place = 0; place < x.about(book, 1); place++) {
        h = 31 * h + x.at(book, place);
      }
      for (int row = 0; row < x.about(book, 5); row++) {
        h = 31 * h + x.row(book, row);
      }
      for (int what = 0; what <= 3; what++) {
        h = 31 * h + x.keys(book, what);
      }
    }
    for (int what = 0; what <= 3; what++) {
      h = 31 * h + x.count(what);
    }
    return h;
  }

  private static SureNoes allKinds() {
    SureNoes x = new SureNoes();
    x.law(1, 0);
    x.law(5, 3);
    x.law(11, 30);
    for (int kind = 0; kind <= 5; kind++) {
      x.book(kind, 12, kind == 3 ? 3 : 7);
      for (int key = 0; key < 5; key++) {
        x.put(kind, 3 * key);
      }
    }
    x.build(4, Due.set(1, 7, 14, 19), 0);
    x.build(5, 255, 65280);
    return x;
  }

  private static void digest() {
    SureNoes x = new SureNoes();
    Due.is("empty", x.digest(), 338932207L);
    x.law(3, 4);
    Due.is("a law alone", x.digest(), due(x));
    SureNoes y = allKinds();
    Due.is("books of all kinds", y.digest(), due(y));
    Due.is("the same calls, the same digest", allKinds().digest(), y.digest());
    long before = y.digest();
    y.put(0, 31);
    Due.holds("a key more", before != y.digest());
  }

  private static void refusalsChangeNothing() {
    SureNoes x = allKinds();
    long before = x.digest();
    x.law(0, 0);
    x.book(0, 1, 1);
    x.book(4, 8, 3);
    x.put(4, 1);
    x.put(5, 1);
    x.put(0, 32);
    x.take(0, 0);
    x.take(6, 0);
    x.build(0, 1, 0);
    x.build(4, 1, 2);
    x.build(5, 3, 2);
    x.join(0, 2, true);
    x.halve(2);
    Due.is("refused calls", x.digest(), before);
  }
}
