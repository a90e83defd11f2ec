import java.math.BigInteger;
import java.util.ArrayList;
import java.util.List;

/**
 * Promises 24 and 25, each sentence of the document that names a boundary by a method of its own: count,
 * digest; and what the document says of an object as a whole: 512 calls, no state but its own.
 */
public final class BoundaryToldTest {
  private static final long ALL = 0xFFFFFFFFL;

  public static void main(String[] args) {
    p24NoneAndAll();
    p24ReallyInSomeBook();
    p24InAllBooks();
    p24Outside();
    p25Empty();
    p25AsLongsWrapping();
    p25EachNumberCounts();
    p25ChangesNothing();
    fiveHundredAndTwelveCalls();
    twoObjectsAreTwo();
    Due.end();
  }

  /** 24: from 0 to eight laws, eight books, 32 keys. */
  private static void p24NoneAndAll() {
    SureNoes x = new SureNoes();
    for (int what = 0; what <= 3; what++) {
      Due.is("p24 none", x.count(what), 0);
    }
    for (int i = 0; i < 8; i++) {
      x.law(1, 0);
      Due.is("p24 laws", x.count(0), i + 1);
    }
    for (int i = 0; i < 8; i++) {
      x.book(0, 32, 1);
      Due.is("p24 books", x.count(1), i + 1);
    }
    x.law(1, 0);
    x.book(0, 32, 1);
    Due.is("p24 eight laws at most", x.count(0), 8);
    Due.is("p24 eight books at most", x.count(1), 8);
    for (int key = 0; key < 32; key++) {
      for (int book = 0; book < 8; book++) {
        x.put(book, key);
      }
      Due.is("p24 really in some book", x.count(2), key + 1);
      Due.is("p24 in all books", x.count(3), key + 1);
    }
  }

  /** 24: "KEYS REALLY in some BOOK": each but once, however often and in how many books. */
  private static void p24ReallyInSomeBook() {
    SureNoes x = Due.withLaws(1, 0);
    x.book(1, 32, 1);
    x.book(1, 32, 1);
    x.put(0, 0);
    x.put(0, 0);
    x.put(1, 0);
    Due.is("p24 one key", x.count(2), 1);
    x.put(1, 31);
    Due.is("p24 two keys", x.count(2), 2);
    x.take(1, 31);
    x.take(1, 0);
    Due.is("p24 still in the other one", x.count(2), 1);
    x.take(0, 0);
    x.take(0, 0);
    Due.is("p24 none", x.count(2), 0);
  }

  /** 24: "KEYS IN all BOOKS (0 without)": an empty book leaves none. */
  private static void p24InAllBooks() {
    SureNoes x = Due.withLaws(1, 0, 5, 3, 11, 30);
    Due.is("p24 laws alone", x.count(3), 0);
    x.book(0, 2, 1);
    Due.is("p24 an empty book", x.count(3), 0);
    x.put(0, 0);
    Due.is("p24 16 keys, falsely but for one", x.count(3), 16);
    x.put(0, 31);
    Due.is("p24 all keys", x.count(3), 32);
    x.book(0, 16, 1);
    Due.is("p24 an empty book more", x.count(3), 0);
    x.put(1, 31);
    Due.is("p24 two keys of one place", x.count(3), 2);
    x.book(5, 12, 7);
    Due.is("p24 a layered without rows", x.count(3), 0);
    x.build(2, ALL, 0);
    Due.is("p24 a layered over all", x.count(3), 2);
    x.book(4, 12, 7);
    Due.is("p24 a folded over none", x.count(3), 0);
  }

  /** 24: "OUTSIDE." */
  private static void p24Outside() {
    SureNoes x = Due.withLaws(1, 0);
    x.book(0, 8, 1);
    for (int what : new int[] {-1, 4, Integer.MIN_VALUE, Integer.MAX_VALUE}) {
      Due.refused(x, "p24 what " + what, () -> x.count(what), SureNoes.OUTSIDE);
    }
  }

  /** 25: "h is 367", then four times a 0. */
  private static void p25Empty() {
    Due.is("p25 empty", new SureNoes().digest(), 367L * 31 * 31 * 31 * 31);
  }

  /** The numbers that the document lists, in their order. */
  private static List<Long> told(SureNoes x) {
    List<Long> all = new ArrayList<>();
    for (int law = 0; law < x.count(0); law++) {
      for (int key = 0; key < 32; key++) {
        all.add((long) x.value(law, key));
      }
    }
    for (int book = 0; book < x.count(1); book++) {
      for (int what = 0; what <= 5; what++) {
        all.add((long) x.about(book, what));
      }
      for (int place = 0; x.at(book, place) != SureNoes.UNKNOWN; place++) {
        all.add((long) x.at(book, place));
      }
      for (int row = 0; x.row(book, row) != SureNoes.UNKNOWN; row++) {
        all.add(x.row(book, row));
      }
      for (int what = 0; what <= 3; what++) {
        all.add(x.keys(book, what));
      }
    }
    for (int what = 0; what <= 3; what++) {
      all.add((long) x.count(what));
    }
    return all;
  }

  private static SureNoes filled() {
    SureNoes x = Due.withLaws(1, 0, 36, 36, 5, 3, 11, 30, 36, 0, 1, 36, 7, 7, 19, 2);
    for (int kind = 0; kind <= 5; kind++) {
      x.book(kind, 32, kind == 3 ? 3 : 7);
      for (int key = 0; key < 32; key++) {
        x.put(kind, key);
      }
    }
    x.build(4, Due.set(1, 7, 31), 0);
    x.build(5, 0xFFFF0000L, 0);
    x.join(0, 0, true);
    x.halve(0);
    return x;
  }

  /** 25: "31 times h, and it (as longs, wrapping)": without a bound, then the lowest 64 bits. */
  private static void p25AsLongsWrapping() {
    SureNoes x = filled();
    BigInteger h = BigInteger.valueOf(367);
    for (long number : told(x)) {
      h = h.multiply(BigInteger.valueOf(31)).add(BigInteger.valueOf(number));
    }
    Due.holds("p25 far beyond a long", h.bitLength() > 1000);
    Due.is("p25 wrapping", x.digest(), h.longValue());
  }

  /** 25: each thing that is told changes it: a law, a book, a number, a row, a key that is there twice not. */
  private static void p25EachNumberCounts() {
    SureNoes x = new SureNoes();
    long last = x.digest();
    x.law(36, 36);
    Due.holds("p25 a law", last != x.digest());
    last = x.digest();
    x.book(0, 2, 1);
    Due.holds("p25 a book", last != x.digest());
    last = x.digest();
    x.put(0, 0);
    Due.holds("p25 a key", last != x.digest());
    last = x.digest();
    x.put(0, 0);
    Due.is("p25 once more the same: what is told is the same", x.digest(), last);
    x.book(5, 2, 1);
    last = x.digest();
    x.build(1, 1, 0);
    Due.holds("p25 a row", last != x.digest());
  }

  private static void p25ChangesNothing() {
    SureNoes x = filled();
    long first = x.digest();
    for (int i = 0; i < 20; i++) {
      Due.is("p25 again", x.digest(), first);
    }
  }

  /** "An object is used for at most 512 calls after it has been made": the last of them is answered, too. */
  private static void fiveHundredAndTwelveCalls() {
    SureNoes x = new SureNoes();
    x.law(1, 0);
    x.law(2, 5);
    x.book(3, 8, 3);
    int calls = 3;
    // Keys 8 and 16 are alike: what the one puts, the other takes out.
    for (int i = 0; i < 98; i++) {
      Due.is("put", x.put(0, 8), 0);
      Due.is("take", x.take(0, 16), 0);
      Due.is("most", x.most(0, ALL), 8);
      Due.is("order", x.order(0, 63, 0), 0);
      Due.is("real", x.real(0, 8), i + 1);
      calls += 5;
    }
    for (; calls < 511; calls++) {
      Due.is("best", x.best(Due.set(3, 4), 8, 1), 8);
    }
    Due.is("call 512", x.real(0, 8), 98);
  }

  /** What one object is told, no other one knows. */
  private static void twoObjectsAreTwo() {
    SureNoes x = filled();
    long told = x.digest();
    SureNoes y = new SureNoes();
    Due.is("the other one is empty", y.digest(), 338932207L);
    y.law(3, 4);
    y.book(1, 8, 1);
    y.put(0, 5);
    Due.is("the first one is as it was", x.digest(), told);
    Due.is("the same calls, the same answers", filled().digest(), told);
  }
}
