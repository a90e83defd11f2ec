/** Promises 20 to 23: spoil, made, order, most. */
public final class CouldBeTest {
  private static final long ALL = 0xFFFFFFFFL;

  public static void main(String[] args) {
    spoil();
    spoilByThree();
    spoilRefused();
    made();
    madeWhereNoneCanBe();
    madeWithTwelveAndMore();
    madeRefused();
    order();
    orderRefused();
    most();
    mostRefused();
    Due.end();
  }

  private static SureNoes threeLaws() {
    SureNoes x = new SureNoes();
    x.law(1, 0);
    x.law(2, 5);
    x.law(1, 1);
    return x;
  }

  private static void spoil() {
    SureNoes x = threeLaws();
    x.book(0, 8, 1);
    x.book(0, 32, 1);
    x.book(1, 32, 3);
    x.put(0, 3);
    Due.is("it is in", x.spoil(0, 11), 0);
    Due.is("one key", x.spoil(0, 5), Due.set(13));
    Due.is("another one than itself", x.spoil(0, 13), Due.set(5));
    Due.is("none has its place", x.spoil(1, 5), SureNoes.NONE);
    // Key 20 of the counted: places 20 and 45, which is 8. Key 8 has 8 and 21; 26 has 26 and 20.
    Due.is("two keys", x.spoil(2, 20), Due.set(8, 26));
    x.put(2, 8);
    Due.is("one is left", x.spoil(2, 20), Due.set(26));
    long before = x.digest();
    x.spoil(2, 21);
    Due.is("it changes nothing", x.digest(), before);
  }

  private static void spoilByThree() {
    SureNoes x = new SureNoes();
    x.law(1, 0);
    x.law(6, 7);
    x.law(36, 12);
    x.book(2, 32, 7);
    // Ten places by each law: of 3 they are 3, 10 and 5, and 29. Each is sought by trying.
    long wanted = x.places(0, 3);
    long least = -1;
    for (int c = 2; c < 32 && least < 0; c++) {
      for (int b = 1; b < c && least < 0; b++) {
        for (int a = 0; a < b && least < 0; a++) {
          if (a != 3 && b != 3 && c != 3
              && (wanted & ~(x.places(0, a) | x.places(0, b) | x.places(0, c))) == 0) {
            least = Due.set(a, b, c);
          }
        }
      }
    }
    Due.is("three keys of least bits", x.spoil(0, 3), 1060864);
    Due.is("as tried", x.spoil(0, 3), least);
  }

  private static void spoilRefused() {
    SureNoes x = threeLaws();
    x.book(3, 8, 3);
    x.book(4, 8, 7);
    x.book(5, 8, 7);
    x.book(0, 8, 1);
    for (int book = 0; book < 3; book++) {
      Due.is("another kind", x.spoil(book, 1), SureNoes.STATE);
      Due.is("unknown ahead of state", x.spoil(book, 32), SureNoes.UNKNOWN);
    }
    Due.is("key 32", x.spoil(3, 32), SureNoes.UNKNOWN);
    Due.is("key -1", x.spoil(3, -1), SureNoes.UNKNOWN);
    Due.is("book 4", x.spoil(4, 1), SureNoes.UNKNOWN);
    Due.is("book -1", x.spoil(-1, 1), SureNoes.UNKNOWN);
  }

  private static void madeIs(String when, SureNoes x, int book, long fewest, long least, long sure, long may) {
    Due.is(when + ": fewest", x.made(book, 0), fewest);
    Due.is(when + ": least bits", x.made(book, 1), least);
    Due.is(when + ": sure", x.made(book, 2), sure);
    Due.is(when + ": may", x.made(book, 3), may);
  }

  private static void made() {
    SureNoes x = threeLaws();
    x.book(0, 8, 1);
    madeIs("empty", x, 0, 0, 0, 0, 0);
    x.put(0, 19);
    x.put(0, 12);
    madeIs("two places", x, 0, 2, Due.set(3, 4), 0, Due.set(3, 11, 19, 27, 4, 12, 20, 28));
    x.book(0, 32, 1);
    x.put(1, 7);
    x.put(1, 31);
    madeIs("of one key each", x, 1, 2, Due.set(7, 31), Due.set(7, 31), Due.set(7, 31));
    x.book(2, 11, 7);
    x.put(2, 7);
    x.put(2, 30);
    Due.is("parted: fewest", x.made(2, 0), 2);
    Due.is("parted: least bits", x.made(2, 1), Due.set(1, 18));
    Due.is("parted: sure", x.made(2, 2), 0);
    // By two laws of 32 places: 0 has 0 and 5, 5 has 5 and 15, 15 has 15 and 35, which is 3: 5 may be spared.
    x.book(0, 32, 3);
    x.put(3, 0);
    x.put(3, 5);
    x.put(3, 15);
    madeIs("a chain", x, 3, 2, Due.set(0, 15), Due.set(0, 15), Due.set(0, 5, 15));
  }

  private static void madeWhereNoneCanBe() {
    SureNoes x = threeLaws();
    x.book(0, 32, 3);
    x.book(0, 32, 3);
    x.put(0, 0);
    x.put(1, 5);
    x.join(0, 1, true);
    Due.is("place 5 alone", x.at(2, 5), 1);
    madeIs("no such set", x, 2, SureNoes.NONE, SureNoes.NONE, 0, 0);
  }

  private static void madeWithTwelveAndMore() {
    SureNoes x = threeLaws();
    x.book(0, 32, 1);
    long put = 0;
    for (int key = 0; key < 12; key++) {
      x.put(0, 2 * key);
      put |= 1L << 2 * key;
    }
    madeIs("twelve", x, 0, 12, put, put, put);
    x.put(0, 31);
    put |= 1L << 31;
    madeIs("thirteen", x, 0, SureNoes.SPENT, SureNoes.SPENT, put, put);
  }

  private static void madeRefused() {
    SureNoes x = threeLaws();
    x.book(1, 8, 3);
    x.book(3, 8, 3);
    x.book(4, 8, 7);
    x.book(5, 8, 7);
    for (int book = 0; book < 4; book++) {
      for (int what = 0; what < 4; what++) {
        Due.is("another kind", x.made(book, what), SureNoes.STATE);
      }
      Due.is("outside ahead of state", x.made(book, 4), SureNoes.OUTSIDE);
    }
    Due.is("what -1", x.made(0, -1), SureNoes.OUTSIDE);
    Due.is("book 4", x.made(4, 4), SureNoes.UNKNOWN);
    Due.is("book -1", x.made(-1, 0), SureNoes.UNKNOWN);
  }

  private static void orderIs(String when, SureNoes x, int book, long set, int... due) {
    for (int i = 0; i < 6; i++) {
      Due.is(when + ": " + i, x.order(book, set, i), i < due.length ? due[i] : SureNoes.NONE);
    }
  }

  private static void order() {
    SureNoes x = new SureNoes();
    x.law(5, 21);
    x.law(14, 3);
    x.book(3, 6, 3);
    x.book(3, 6, 3);
    x.book(3, 6, 3);
    orderIs("none", x, 0, 0);
    orderIs("one", x, 0, Due.set(9), 9);
    long six = Due.set(6, 15, 22, 23, 25, 31);
    orderIs("not by their numbers", x, 0, six, 6, 15, 22, 23, 31, 25);
    for (int key : new int[] {6, 15, 22, 23, 25}) {
      Due.holds("by their numbers", x.put(1, key) >= 0);
    }
    Due.is("by their numbers one finds none", x.put(1, 31), SureNoes.FULL);
    orderIs("an empty one is meant", x, 1, six, 6, 15, 22, 23, 31, 25);
    for (int key : new int[] {6, 15, 22, 23, 31, 25}) {
      Due.holds("by that order", x.put(2, key) >= 0);
    }
    x.book(3, 2, 3);
    orderIs("three in two places", x, 3, Due.set(1, 2, 3));
    long before = x.digest();
    x.order(0, six, 0);
    Due.is("it changes nothing", x.digest(), before);
  }

  private static void orderRefused() {
    SureNoes x = threeLaws();
    x.book(3, 8, 3);
    x.book(0, 8, 3);
    Due.is("seven keys", x.order(0, 127, 0), SureNoes.OUTSIDE);
    Due.is("set -1", x.order(0, -1, 0), SureNoes.OUTSIDE);
    Due.is("set 2^32", x.order(0, ALL + 1, 0), SureNoes.OUTSIDE);
    Due.is("i 6", x.order(0, 1, 6), SureNoes.OUTSIDE);
    Due.is("i -1", x.order(0, 1, -1), SureNoes.OUTSIDE);
    Due.is("another kind", x.order(1, 1, 0), SureNoes.STATE);
    Due.is("outside ahead of state", x.order(1, 127, 0), SureNoes.OUTSIDE);
    Due.is("book 2", x.order(2, -1, 0), SureNoes.UNKNOWN);
    Due.is("book -1", x.order(-1, 1, 0), SureNoes.UNKNOWN);
  }

  private static void most() {
    SureNoes x = threeLaws();
    x.book(3, 8, 3);
    Due.is("none", x.most(0, 0), 0);
    Due.is("one", x.most(0, 1), 1);
    Due.is("all", x.most(0, ALL), 8);
    // Places of 0, 8, 16, 24 by the marks 6, 1, 1, 1: 0 and 6, 0 and 5, 0 and 5; of 24, 53 is 16: mark 3, 0 and 7.
    Due.is("four", x.most(0, Due.set(0, 8, 16, 24)), 4);
    x.put(0, 0);
    x.put(0, 8);
    Due.is("an empty one is meant", x.most(0, Due.set(0, 8, 16, 24)), 4);
    // Places of 8, 16: 0 and 5; of 11, 19: 3 and 0; of 9, 17: 1 and 6; of 12, 20: 4 and 6; of 10, 18: 2 and 7.
    Due.is("four keys in three places", x.most(0, Due.set(8, 16, 11, 19)), 3);
    Due.is("one elsewhere makes no room for them", x.most(0, Due.set(8, 16, 11, 19, 9)), 4);
    Due.is("twice four keys in three places", x.most(0, Due.set(8, 16, 11, 19, 9, 17, 12, 20)), 6);
    Due.is("three groups", x.most(0, Due.set(8, 16, 11, 19, 9, 17, 12, 20, 10, 18)), 8);
    Due.is("once more few", x.most(0, Due.set(8, 16, 11, 19, 10)), 4);
    x.book(3, 2, 3);
    Due.is("two places", x.most(1, 255), 2);
  }

  private static void mostRefused() {
    SureNoes x = threeLaws();
    x.book(3, 8, 3);
    x.book(4, 8, 7);
    Due.is("set -1", x.most(0, -1), SureNoes.OUTSIDE);
    Due.is("set 2^32", x.most(0, ALL + 1), SureNoes.OUTSIDE);
    Due.is("another kind", x.most(1, 1), SureNoes.STATE);
    Due.is("outside ahead of state", x.most(1, -1), SureNoes.OUTSIDE);
    Due.is("book 2", x.most(2, -1), SureNoes.UNKNOWN);
    Due.is("book -1", x.most(-1, 1), SureNoes.UNKNOWN);
  }
}
