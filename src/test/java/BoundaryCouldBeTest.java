/**
 * Promises 20 to 23, each sentence of the document that names a boundary by a method of its own: spoil,
 * made, order, most. What a search is due to find was found by trying all choices, outside this program.
 */
public final class BoundaryCouldBeTest {
  private static final long ALL = 0xFFFFFFFFL;
  private static final int[] NO_KEYS = {-1, 32, Integer.MIN_VALUE, Integer.MAX_VALUE};
  private static final long[] NO_SETS = {-1, Long.MIN_VALUE, ALL + 1, Long.MAX_VALUE};
  private static final int[] NO_BOOKS = {-1, 6, 8, Integer.MIN_VALUE, Integer.MAX_VALUE};
  private static final int[] LAWS = {7, 7, 7, 3, 7, 7};

  public static void main(String[] args) {
    p20NoneIfItIsIn();
    p20OtherKeysAlone();
    p20OneTwoThree();
    p20OfLikeOnesLeastBits();
    p20NoThreeDo();
    p20WhatIsThereHelps();
    p20Refusals();
    p21Empty();
    p21Full();
    p21TwelveAndThirteen();
    p21NoSuchSet();
    p21NotSoughtAndNoSuchSet();
    p21FewestThenLeastBits();
    p21SureAndMay();
    p21Refusals();
    p22NoneToSixKeys();
    p22NoMoreKeys();
    p22NoOrder();
    p22TheFirstOrder();
    p22AnEmptyOneLikeIt();
    p22Refusals();
    p23NoneAndAll();
    p23OnePlaceAlone();
    p23OneAtEach();
    p23FirstKeyAndFirstPlace();
    p23NothingStaysTied();
    p23AnEmptyOneLikeIt();
    p23Refusals();
    Due.end();
  }

  private static SureNoes sixBooks() {
    SureNoes x = Due.withLaws(1, 0, 5, 3, 11, 30);
    for (int kind = 0; kind <= 5; kind++) {
      Due.is("a book of kind " + kind, x.book(kind, 12, LAWS[kind]), kind);
    }
    return x;
  }

  private static void putAll(SureNoes x, int book, int... keys) {
    for (int key : keys) {
      Due.holds("put " + key, x.put(book, key) >= 0);
    }
  }

  /** 20: "(none, if it is IN)", really or falsely, of each kind that is told. */
  private static void p20NoneIfItIsIn() {
    SureNoes x = Due.withLaws(1, 0);
    for (int kind = 0; kind <= 2; kind++) {
      x.book(kind, 16, 1);
      putAll(x, kind, 0, 31);
      for (int key : new int[] {0, 16, 15, 31}) {
        Due.is("p20 in", x.spoil(kind, key), 0);
      }
    }
  }

  /** 20: "other KEYS": by M 16 keys 0 and 16, and 15 and 31, have one place, and no other ones. */
  private static void p20OtherKeysAlone() {
    SureNoes x = Due.withLaws(1, 0);
    for (int kind = 0; kind <= 2; kind++) {
      x.book(kind, 16, 1);
      Due.is("p20 key 0", x.spoil(kind, 0), Due.set(16));
      Due.is("p20 key 16", x.spoil(kind, 16), Due.set(0));
      Due.is("p20 key 31", x.spoil(kind, 31), Due.set(15));
      Due.is("p20 key 15", x.spoil(kind, 15), 2147483648L);
    }
  }

  /** 20: "the fewest other KEYS (three at most)". */
  private static void p20OneTwoThree() {
    SureNoes x = Due.withLaws(1, 0, 6, 7, 36, 12, 5, 3, 11, 30);
    x.book(2, 32, 7);
    Due.is("p20 two keys of a parted, key 0", x.spoil(0, 0), Due.set(10, 14));
    Due.is("p20 three keys of a parted", x.spoil(0, 3), 1060864);
    Due.is("p20 two keys of a parted, key 31", x.spoil(0, 31), 2097408);
    for (int kind = 0; kind <= 1; kind++) {
      int book = x.book(kind, 32, 25);
      Due.is("p20 three keys, key 0", x.spoil(book, 0), 1073741848);
      Due.is("p20 three keys, key 1", x.spoil(book, 1), Due.set(4, 6, 8));
      Due.is("p20 three keys, key 31", x.spoil(book, 31), 9218);
      book = x.book(kind, 16, 9);
      Due.is("p20 two keys, key 0", x.spoil(book, 0), Due.set(3, 10));
      Due.is("p20 two keys, key 31", x.spoil(book, 31), Due.set(10, 13));
    }
  }

  /** 20: "of like ones of least bits". By M 8 three other keys have the place of each. */
  private static void p20OfLikeOnesLeastBits() {
    SureNoes x = Due.withLaws(1, 0);
    x.book(0, 8, 1);
    Due.is("p20 8, 16, 24", x.spoil(0, 0), Due.set(8));
    Due.is("p20 0, 16, 24", x.spoil(0, 8), Due.set(0));
    Due.is("p20 7, 15, 23", x.spoil(0, 31), Due.set(7));
    x.book(0, 2, 1);
    Due.is("p20 of two places", x.spoil(1, 0), Due.set(2));
    Due.is("p20 of two places", x.spoil(1, 31), Due.set(1));
  }

  /** 20: "NONE: no three do", as no other key has its place. */
  private static void p20NoThreeDo() {
    SureNoes x = Due.withLaws(1, 0, 5, 3);
    x.book(0, 32, 1);
    x.book(2, 32, 1);
    x.book(1, 32, 1);
    for (int key = 0; key < 32; key++) {
      for (int book = 0; book < 3; book++) {
        Due.is("p20 a place of its own", x.spoil(book, key), SureNoes.NONE);
      }
    }
    x.put(0, 5);
    Due.is("p20 in", x.spoil(0, 5), 0);
    Due.is("p20 others still", x.spoil(0, 6), SureNoes.NONE);
  }

  /** 20: only what is missing yet must come from others; a 7 of a counted is as good as a 1. */
  private static void p20WhatIsThereHelps() {
    SureNoes x = Due.withLaws(1, 0, 2, 5);
    x.book(1, 8, 3);
    // Key 20 has the places 4 and 0, key 4 has 4 and 5, key 5 has 5 and 7, key 0 has 0 and 5.
    for (int i = 0; i < 8; i++) {
      x.put(0, 20);
    }
    Due.is("p20 one place is missing", x.spoil(0, 4), Due.set(0));
    x.take(0, 20);
    Due.is("p20 a 7 stays", x.spoil(0, 4), Due.set(0));
    long before = x.digest();
    x.spoil(0, 31);
    Due.is("p20 none is put", x.digest(), before);
  }

  /** 20: "UNKNOWN: book, key; STATE: another KIND." */
  private static void p20Refusals() {
    SureNoes x = sixBooks();
    for (int book : NO_BOOKS) {
      Due.refused(x, "p20 book " + book, () -> x.spoil(book, 0), SureNoes.UNKNOWN);
    }
    for (int kind = 0; kind <= 5; kind++) {
      int of = kind;
      for (int key : NO_KEYS) {
        Due.refused(x, "p20 kind " + kind + ", key " + key, () -> x.spoil(of, key), SureNoes.UNKNOWN);
      }
      if (kind >= 3) {
        Due.refused(x, "p20 kind " + kind, () -> x.spoil(of, 1), SureNoes.STATE);
      }
    }
  }

  private static void madeIs(String when, SureNoes x, int book, long fewest, long least, long sure, long may) {
    Due.is("p21 " + when + ": fewest", x.made(book, 0), fewest);
    Due.is("p21 " + when + ": least bits", x.made(book, 1), least);
    Due.is("p21 " + when + ": sure", x.made(book, 2), sure);
    Due.is("p21 " + when + ": may", x.made(book, 3), may);
  }

  /** 21: nothing but the empty set makes an empty row. */
  private static void p21Empty() {
    SureNoes x = Due.withLaws(1, 0);
    x.book(0, 2, 1);
    x.book(2, 32, 1);
    madeIs("empty", x, 0, 0, 0, 0, 0);
    madeIs("empty parted", x, 1, 0, 0, 0, 0);
  }

  /** 21: all places filled: of two, of twelve, of thirty-two. */
  private static void p21Full() {
    SureNoes x = Due.withLaws(1, 0);
    int[] sizes = {2, 12, 32};
    for (int i = 0; i < sizes.length; i++) {
      x.book(0, sizes[i], 1);
      for (int key = 0; key < 32; key++) {
        x.put(i, key);
      }
    }
    madeIs("of two", x, 0, 2, 3, 0, ALL);
    madeIs("of twelve", x, 1, 12, 4095, 0, ALL);
    madeIs("of 32", x, 2, SureNoes.SPENT, SureNoes.SPENT, ALL, ALL);
  }

  /** 21: "(Not sought, if more than 12 numbers are above 0.)", "SPENT (what 0, 1)". */
  private static void p21TwelveAndThirteen() {
    for (int kind = 0; kind <= 2; kind += 2) {
      SureNoes x = Due.withLaws(1, 0);
      x.book(kind, 32, 1);
      putAll(x, 0, 0, 3, 5, 8, 11, 13, 17, 19, 23, 27, 29);
      long eleven = Due.set(0, 3, 5, 8, 11, 13, 17, 19, 23, 27, 29);
      madeIs("eleven", x, 0, 11, eleven, eleven, eleven);
      putAll(x, 0, 31, 31);
      long twelve = eleven | 1L << 31;
      madeIs("twelve", x, 0, 12, twelve, twelve, twelve);
      putAll(x, 0, 30);
      long thirteen = twelve | 1L << 30;
      madeIs("thirteen", x, 0, SureNoes.SPENT, SureNoes.SPENT, thirteen, thirteen);
    }
  }

  /** By laws 1, 0 and 2, 5 of 32 places, met of two sets of keys: places of which none is any key's alone. */
  private static SureNoes met(int[] one, int[] other) {
    SureNoes x = Due.withLaws(1, 0, 2, 5);
    x.book(0, 32, 3);
    x.book(0, 32, 3);
    putAll(x, 0, one);
    putAll(x, 1, other);
    Due.is("met", x.join(0, 1, true), 2);
    return x;
  }

  /** 21: "NONE (0, 1), 0 (2, 3): there is no such set", with one number and with twelve. */
  private static void p21NoSuchSet() {
    // Key 0 has the places 0 and 5, key 5 has 5 and 15: 5 is met, and no key has it alone.
    SureNoes x = met(new int[] {0}, new int[] {5});
    Due.is("p21 one number", x.about(2, 3), 1);
    madeIs("one number", x, 2, SureNoes.NONE, SureNoes.NONE, 0, 0);
    SureNoes y = met(new int[] {0, 6, 7, 8, 23, 27, 28, 29, 30, 31}, new int[] {3, 6, 7, 12, 16, 24, 25, 27, 29, 30});
    Due.is("p21 twelve numbers", y.about(2, 3), 12);
    madeIs("twelve numbers", y, 2, SureNoes.NONE, SureNoes.NONE, 0, 0);
  }

  /** 21: with thirteen numbers it is not sought, so SPENT, which is told ahead of NONE; 0 for the others. */
  private static void p21NotSoughtAndNoSuchSet() {
    SureNoes x = met(new int[] {0, 3, 5, 6, 12, 17, 19, 22, 25, 30}, new int[] {1, 5, 6, 11, 12, 15, 16, 17, 18, 30});
    Due.is("p21 thirteen numbers", x.about(2, 3), 13);
    madeIs("thirteen numbers", x, 2, SureNoes.SPENT, SureNoes.SPENT, 0, 0);
  }

  /** 21: "FEWEST: how many KEYS the least of them has; of these that of least bits". */
  private static void p21FewestThenLeastBits() {
    SureNoes x = Due.withLaws(1, 0, 2, 5);
    x.book(0, 32, 3);
    // 0 has 0 and 5, 5 has 5 and 15, 15 has 15 and 3: two of them fill all, though three were put.
    putAll(x, 0, 0, 5, 15);
    madeIs("fewer than were put", x, 0, 2, Due.set(0, 15), Due.set(0, 15), Due.set(0, 5, 15));
    x.book(0, 16, 1);
    putAll(x, 1, 31, 16);
    madeIs("lesser ones than were put", x, 1, 2, Due.set(0, 15), 0, Due.set(0, 16, 15, 31));
    x.book(2, 2, 3);
    putAll(x, 2, 31);
    madeIs("one key fills both", x, 2, 1, 1, 0, ALL);
  }

  /** 21: "SURE: those of all", "MAY: KEYS of some such set". */
  private static void p21SureAndMay() {
    SureNoes x = Due.withLaws(1, 0);
    x.book(0, 31, 1);
    // By M 31 keys 0 and 31 have one place, all others their own.
    putAll(x, 0, 31, 30);
    madeIs("one of two, and one for sure", x, 0, 2, Due.set(0, 30), Due.set(30), Due.set(0, 31, 30));
    putAll(x, 0, 0);
    madeIs("the same", x, 0, 2, Due.set(0, 30), Due.set(30), Due.set(0, 31, 30));
  }

  /** 21: "UNKNOWN; OUTSIDE; STATE: another KIND." */
  private static void p21Refusals() {
    SureNoes x = sixBooks();
    for (int book : NO_BOOKS) {
      Due.refused(x, "p21 book " + book, () -> x.made(book, 0), SureNoes.UNKNOWN);
      Due.refused(x, "p21 book " + book + ", what 4", () -> x.made(book, 4), SureNoes.UNKNOWN);
    }
    for (int kind = 0; kind <= 5; kind++) {
      int of = kind;
      for (int what : new int[] {-1, 4, Integer.MIN_VALUE, Integer.MAX_VALUE}) {
        Due.refused(x, "p21 kind " + kind + ", what " + what, () -> x.made(of, what), SureNoes.OUTSIDE);
      }
      for (int what = 0; what <= 3 && kind != 0 && kind != 2; what++) {
        int told = what;
        Due.refused(x, "p21 kind " + kind + ", what " + what, () -> x.made(of, told), SureNoes.STATE);
      }
    }
  }

  private static void orderIs(String when, SureNoes x, int book, long set, int... due) {
    for (int i = 0; i < 6; i++) {
      Due.is("p22 " + when + ": " + i, x.order(book, set, i), i < due.length ? due[i] : SureNoes.NONE);
    }
  }

  /** 22: "ORDER of up to six KEYS": none, one at each end, six, and not seven. */
  private static void p22NoneToSixKeys() {
    SureNoes x = Due.withLaws(1, 0, 2, 5);
    x.book(3, 32, 3);
    orderIs("none", x, 0, 0);
    orderIs("key 0", x, 0, 1, 0);
    orderIs("key 31", x, 0, 1L << 31, 31);
    orderIs("both ends", x, 0, Due.set(0, 31), 0, 31);
    orderIs("five", x, 0, Due.set(0, 1, 2, 3, 31), 0, 1, 2, 3, 31);
    orderIs("six", x, 0, Due.set(0, 1, 2, 3, 30, 31), 0, 1, 2, 3, 30, 31);
    Due.refused(x, "p22 seven", () -> x.order(0, 127, 0), SureNoes.OUTSIDE);
    Due.refused(x, "p22 seven with the last", () -> x.order(0, 63 | 1L << 31, 5), SureNoes.OUTSIDE);
    Due.refused(x, "p22 all", () -> x.order(0, ALL, 0), SureNoes.OUTSIDE);
  }

  /** 22: "the i-th KEY (0 to 5); NONE: there are no more". */
  private static void p22NoMoreKeys() {
    SureNoes x = Due.withLaws(1, 0, 2, 5);
    x.book(3, 32, 3);
    for (int many = 0; many <= 6; many++) {
      long set = (1L << many) - 1;
      for (int i = 0; i <= 5; i++) {
        Due.is("p22 key " + i + " of " + many, x.order(0, set, i), i < many ? i : SureNoes.NONE);
      }
      for (int i : new int[] {-1, 6, Integer.MIN_VALUE, Integer.MAX_VALUE}) {
        Due.refused(x, "p22 i " + i, () -> x.order(0, set, i), SureNoes.OUTSIDE);
      }
    }
  }

  /** 22: "or no ORDER": more keys than places, or too few places for them; all 720 orders fail. */
  private static void p22NoOrder() {
    SureNoes x = Due.withLaws(1, 0, 2, 5);
    x.book(3, 2, 3);
    x.book(3, 5, 3);
    x.book(3, 8, 3);
    orderIs("three keys, two places", x, 0, 7);
    orderIs("six keys, two places", x, 0, 63);
    orderIs("six keys, five places", x, 1, Due.set(0, 5, 10, 15, 20, 25));
    // By M 8 the keys 8 and 16 have the places 0 and 5, 11 and 19 have 3 and 0: four keys, three places.
    orderIs("four keys, three of their places", x, 2, Due.set(8, 11, 16, 19));
    SureNoes y = Due.withLaws(12, 12, 24, 12);
    y.book(3, 5, 3);
    orderIs("two keys, one place", y, 0, Due.set(6, 21));
    orderIs("one of them", y, 0, Due.set(21), 21);
  }

  /** 22: "the first (by KEYS in their order) by which all of them can be PUT": here the second of 720. */
  private static void p22TheFirstOrder() {
    SureNoes x = Due.withLaws(1, 0, 2, 22);
    x.book(3, 7, 3);
    putAll(x, 0, 0, 4, 6, 18, 20);
    Due.refused(x, "p22 by their numbers the last finds none", () -> x.put(0, 26), SureNoes.FULL);
    x.book(3, 7, 3);
    orderIs("the next one", x, 1, Due.set(0, 4, 6, 18, 20, 26), 0, 4, 6, 18, 26, 20);
    putAll(x, 1, 0, 4, 6, 18, 26, 20);
    Due.is("p22 all lie", x.about(1, 3), 6);
  }

  /** 22: "into an empty one like it", whatever lies in it; nothing changes. */
  private static void p22AnEmptyOneLikeIt() {
    SureNoes x = Due.withLaws(1, 0, 2, 22);
    x.book(3, 7, 3);
    putAll(x, 0, 0, 4, 6, 18, 26, 20);
    long before = x.digest();
    orderIs("of a filled one", x, 0, Due.set(0, 4, 6, 18, 20, 26), 0, 4, 6, 18, 26, 20);
    orderIs("of a key that lies there", x, 0, 1, 0);
    Due.is("p22 nothing changes", x.digest(), before);
  }

  /** 22: "UNKNOWN: book; OUTSIDE: set (more than six KEYS, too), i; STATE: another KIND." */
  private static void p22Refusals() {
    SureNoes x = sixBooks();
    for (int book : NO_BOOKS) {
      Due.refused(x, "p22 book " + book, () -> x.order(book, 1, 0), SureNoes.UNKNOWN);
      Due.refused(x, "p22 book " + book + ", set -1", () -> x.order(book, -1, 0), SureNoes.UNKNOWN);
      Due.refused(x, "p22 book " + book + ", i 6", () -> x.order(book, 1, 6), SureNoes.UNKNOWN);
    }
    for (int kind = 0; kind <= 5; kind++) {
      int of = kind;
      for (long set : NO_SETS) {
        Due.refused(x, "p22 kind " + kind + ", set " + set, () -> x.order(of, set, 0), SureNoes.OUTSIDE);
      }
      Due.refused(x, "p22 kind " + kind + ", seven keys", () -> x.order(of, 127, 0), SureNoes.OUTSIDE);
      Due.refused(x, "p22 kind " + kind + ", i 6", () -> x.order(of, 1, 6), SureNoes.OUTSIDE);
      Due.refused(x, "p22 kind " + kind + ", i -1", () -> x.order(of, 1, -1), SureNoes.OUTSIDE);
      if (kind != 3) {
        Due.refused(x, "p22 kind " + kind, () -> x.order(of, 1, 0), SureNoes.STATE);
        Due.refused(x, "p22 kind " + kind + ", no keys", () -> x.order(of, 0, 0), SureNoes.STATE);
      }
    }
  }

  /** 23: no key, one at each end, all. */
  private static void p23NoneAndAll() {
    SureNoes x = Due.withLaws(1, 0, 2, 5);
    int[] sizes = {2, 8, 31, 32};
    for (int i = 0; i < sizes.length; i++) {
      x.book(3, sizes[i], 3);
      Due.is("p23 none", x.most(i, 0), 0);
      Due.is("p23 key 0", x.most(i, 1), 1);
      Due.is("p23 key 31", x.most(i, 1L << 31), 1);
      Due.is("p23 all keys, every place", x.most(i, ALL), sizes[i]);
    }
  }

  /** 23: "each at one of its two PLACES": where both are one, there is room for one alone. */
  private static void p23OnePlaceAlone() {
    SureNoes x = Due.withLaws(12, 12, 24, 12);
    x.book(3, 5, 3);
    Due.is("p23 one", x.most(0, Due.set(6)), 1);
    Due.is("p23 two keys, one place", x.most(0, Due.set(6, 21)), 1);
  }

  /** 23: "one at each": groups of three places each, the first of them with place 0. */
  private static void p23OneAtEach() {
    SureNoes x = Due.withLaws(1, 0, 2, 5);
    x.book(3, 8, 3);
    // Places of 8, 16: 0 and 5; of 11, 19: 3 and 0; of 9, 17: 1 and 6; of 12, 20: 4 and 6.
    Due.is("p23 two keys, two places", x.most(0, Due.set(8, 16)), 2);
    Due.is("p23 three keys, three places", x.most(0, Due.set(8, 16, 11)), 3);
    Due.is("p23 four keys, three places", x.most(0, Due.set(8, 16, 11, 19)), 3);
    Due.is("p23 eight keys, six places", x.most(0, Due.set(8, 16, 11, 19, 9, 17, 12, 20)), 6);
    Due.is("p23 key 0 ties place 6 to them", x.most(0, Due.set(0, 8, 16, 11, 19, 9, 17, 12, 20)), 6);
  }

  /** 23: the first key and the first place count like others: place 0 as the other one, key 0 with room at 6. */
  private static void p23FirstKeyAndFirstPlace() {
    SureNoes x = Due.withLaws(1, 0, 2, 5);
    x.book(3, 8, 3);
    // Places of 11, 19: 3 and 0; of 8, 16: 0 and 5; of 0: 0 and 6; of 14: 6 and 0.
    Due.is("p23 one of two at place 0", x.most(0, Due.set(11, 19)), 2);
    Due.is("p23 four keys, three places", x.most(0, Due.set(8, 16, 11, 19)), 3);
    Due.is("p23 key 0 instead, four places", x.most(0, Due.set(8, 16, 11, 0)), 4);
  }

  /** 23: what was asked ahead ties no places now: key 14 has 6 and 0, the others 1 and 6, 4 and 6. */
  private static void p23NothingStaysTied() {
    SureNoes x = Due.withLaws(1, 0, 2, 5);
    x.book(3, 8, 3);
    long others = Due.set(9, 17, 12, 20);
    Due.is("p23 four keys, three places", x.most(0, others), 3);
    Due.is("p23 place 0 by one key more", x.most(0, others | Due.set(14)), 4);
    Due.is("p23 key 14 alone", x.most(0, Due.set(14)), 1);
    Due.is("p23 place 0 is no longer theirs", x.most(0, others), 3);
  }

  /** 23: "in an empty one like it"; nothing changes. */
  private static void p23AnEmptyOneLikeIt() {
    SureNoes x = Due.withLaws(1, 0, 2, 5);
    x.book(3, 8, 3);
    putAll(x, 0, 8, 16);
    Due.refused(x, "p23 there is no place for one more", () -> x.put(0, 8), SureNoes.FULL);
    long before = x.digest();
    Due.is("p23 in an empty one there is", x.most(0, Due.set(8, 16)), 2);
    Due.is("p23 nothing changes", x.digest(), before);
  }

  /** 23: "UNKNOWN: book; OUTSIDE: set; STATE: another KIND." */
  private static void p23Refusals() {
    SureNoes x = sixBooks();
    for (int book : NO_BOOKS) {
      Due.refused(x, "p23 book " + book, () -> x.most(book, 1), SureNoes.UNKNOWN);
      Due.refused(x, "p23 book " + book + ", set -1", () -> x.most(book, -1), SureNoes.UNKNOWN);
    }
    for (int kind = 0; kind <= 5; kind++) {
      int of = kind;
      for (long set : NO_SETS) {
        Due.refused(x, "p23 kind " + kind + ", set " + set, () -> x.most(of, set), SureNoes.OUTSIDE);
      }
      if (kind != 3) {
        Due.refused(x, "p23 kind " + kind, () -> x.most(of, 1), SureNoes.STATE);
        Due.refused(x, "p23 kind " + kind + ", no keys", () -> x.most(of, 0), SureNoes.STATE);
      }
    }
  }
}
