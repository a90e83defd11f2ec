/**
 * Promises 7 to 12 and 16, each sentence of the document that names a boundary by a method of its own:
 * book, as, about, at, row, places, real.
 */
public final class BoundaryBooksTest {
  private static final long ALL = 0xFFFFFFFFL;
  private static final int[] NO_KEYS = {-1, 32, Integer.MIN_VALUE, Integer.MAX_VALUE};
  private static final int[] FAR = {-1, Integer.MIN_VALUE, Integer.MAX_VALUE};
  /** Laws for a book of each kind, of the first three. */
  private static final int[] LAWS = {7, 7, 7, 3, 7, 7};

  public static void main(String[] args) {
    p7LeastAndGreatestM();
    p7KindOutside();
    p7AsManyLawsAsTheKindHas();
    p7LawsThatAreTold();
    p7EightAtMost();
    p7LawsInTheOrderOfTheirNumbers();
    p7NumbersAre0AtFirst();
    p8EachKindAsEach();
    p8UnknownAheadOfOutside();
    p9EmptyAndFull();
    p9UnknownAheadOfOutside();
    p10FirstAndLastPlace();
    p10Unknown();
    p11FirstAndLastRow();
    p11OfOthersToo();
    p12EachPlaceButOnce();
    p12PartedOneAtLeast();
    p12PartedRoundedDown();
    p12OtherPlaceOfPushed();
    p12FoldedThreePlaces();
    p12LastPlaceIsABitAboveInt();
    p12Unknown();
    p16LeastAndGreatest();
    p16Unknown();
    Due.end();
  }

  /** Three laws, and a book of each kind with so many places, numbered like its kind. */
  private static SureNoes sixBooks(int m) {
    SureNoes x = Due.withLaws(1, 0, 5, 3, 11, 30);
    for (int kind = 0; kind <= 5; kind++) {
      Due.is("a book of kind " + kind, x.book(kind, m, LAWS[kind]), kind);
    }
    return x;
  }

  /** 7: "M PLACES (2 to 32)", "4 FOLDED (of three LAWS, M 3 at least)". */
  private static void p7LeastAndGreatestM() {
    for (int kind = 0; kind <= 5; kind++) {
      SureNoes x = Due.withLaws(1, 0, 5, 3, 11, 30);
      int of = kind;
      for (int m : new int[] {1, 33, 0, -1, Integer.MIN_VALUE, Integer.MAX_VALUE}) {
        Due.refused(x, "p7 kind " + kind + ", m " + m, () -> x.book(of, m, LAWS[of]), SureNoes.OUTSIDE);
      }
      int next = 0;
      if (kind == 4) {
        Due.refused(x, "p7 folded, m 2", () -> x.book(4, 2, 7), SureNoes.OUTSIDE);
        Due.refused(x, "p7 folded, m 2, no laws", () -> x.book(4, 2, 0), SureNoes.OUTSIDE);
      } else {
        Due.is("p7 kind " + kind + ", m 2", x.book(kind, 2, LAWS[kind]), next++);
      }
      Due.is("p7 kind " + kind + ", m 3", x.book(kind, 3, LAWS[kind]), next++);
      Due.is("p7 kind " + kind + ", m 32", x.book(kind, 32, LAWS[kind]), next);
    }
  }

  /** 7: "OUTSIDE: kind", told ahead of UNKNOWN laws. */
  private static void p7KindOutside() {
    SureNoes x = Due.withLaws(1, 0);
    for (int kind : new int[] {-1, 6, Integer.MIN_VALUE, Integer.MAX_VALUE}) {
      Due.refused(x, "p7 kind " + kind, () -> x.book(kind, 8, 1), SureNoes.OUTSIDE);
      Due.refused(x, "p7 kind " + kind + ", no laws", () -> x.book(kind, 8, 0), SureNoes.OUTSIDE);
    }
  }

  /** 7: "one to three LAWS", "3 PUSHED (of two LAWS), 4 FOLDED (of three LAWS ..)". */
  private static void p7AsManyLawsAsTheKindHas() {
    int[] bits = {0, 1, 3, 7, 15};
    for (int kind = 0; kind <= 5; kind++) {
      SureNoes x = Due.withLaws(1, 0, 5, 3, 11, 30, 7, 2);
      int of = kind;
      int next = 0;
      for (int many = 0; many <= 4; many++) {
        int laws = bits[many];
        boolean fits = kind == 3 ? many == 2 : kind == 4 ? many == 3 : many >= 1 && many <= 3;
        if (fits) {
          Due.is("p7 kind " + kind + " of " + many, x.book(kind, 8, laws), next++);
        } else {
          Due.refused(x, "p7 kind " + kind + " of " + many, () -> x.book(of, 8, laws), SureNoes.UNKNOWN);
        }
      }
    }
  }

  /** 7: "UNKNOWN: laws (bits; .. that are told)". */
  private static void p7LawsThatAreTold() {
    SureNoes x = Due.withLaws(1, 0, 5, 3);
    for (int laws : new int[] {4, 5, 6, 8, 128, 256, 1 << 30, Integer.MIN_VALUE, Integer.MIN_VALUE + 1, -1}) {
      Due.refused(x, "p7 laws " + laws, () -> x.book(0, 8, laws), SureNoes.UNKNOWN);
    }
    Due.is("p7 the last one told", x.book(0, 8, 2), 0);
    SureNoes y = Due.withLaws(1, 0, 2, 1, 3, 2, 4, 3, 5, 4, 6, 5, 7, 6, 8, 7);
    Due.is("p7 the eighth law", y.book(0, 8, 128), 0);
    Due.is("p7 the last three laws", y.book(0, 8, 224), 1);
    Due.refused(y, "p7 a ninth law", () -> y.book(0, 8, 256), SureNoes.UNKNOWN);
    Due.refused(y, "p7 the eighth law and a ninth", () -> y.book(0, 8, 384), SureNoes.UNKNOWN);
    Due.refused(y, "p7 the eighth law and the sign", () -> y.book(0, 8, 128 | 1 << 31), SureNoes.UNKNOWN);
  }

  /** 7: "BOOKS (8 at most, numbered)", FULL, told last. */
  private static void p7EightAtMost() {
    SureNoes x = Due.withLaws(1, 0);
    for (int i = 0; i < 8; i++) {
      Due.is("p7 the book " + i, x.book(0, 8, 1), i);
    }
    Due.refused(x, "p7 the ninth", () -> x.book(0, 8, 1), SureNoes.FULL);
    Due.refused(x, "p7 the ninth, no laws", () -> x.book(0, 8, 0), SureNoes.UNKNOWN);
    Due.refused(x, "p7 the ninth, m 1", () -> x.book(0, 1, 1), SureNoes.OUTSIDE);
    Due.refused(x, "p7 the ninth, kind 6", () -> x.book(6, 8, 1), SureNoes.OUTSIDE);
    Due.is("p7 eight", x.count(1), 8);
  }

  /** 7: "LAWS (in the order of their numbers)": the first of a PUSHED leads to p, the second makes the mark. */
  private static void p7LawsInTheOrderOfTheirNumbers() {
    SureNoes x = Due.withLaws(2, 1, 1, 0, 3, 5);
    x.book(3, 16, 6);
    // Key 4: by law 1 the value 4, so p is 4; by law 2 the value 17, so the mark is 4.
    x.put(0, 4);
    Due.is("p7 the mark at p", x.at(0, 4), 4);
    x.book(2, 9, 7);
    // Key 4: values 9, 4, 17, of three places each: 0, 3 and 1, 6 and 2.
    Due.is("p7 the parts by their order", x.places(1, 4), 1 | 1 << 4 | 1 << 8);
  }

  /** 7: "at each PLACE a number (0 at first)". */
  private static void p7NumbersAre0AtFirst() {
    for (int m : new int[] {3, 32}) {
      SureNoes x = sixBooks(m);
      for (int kind = 0; kind <= 5; kind++) {
        for (int place = 0; place < m; place++) {
          Due.is("p7 at first", x.at(kind, place), 0);
        }
        Due.is("p7 none is in", x.keys(kind, 0), 0);
        Due.is("p7 none is there really", x.keys(kind, 3), 0);
      }
    }
  }

  /** 8: "COUNTED, PARTED and LAYERED ones are PLAIN, too; a FOLDED is PARTED and PLAIN, too"; else NONE. */
  private static void p8EachKindAsEach() {
    SureNoes x = sixBooks(8);
    String[] kinds = {"0", "01", "02", "3", "024", "05"};
    for (int book = 0; book <= 5; book++) {
      for (int kind = 0; kind <= 5; kind++) {
        boolean is = kinds[book].indexOf('0' + kind) >= 0;
        Due.is("p8 as(" + book + ", " + kind + ")", x.as(book, kind), is ? book : SureNoes.NONE);
      }
      Due.is("p8 it stays what it is", x.about(book, 0), book);
    }
  }

  /** 8: "UNKNOWN; OUTSIDE." */
  private static void p8UnknownAheadOfOutside() {
    SureNoes x = sixBooks(8);
    for (int book : new int[] {-1, 6, 8, Integer.MIN_VALUE, Integer.MAX_VALUE}) {
      Due.refused(x, "p8 book " + book, () -> x.as(book, 0), SureNoes.UNKNOWN);
      Due.refused(x, "p8 book " + book + ", kind 6", () -> x.as(book, 6), SureNoes.UNKNOWN);
    }
    for (int kind : new int[] {-1, 6, Integer.MIN_VALUE, Integer.MAX_VALUE}) {
      Due.refused(x, "p8 kind " + kind, () -> x.as(0, kind), SureNoes.OUTSIDE);
      Due.refused(x, "p8 pushed, kind " + kind, () -> x.as(3, kind), SureNoes.OUTSIDE);
    }
  }

  private static void aboutIs(String when, SureNoes x, int book, int... due) {
    for (int what = 0; what <= 5; what++) {
      Due.is("p9 " + when + ": " + what, x.about(book, what), due[what]);
    }
  }

  /** 9: all places filled, all keys there, all eight laws told; a key but once, however often it was put. */
  private static void p9EmptyAndFull() {
    SureNoes x = Due.withLaws(1, 0, 2, 1, 3, 2, 4, 3, 5, 4, 6, 5, 7, 6, 8, 7);
    x.book(0, 32, 1);
    x.book(0, 2, 224);
    aboutIs("empty", x, 0, 0, 32, 1, 0, 0, 0);
    aboutIs("empty of two places", x, 1, 0, 2, 224, 0, 0, 0);
    for (int key = 0; key < 32; key++) {
      x.put(0, key);
      x.put(1, key);
    }
    x.put(0, 0);
    aboutIs("full", x, 0, 0, 32, 1, 32, 32, 0);
    aboutIs("full of two places", x, 1, 0, 2, 224, 2, 32, 0);
    x.book(5, 10, 3);
    x.build(2, ALL, 0);
    aboutIs("a layered over all", x, 2, 5, 10, 3, 0, 32, 1);
    x.build(2, 0, ALL);
    aboutIs("a layered over none", x, 2, 5, 10, 3, 0, 0, 0);
  }

  /** 9: "UNKNOWN; OUTSIDE." */
  private static void p9UnknownAheadOfOutside() {
    SureNoes x = sixBooks(8);
    for (int book : new int[] {-1, 6, 8, Integer.MIN_VALUE, Integer.MAX_VALUE}) {
      Due.refused(x, "p9 book " + book, () -> x.about(book, 0), SureNoes.UNKNOWN);
      Due.refused(x, "p9 book " + book + ", what 6", () -> x.about(book, 6), SureNoes.UNKNOWN);
    }
    for (int what : new int[] {-1, 6, Integer.MIN_VALUE, Integer.MAX_VALUE}) {
      Due.refused(x, "p9 what " + what, () -> x.about(5, what), SureNoes.OUTSIDE);
    }
  }

  /** 10: the first and the last of M places. */
  private static void p10FirstAndLastPlace() {
    SureNoes x = Due.withLaws(1, 0);
    x.book(1, 32, 1);
    x.book(1, 2, 1);
    x.put(0, 0);
    x.put(0, 31);
    x.put(0, 31);
    Due.is("p10 place 0 of 32", x.at(0, 0), 1);
    Due.is("p10 place 31 of 32", x.at(0, 31), 2);
    Due.is("p10 place 30 of 32", x.at(0, 30), 0);
    x.put(1, 31);
    Due.is("p10 place 0 of 2", x.at(1, 0), 0);
    Due.is("p10 place 1 of 2", x.at(1, 1), 1);
  }

  /** 10: "UNKNOWN: book, place." A place beyond M is none, also where another book has it. */
  private static void p10Unknown() {
    for (int m : new int[] {3, 31, 32}) {
      SureNoes x = sixBooks(m);
      for (int kind = 0; kind <= 5; kind++) {
        int of = kind;
        Due.is("p10 the last place", x.at(kind, m - 1), 0);
        Due.refused(x, "p10 place M", () -> x.at(of, m), SureNoes.UNKNOWN);
        Due.refused(x, "p10 place 32", () -> x.at(of, 32), SureNoes.UNKNOWN);
        for (int place : FAR) {
          Due.refused(x, "p10 place " + place, () -> x.at(of, place), SureNoes.UNKNOWN);
        }
      }
      for (int book : new int[] {-1, 6, 8, Integer.MIN_VALUE, Integer.MAX_VALUE}) {
        Due.refused(x, "p10 book " + book, () -> x.at(book, 0), SureNoes.UNKNOWN);
        Due.refused(x, "p10 book " + book + ", place -1", () -> x.at(book, -1), SureNoes.UNKNOWN);
      }
    }
  }

  /** 11: the six rows, the first and the last; a seventh is none; with fewer rows later ones are gone. */
  private static void p11FirstAndLastRow() {
    SureNoes x = Due.withLaws(16, 34, 28, 24, 27, 8);
    x.book(5, 6, 7);
    Due.refused(x, "p11 ahead of the first build", () -> x.row(0, 0), SureNoes.UNKNOWN);
    x.build(0, Due.set(10, 12, 14, 20), Due.set(0, 9, 22, 27, 28));
    long[] rows = {25, 41, 17, 16, 8, 16};
    for (int row = 0; row < 6; row++) {
      Due.is("p11 row " + row, x.row(0, row), rows[row]);
    }
    for (int row : new int[] {6, -1, 7, Integer.MIN_VALUE, Integer.MAX_VALUE}) {
      Due.refused(x, "p11 row " + row, () -> x.row(0, row), SureNoes.UNKNOWN);
    }
    x.build(0, 1, 0);
    // 34 by 6 leaves 4.
    Due.is("p11 one row", x.row(0, 0), 16);
    Due.refused(x, "p11 the second is gone", () -> x.row(0, 1), SureNoes.UNKNOWN);
    x.build(0, 0, 0);
    Due.refused(x, "p11 the first is gone", () -> x.row(0, 0), SureNoes.UNKNOWN);
    SureNoes y = Due.withLaws(1, 0);
    y.book(5, 32, 1);
    y.build(0, ALL, 0);
    Due.is("p11 all 32 places", y.row(0, 0), ALL);
    y.build(0, 1L << 31, 0);
    Due.is("p11 the last of 32 places", y.row(0, 0), 1L << 31);
  }

  /** 11: "UNKNOWN: book, row (of others, too)." */
  private static void p11OfOthersToo() {
    SureNoes x = sixBooks(8);
    x.put(0, 1);
    x.build(4, 1, 0);
    x.build(5, 1, 0);
    for (int kind = 0; kind <= 4; kind++) {
      int of = kind;
      for (int row = 0; row <= 5; row++) {
        int i = row;
        Due.refused(x, "p11 row " + row + " of kind " + kind, () -> x.row(of, i), SureNoes.UNKNOWN);
      }
    }
    for (int book : new int[] {-1, 6, 8, Integer.MIN_VALUE, Integer.MAX_VALUE}) {
      Due.refused(x, "p11 book " + book, () -> x.row(book, 0), SureNoes.UNKNOWN);
    }
  }

  /** 12: "by each of its LAWS one of M (each PLACE but once)". */
  private static void p12EachPlaceButOnce() {
    SureNoes x = Due.withLaws(1, 0, 1, 8, 1, 16);
    int[] kinds = {0, 1, 5};
    for (int i = 0; i < kinds.length; i++) {
      x.book(kinds[i], 8, 7);
      // Values 5, 13, 21: by M 8 all of them are 5. Of key 21: 21, 29, and 37, which is 0.
      Due.is("p12 one place by three laws", x.places(i, 5), 1 << 5);
      Due.is("p12 two places by three laws", x.places(i, 21), 1 << 5 | 1);
    }
    x.book(0, 2, 7);
    Due.is("p12 of two places, the last", x.places(3, 5), 2);
    Due.is("p12 of two places, the first", x.places(3, 0), 1);
  }

  /** 12: "m as M by how many LAWS there are, rounded down (1 at least)", "(of M: the rest by M)". */
  private static void p12PartedOneAtLeast() {
    SureNoes x = Due.withLaws(1, 0, 5, 3, 11, 30);
    x.book(2, 2, 7);
    x.book(2, 2, 3);
    x.book(2, 2, 1);
    x.book(2, 3, 7);
    for (int key = 0; key < 32; key++) {
      // Places 0, 1, and 2, which by M is 0 again.
      Due.is("p12 two places, three laws", x.places(0, key), 3);
      Due.is("p12 two places, two laws", x.places(1, key), 3);
      Due.is("p12 two places, one law", x.places(2, key), key % 2 == 0 ? 1 : 2);
      Due.is("p12 three places, three laws", x.places(3, key), 7);
    }
  }

  /** 12: "rounded down": what is left of M over the parts is nobody's place. */
  private static void p12PartedRoundedDown() {
    SureNoes x = Due.withLaws(1, 0, 5, 3, 11, 30);
    x.book(2, 5, 7);
    x.book(2, 32, 7);
    x.book(2, 31, 3);
    long five = 0;
    long thirtyTwo = 0;
    long thirtyOne = 0;
    for (int key = 0; key < 32; key++) {
      five |= x.places(0, key);
      thirtyTwo |= x.places(1, key);
      thirtyOne |= x.places(2, key);
    }
    Due.is("p12 five places, parts of one", five, 7);
    Due.is("p12 32 places, parts of ten", thirtyTwo, (1L << 30) - 1);
    Due.is("p12 31 places, parts of fifteen", thirtyOne, (1L << 30) - 1);
    // Key 19: values 19, 98 which is 24, 239 which is 17: 9, 10 and 4, 20 and 7.
    Due.is("p12 32 places", x.places(1, 19), 1L << 9 | 1L << 14 | 1L << 27);
  }

  /** 12: "the rest by M of 5 times f, less p, and so many times M that it is not below 0". */
  private static void p12OtherPlaceOfPushed() {
    SureNoes x = Due.withLaws(1, 0, 1, 0);
    x.book(3, 32, 3);
    x.book(3, 2, 3);
    // Key 0: mark 1, 5 less 0. Key 31: rest 3, mark 4, 20 less 31 is 11 below 0: 21.
    Due.is("p12 not below 0", x.places(0, 0), 1 | 1 << 5);
    Due.is("p12 below 0", x.places(0, 31), 1L << 31 | 1L << 21);
    // Key 6: rest 6, mark 7, 35 less 6 is 29. Key 1: mark 2, 10 less 1 is 9; key 7: mark 1, 5 less 7 is 30.
    Due.is("p12 the greatest mark", x.places(0, 6), 1L << 6 | 1L << 29);
    Due.is("p12 just below 0", x.places(0, 7), 1L << 7 | 1L << 30);
    // Key 3: mark 4, 20 less 3 is 17. Key 10: rest 3, mark 4, 20 less 10 is 10: one place alone.
    Due.is("p12 the other one is p itself", x.places(0, 10), 1 << 10);
    // By M 2, key 31: p 1, 20 less 1 is odd; key 7: p 1, mark 1, 5 less 1 is even.
    Due.is("p12 of two places, p itself", x.places(1, 31), 2);
    Due.is("p12 of two places, both", x.places(1, 7), 3);
    SureNoes y = Due.withLaws(1, 4, 1, 0);
    y.book(3, 32, 3);
    // Key 28: value 32, so p is 0; mark 1. Key 24: value 28, mark 4, 20 less 28 is 8 below 0.
    Due.is("p12 a value of 32 is place 0", y.places(0, 28), 1 | 1 << 5);
    Due.is("p12 below 0 by 8", y.places(0, 24), 1L << 28 | 1L << 24);
  }

  /** 12: a FOLDED of three places at least has three places of each key, none twice. */
  private static void p12FoldedThreePlaces() {
    SureNoes x = Due.withLaws(1, 0, 5, 3, 11, 30);
    x.book(4, 3, 7);
    x.book(4, 32, 7);
    for (int key = 0; key < 32; key++) {
      Due.is("p12 folded of three", x.places(0, key), 7);
      Due.is("p12 folded of 32", Long.bitCount(x.places(1, key)), 3);
    }
  }

  /** 12: the last of 32 places, as a bit of a long. */
  private static void p12LastPlaceIsABitAboveInt() {
    SureNoes x = Due.withLaws(1, 0);
    for (int kind : new int[] {0, 1, 2, 5}) {
      Due.is("p12 kind " + kind, x.places(x.book(kind, 32, 1), 31), 2147483648L);
    }
  }

  /** 12: "UNKNOWN: book, key." */
  private static void p12Unknown() {
    SureNoes x = sixBooks(8);
    for (int kind = 0; kind <= 5; kind++) {
      int of = kind;
      for (int key : NO_KEYS) {
        Due.refused(x, "p12 kind " + kind + ", key " + key, () -> x.places(of, key), SureNoes.UNKNOWN);
      }
    }
    for (int book : new int[] {-1, 6, 8, Integer.MIN_VALUE, Integer.MAX_VALUE}) {
      Due.refused(x, "p12 book " + book, () -> x.places(book, 0), SureNoes.UNKNOWN);
    }
  }

  /** 16: "how often a KEY was PUT, less how often it was TAKEN OUT while it was there REALLY": 0 to 99. */
  private static void p16LeastAndGreatest() {
    SureNoes x = Due.withLaws(1, 0);
    x.book(1, 8, 1);
    Due.is("p16 at first", x.real(0, 0), 0);
    for (int i = 0; i < 100; i++) {
      x.put(0, 0);
    }
    Due.is("p16 99 at most", x.real(0, 0), 99);
    Due.is("p16 another key", x.real(0, 8), 0);
    for (int i = 0; i < 100; i++) {
      x.take(0, 0);
    }
    Due.is("p16 taken out as often", x.real(0, 0), 0);
    Due.is("p16 the number has come to 7, and stays", x.at(0, 0), 7);
    x.take(0, 8);
    Due.is("p16 taken out while not there really", x.real(0, 8), 0);
    x.put(0, 31);
    Due.is("p16 the last key", x.real(0, 31), 1);
  }

  /** 16: "UNKNOWN: book, key." */
  private static void p16Unknown() {
    SureNoes x = sixBooks(8);
    for (int kind = 0; kind <= 5; kind++) {
      int of = kind;
      for (int key : NO_KEYS) {
        Due.refused(x, "p16 kind " + kind + ", key " + key, () -> x.real(of, key), SureNoes.UNKNOWN);
      }
    }
    for (int book : new int[] {-1, 6, 8, Integer.MIN_VALUE, Integer.MAX_VALUE}) {
      Due.refused(x, "p16 book " + book, () -> x.real(book, 0), SureNoes.UNKNOWN);
    }
  }
}
