/** Promises 17 to 19, each sentence of the document that names a boundary by a method of its own: keys, join, halve. */
public final class BoundaryRowsTest {
  private static final long ALL = 0xFFFFFFFFL;
  private static final int[] NO_BOOKS = {-1, 8, Integer.MIN_VALUE, Integer.MAX_VALUE};

  public static void main(String[] args) {
    p17EmptyAndFull();
    p17FalseAndLost();
    p17UnknownAheadOfOutside();
    p18EmptyAndFull();
    p18FirstAndLastKeyAndPlace();
    p18ReallyLikewise();
    p18WithItself();
    p18NotAsTold();
    p18FullIsToldLast();
    p18Unknown();
    p19LeastAndGreatestM();
    p19FirstAndLastPlace();
    p19ReallyAsItWas();
    p19NotAsTold();
    p19FullIsToldLast();
    p19Unknown();
    Due.end();
  }

  private static void keysAre(String when, SureNoes x, int book, long in, long falsely, long lost, long really) {
    Due.is(when + ": in", x.keys(book, 0), in);
    Due.is(when + ": false", x.keys(book, 1), falsely);
    Due.is(when + ": lost", x.keys(book, 2), lost);
    Due.is(when + ": really", x.keys(book, 3), really);
  }

  /** 17: no key, one key at each end, all keys; bits of a long, never below 0. */
  private static void p17EmptyAndFull() {
    SureNoes x = Due.withLaws(1, 0);
    x.book(0, 32, 1);
    x.book(0, 2, 1);
    keysAre("p17 empty", x, 0, 0, 0, 0, 0);
    x.put(0, 31);
    keysAre("p17 the last key", x, 0, 1L << 31, 0, 0, 1L << 31);
    x.put(0, 0);
    keysAre("p17 both ends", x, 0, Due.set(0, 31), 0, 0, Due.set(0, 31));
    for (int key = 1; key < 31; key++) {
      x.put(0, key);
    }
    keysAre("p17 full", x, 0, ALL, 0, 0, ALL);
    x.put(1, 0);
    keysAre("p17 all even keys", x, 1, 0x55555555L, 0x55555554L, 0, 1);
    x.put(1, 31);
    keysAre("p17 all by two", x, 1, ALL, ALL & ~Due.set(0, 31), 0, Due.set(0, 31));
  }

  /** 17: "FALSE: KEYS that are IN, and REALLY 0 times. LOST: KEYS that are REALLY there, and not IN." */
  private static void p17FalseAndLost() {
    SureNoes x = Due.withLaws(1, 0);
    x.book(1, 16, 1);
    x.put(0, 0);
    x.put(0, 31);
    keysAre("p17 two of four", x, 0, Due.set(0, 16, 15, 31), Due.set(16, 15), 0, Due.set(0, 31));
    x.take(0, 16);
    keysAre("p17 the first is lost", x, 0, Due.set(15, 31), Due.set(15), Due.set(0), Due.set(0, 31));
    x.take(0, 15);
    keysAre("p17 both are lost", x, 0, 0, 0, Due.set(0, 31), Due.set(0, 31));
    x.put(0, 16);
    keysAre("p17 the first is in again", x, 0, Due.set(0, 16), 0, Due.set(31), Due.set(0, 16, 31));
  }

  /** 17: "UNKNOWN; OUTSIDE." */
  private static void p17UnknownAheadOfOutside() {
    SureNoes x = Due.withLaws(1, 0);
    x.book(0, 8, 1);
    x.put(0, 3);
    for (int book : new int[] {-1, 1, 8, Integer.MIN_VALUE, Integer.MAX_VALUE}) {
      Due.refused(x, "p17 book " + book, () -> x.keys(book, 0), SureNoes.UNKNOWN);
      Due.refused(x, "p17 book " + book + ", what 4", () -> x.keys(book, 4), SureNoes.UNKNOWN);
    }
    for (int what : new int[] {-1, 4, Integer.MIN_VALUE, Integer.MAX_VALUE}) {
      Due.refused(x, "p17 what " + what, () -> x.keys(0, what), SureNoes.OUTSIDE);
    }
  }

  /** 18: two empty ones, an empty and a full one. */
  private static void p18EmptyAndFull() {
    for (int kind = 0; kind <= 2; kind += 2) {
      SureNoes x = Due.withLaws(1, 0);
      x.book(kind, 32, 1);
      x.book(kind, 32, 1);
      Due.is("p18 two empty ones", x.join(0, 0, false), 2);
      keysAre("p18 two empty ones", x, 2, 0, 0, 0, 0);
      for (int key = 0; key < 32; key++) {
        x.put(1, key);
      }
      Due.is("p18 joined", x.join(0, 1, false), 3);
      keysAre("p18 joined", x, 3, ALL, 0, 0, ALL);
      Due.is("p18 met", x.join(1, 0, true), 4);
      keysAre("p18 met", x, 4, 0, 0, 0, 0);
    }
  }

  /** 18: "the greater, the lesser number at each PLACE", at the ends, too. */
  private static void p18FirstAndLastKeyAndPlace() {
    SureNoes x = Due.withLaws(1, 0);
    x.book(0, 32, 1);
    x.book(0, 32, 1);
    x.put(0, 0);
    x.put(1, 31);
    Due.is("p18 joined", x.join(0, 1, false), 2);
    keysAre("p18 joined", x, 2, Due.set(0, 31), 0, 0, Due.set(0, 31));
    Due.is("p18 met", x.join(0, 1, true), 3);
    keysAre("p18 met", x, 3, 0, 0, 0, 0);
    x.put(0, 31);
    x.put(1, 0);
    Due.is("p18 met in both", x.join(0, 1, true), 4);
    keysAre("p18 met in both", x, 4, Due.set(0, 31), 0, 0, Due.set(0, 31));
  }

  /** 18: "REALLY likewise": 99 stays 99, so no more may be put; of 0 and 99 the lesser is 0. */
  private static void p18ReallyLikewise() {
    SureNoes x = Due.withLaws(1, 0);
    x.book(0, 8, 1);
    x.book(0, 8, 1);
    for (int i = 0; i < 99; i++) {
      x.put(0, 0);
    }
    x.put(1, 0);
    x.put(1, 31);
    Due.is("p18 joined", x.join(0, 1, false), 2);
    Due.is("p18 the more", x.real(2, 0), 99);
    Due.is("p18 the more", x.real(2, 31), 1);
    Due.refused(x, "p18 no more may be put", () -> x.put(2, 0), SureNoes.STATE);
    Due.is("p18 met", x.join(0, 1, true), 3);
    Due.is("p18 the less", x.real(3, 0), 1);
    Due.is("p18 the less", x.real(3, 31), 0);
    x.put(3, 0);
    Due.is("p18 the first ones are left alone", x.real(1, 0), 1);
    Due.is("p18 a new one of its own", x.real(3, 0), 2);
    // By M 8 keys 3 and 11 have one place: met, it is in, but neither is there really.
    x.put(0, 3);
    x.put(1, 11);
    Due.is("p18 met", x.join(0, 1, true), 4);
    Due.is("p18 in, but false", x.keys(4, 1) & Due.set(3, 11), Due.set(3, 11));
  }

  private static void p18WithItself() {
    SureNoes x = Due.withLaws(1, 0, 5, 3);
    x.book(2, 9, 3);
    x.put(0, 7);
    x.put(0, 7);
    Due.is("p18 joined with itself", x.join(0, 0, false), 1);
    Due.is("p18 met with itself", x.join(0, 0, true), 2);
    for (int book = 1; book <= 2; book++) {
      for (int what = 0; what <= 5; what++) {
        Due.is("p18 like it", x.about(book, what), x.about(0, what));
      }
      for (int what = 0; what <= 3; what++) {
        Due.is("p18 like it", x.keys(book, what), x.keys(0, what));
      }
      Due.is("p18 like it", x.real(book, 7), 2);
    }
  }

  /** 18: "from two PLAIN or two PARTED of like M and LAWS"; else STATE. */
  private static void p18NotAsTold() {
    // Laws 0 and 3 are told alike, but they are two.
    SureNoes x = Due.withLaws(1, 0, 5, 3, 11, 30, 1, 0);
    int[][] books = {{0, 12, 3}, {0, 12, 10}, {0, 11, 3}, {2, 12, 3}, {1, 12, 3}, {3, 12, 3}, {5, 12, 3}};
    for (int[] one : books) {
      x.book(one[0], one[1], one[2]);
    }
    for (int a = 0; a < 7; a++) {
      for (int b = 0; b < 7; b++) {
        boolean fits = a == b && a <= 3;
        if (!fits) {
          int one = a;
          int other = b;
          Due.refused(x, "p18 joined " + a + ", " + b, () -> x.join(one, other, false), SureNoes.STATE);
          Due.refused(x, "p18 met " + a + ", " + b, () -> x.join(one, other, true), SureNoes.STATE);
        }
      }
    }
    SureNoes y = Due.withLaws(1, 0, 5, 3, 11, 30);
    y.book(4, 12, 7);
    y.book(2, 12, 7);
    y.book(0, 12, 7);
    Due.refused(y, "p18 two folded", () -> y.join(0, 0, false), SureNoes.STATE);
    Due.refused(y, "p18 a folded and a parted", () -> y.join(0, 1, true), SureNoes.STATE);
    Due.refused(y, "p18 a plain and a folded", () -> y.join(2, 0, true), SureNoes.STATE);
  }

  /** 18: "STATE: they are not as told; FULL": the eighth book may be, the ninth not. */
  private static void p18FullIsToldLast() {
    SureNoes x = Due.withLaws(1, 0);
    for (int i = 0; i < 6; i++) {
      x.book(0, 8, 1);
    }
    x.book(0, 7, 1);
    Due.is("p18 the eighth", x.join(0, 1, false), 7);
    Due.refused(x, "p18 the ninth", () -> x.join(0, 1, false), SureNoes.FULL);
    Due.refused(x, "p18 the ninth, met", () -> x.join(0, 0, true), SureNoes.FULL);
    Due.refused(x, "p18 the ninth, unlike M", () -> x.join(0, 6, false), SureNoes.STATE);
    Due.refused(x, "p18 the ninth, unknown", () -> x.join(0, 8, false), SureNoes.UNKNOWN);
  }

  /** 18: "UNKNOWN: a, b", ahead of STATE. */
  private static void p18Unknown() {
    SureNoes x = Due.withLaws(1, 0, 5, 3);
    x.book(0, 8, 1);
    x.book(3, 8, 3);
    for (int book : new int[] {-1, 2, 8, Integer.MIN_VALUE, Integer.MAX_VALUE}) {
      Due.refused(x, "p18 a " + book, () -> x.join(book, 0, false), SureNoes.UNKNOWN);
      Due.refused(x, "p18 b " + book, () -> x.join(0, book, true), SureNoes.UNKNOWN);
      Due.refused(x, "p18 both " + book, () -> x.join(book, book, true), SureNoes.UNKNOWN);
      Due.refused(x, "p18 a pushed and " + book, () -> x.join(1, book, true), SureNoes.UNKNOWN);
    }
  }

  /** 19: "with M even", "(M 2, too)": 32 and 4 may be, 2 and odd ones not. */
  private static void p19LeastAndGreatestM() {
    for (int m = 2; m <= 32; m++) {
      SureNoes x = Due.withLaws(1, 0);
      x.book(0, m, 1);
      if (m % 2 == 0 && m > 2) {
        Due.is("p19 M " + m, x.halve(0), 1);
        Due.is("p19 half of " + m, x.about(1, 1), m / 2);
        Due.is("p19 the last place of " + m, x.at(1, m / 2 - 1), 0);
        Due.is("p19 no more places", x.at(1, m / 2), SureNoes.UNKNOWN);
        Due.is("p19 as it was", x.about(0, 1), m);
      } else {
        Due.refused(x, "p19 M " + m, () -> x.halve(0), SureNoes.STATE);
      }
    }
  }

  /** 19: "the greater one of the numbers at a PLACE and at that and half of M". */
  private static void p19FirstAndLastPlace() {
    int[][] puts = {{0}, {16}, {15}, {31}, {0, 16}, {0, 31}, {}};
    for (int[] keys : puts) {
      SureNoes x = Due.withLaws(1, 0);
      x.book(0, 32, 1);
      long due = 0;
      for (int key : keys) {
        x.put(0, key);
        due |= 1L << key % 16;
      }
      Due.is("p19 halve", x.halve(0), 1);
      for (int place = 0; place < 16; place++) {
        Due.is("p19 place " + place, x.at(1, place), due >> place & 1);
      }
      Due.is("p19 in", x.keys(1, 0), due | due << 16);
      Due.is("p19 none is lost", x.keys(1, 2), 0);
    }
  }

  /** 19: "REALLY as it was": 99 stay 99, keys 0 and 31, too; what is put then is put into one alone. */
  private static void p19ReallyAsItWas() {
    SureNoes x = Due.withLaws(1, 0);
    x.book(0, 8, 1);
    for (int i = 0; i < 99; i++) {
      x.put(0, 0);
    }
    x.put(0, 31);
    Due.is("p19 halve", x.halve(0), 1);
    Due.is("p19 99 times", x.real(1, 0), 99);
    Due.is("p19 once", x.real(1, 31), 1);
    Due.is("p19 as many keys", x.about(1, 4), 2);
    Due.refused(x, "p19 no more may be put", () -> x.put(1, 0), SureNoes.STATE);
    x.put(1, 31);
    Due.is("p19 the first is left alone", x.real(0, 31), 1);
    x.put(0, 5);
    Due.is("p19 the new one is left alone", x.real(1, 5), 0);
    Due.is("p19 halved again", x.halve(1), 2);
    Due.is("p19 two places", x.about(2, 1), 2);
    Due.refused(x, "p19 no further", () -> x.halve(2), SureNoes.STATE);
  }

  /** 19: "STATE: it is not as told": of each other kind with M even. */
  private static void p19NotAsTold() {
    for (int kind = 1; kind <= 5; kind++) {
      SureNoes x = Due.withLaws(1, 0, 5, 3, 11, 30);
      x.book(kind, 12, kind == 3 ? 3 : 7);
      Due.refused(x, "p19 kind " + kind, () -> x.halve(0), SureNoes.STATE);
    }
  }

  /** 19: FULL is told last: the eighth book may be, the ninth not. */
  private static void p19FullIsToldLast() {
    SureNoes x = Due.withLaws(1, 0);
    for (int i = 0; i < 5; i++) {
      x.book(0, 8, 1);
    }
    x.book(0, 7, 1);
    x.book(0, 2, 1);
    Due.is("p19 the eighth", x.halve(0), 7);
    Due.refused(x, "p19 the ninth", () -> x.halve(0), SureNoes.FULL);
    Due.refused(x, "p19 the ninth of M 7", () -> x.halve(5), SureNoes.STATE);
    Due.refused(x, "p19 the ninth of M 2", () -> x.halve(6), SureNoes.STATE);
    Due.refused(x, "p19 the ninth of none", () -> x.halve(8), SureNoes.UNKNOWN);
  }

  /** 19: "UNKNOWN". */
  private static void p19Unknown() {
    SureNoes x = Due.withLaws(1, 0);
    x.book(0, 8, 1);
    for (int book : NO_BOOKS) {
      Due.refused(x, "p19 book " + book, () -> x.halve(book), SureNoes.UNKNOWN);
    }
    Due.refused(x, "p19 book 1", () -> x.halve(1), SureNoes.UNKNOWN);
  }
}
