/**
 * Promises 1 to 6, each sentence of the document that names a boundary by a method of its own: a new
 * object, law, value, odds, best, fewest. What is due was found by hand or by counting, as told beside it.
 */
public final class BoundaryLawsTest {
  private static final long ALL = 0xFFFFFFFFL;
  private static final long[] NO_SETS = {-1, Long.MIN_VALUE, ALL + 1, Long.MAX_VALUE};
  private static final int[] NO_KEYS = {-1, 32, Integer.MIN_VALUE, Integer.MAX_VALUE};
  private static final int[] NO_SIZES = {1, 33, 0, -2, Integer.MIN_VALUE, Integer.MAX_VALUE};

  public static void main(String[] args) {
    p1NoLawsNoBooks();
    p2LeastAndGreatestAB();
    p2OutsideAB();
    p2EightAtMost();
    p3WrapAround();
    p3UnknownLawAndKey();
    p4LowestTerms();
    p4EmptyAndFullSet();
    p4OutsideAheadOfUnknown();
    p5EmptyAndFullSet();
    p5OfLikeOnesLeastAThenB();
    p5Outside();
    p6LeastAndGreatestM();
    p6NoneOf2To32();
    p6EmptyAndFullSet();
    p6UnknownAheadOfOutside();
    Due.end();
  }

  /** 1: "No LAWS, no BOOKS." */
  private static void p1NoLawsNoBooks() {
    SureNoes x = new SureNoes();
    for (int what = 0; what <= 3; what++) {
      Due.is("p1 count(" + what + ")", x.count(what), 0);
    }
    for (int number = 0; number < 8; number++) {
      Due.is("p1 no law", x.value(number, 0), SureNoes.UNKNOWN);
      Due.is("p1 no law", x.fewest(1, number, 0), SureNoes.UNKNOWN);
      Due.is("p1 no book", x.about(number, 0), SureNoes.UNKNOWN);
      Due.is("p1 no book", x.halve(number), SureNoes.UNKNOWN);
      Due.is("p1 no law for a book", x.book(0, 8, 1 << number), SureNoes.UNKNOWN);
    }
    Due.is("p1 the first law", x.law(1, 0), 0);
    Due.is("p1 the first book", x.book(0, 8, 1), 0);
    Due.is("p1 another new object is empty all the same", new SureNoes().count(0), 0);
  }

  /** 2: "A (1 to 36), B (0 to 36)": the ends are let in, and told anew as often as one likes. */
  private static void p2LeastAndGreatestAB() {
    SureNoes x = new SureNoes();
    Due.is("p2 A 1, B 0", x.law(1, 0), 0);
    Due.is("p2 A 36, B 36", x.law(36, 36), 1);
    Due.is("p2 A 1, B 36", x.law(1, 36), 2);
    Due.is("p2 A 36, B 0", x.law(36, 0), 3);
    Due.is("p2 the same once more", x.law(36, 0), 4);
  }

  /** 2: "OUTSIDE: a, b". */
  private static void p2OutsideAB() {
    SureNoes x = Due.withLaws(3, 4);
    int[] noA = {0, 37, -1, Integer.MIN_VALUE, Integer.MAX_VALUE};
    int[] noB = {-1, 37, Integer.MIN_VALUE, Integer.MAX_VALUE};
    for (int a : noA) {
      Due.refused(x, "p2 A " + a, () -> x.law(a, 0), SureNoes.OUTSIDE);
    }
    for (int b : noB) {
      Due.refused(x, "p2 B " + b, () -> x.law(1, b), SureNoes.OUTSIDE);
    }
    Due.is("p2 the next number is not used up", x.law(1, 0), 1);
  }

  /** 2: "LAWS (8 at most, numbered)", FULL; OUTSIDE is told ahead of it. */
  private static void p2EightAtMost() {
    SureNoes x = new SureNoes();
    for (int i = 0; i < 8; i++) {
      Due.is("p2 the law " + i, x.law(i + 1, i), i);
    }
    Due.refused(x, "p2 the ninth", () -> x.law(1, 0), SureNoes.FULL);
    Due.refused(x, "p2 the ninth, A outside", () -> x.law(0, 0), SureNoes.OUTSIDE);
    Due.refused(x, "p2 the ninth, B outside", () -> x.law(1, 37), SureNoes.OUTSIDE);
    Due.is("p2 eight", x.count(0), 8);
  }

  /** 3: "the rest of A x and B by 37": below 37, at 37, and far above. */
  private static void p3WrapAround() {
    SureNoes x = Due.withLaws(1, 0, 1, 6, 1, 5, 36, 36, 36, 0);
    Due.is("p3 key 0", x.value(0, 0), 0);
    Due.is("p3 key 31", x.value(0, 31), 31);
    Due.is("p3 37 is 0", x.value(1, 31), 0);
    Due.is("p3 36 stays", x.value(2, 31), 36);
    Due.is("p3 36 at key 0", x.value(3, 0), 36);
    // 36 is 1 less than 37, so 36 times 31 is 31 less than a multiple of 37: 6; with 36 it is 5.
    Due.is("p3 36 times 31", x.value(4, 31), 6);
    Due.is("p3 36 times 31, and 36", x.value(3, 31), 5);
    Due.is("p3 36 times 1, and 36", x.value(3, 1), 35);
  }

  /** 3: "UNKNOWN: law, key." */
  private static void p3UnknownLawAndKey() {
    SureNoes x = Due.withLaws(1, 0, 2, 5);
    for (int law : new int[] {-1, 2, 8, Integer.MIN_VALUE, Integer.MAX_VALUE}) {
      Due.refused(x, "p3 law " + law, () -> x.value(law, 0), SureNoes.UNKNOWN);
    }
    for (int key : NO_KEYS) {
      Due.refused(x, "p3 key " + key, () -> x.value(0, key), SureNoes.UNKNOWN);
      Due.refused(x, "p3 law 2, key " + key, () -> x.value(2, key), SureNoes.UNKNOWN);
    }
  }

  private static void oddsAre(String when, long set, int key, int m, int above, int below) {
    SureNoes x = new SureNoes();
    Due.is("p4 " + when + ": above", x.odds(set, key, m, 0), above);
    Due.is("p4 " + when + ": below", x.odds(set, key, m, 1), below);
  }

  /**
   * 4: "the share, in lowest terms". By all laws two keys have each two unlike values just once, 1332
   * in all. With M 2 there are 19 values of rest 0 and 18 of rest 1: 19 * 18 + 18 * 17 is 648, which
   * is 18 of 37. With M 32 the values 0 to 4 meet 32 to 36: 10, which is 5 of 666.
   */
  private static void p4LowestTerms() {
    oddsAre("M 2", 1, 31, 2, 18, 37);
    oddsAre("M 3", 1, 31, 3, 35, 111);
    oddsAre("M 32", 1, 1, 32, 5, 666);
    oddsAre("M 32, the last key and the first", 1L << 31, 0, 32, 5, 666);
    oddsAre("M 31, all but the last key", ALL >> 1, 31, 31, 31, 111);
    oddsAre("M 32, all but the first key", ALL - 1, 0, 32, 155, 666);
  }

  /** 4: no key of the set, no law: 0 of 1; a set whose keys are everywhere: 1 of 1. */
  private static void p4EmptyAndFullSet() {
    oddsAre("an empty set", 0, 0, 2, 0, 1);
    oddsAre("an empty set, M 32", 0, 31, 32, 0, 1);
    oddsAre("all others, M 2", ALL - 1, 0, 2, 1, 1);
    SureNoes x = new SureNoes();
    for (int key = 0; key < 32; key++) {
      Due.is("p4 no key is left of a full set", x.odds(ALL, key, 2, 0), SureNoes.UNKNOWN);
    }
  }

  /** 4: "OUTSIDE: set, m (2 to 32), part; UNKNOWN: key (also one of the set)." */
  private static void p4OutsideAheadOfUnknown() {
    SureNoes x = Due.withLaws(1, 0);
    for (long set : NO_SETS) {
      Due.refused(x, "p4 set " + set, () -> x.odds(set, 5, 8, 0), SureNoes.OUTSIDE);
      Due.refused(x, "p4 set " + set + ", key 32", () -> x.odds(set, 32, 8, 0), SureNoes.OUTSIDE);
    }
    for (int m : NO_SIZES) {
      Due.refused(x, "p4 m " + m, () -> x.odds(1, 5, m, 0), SureNoes.OUTSIDE);
      Due.refused(x, "p4 m " + m + ", key of the set", () -> x.odds(1, 0, m, 0), SureNoes.OUTSIDE);
    }
    for (int part : new int[] {-1, 2, Integer.MIN_VALUE, Integer.MAX_VALUE}) {
      Due.refused(x, "p4 part " + part, () -> x.odds(1, 5, 8, part), SureNoes.OUTSIDE);
      Due.refused(x, "p4 part " + part + ", key -1", () -> x.odds(1, -1, 8, part), SureNoes.OUTSIDE);
    }
    for (int key : NO_KEYS) {
      Due.refused(x, "p4 key " + key, () -> x.odds(1, key, 8, 0), SureNoes.UNKNOWN);
    }
    Due.refused(x, "p4 the first key, of the set", () -> x.odds(1, 0, 8, 1), SureNoes.UNKNOWN);
    Due.refused(x, "p4 the last key, of the set", () -> x.odds(1L << 31, 31, 8, 1), SureNoes.UNKNOWN);
  }

  private static void bestIs(String when, long set, int m, int many, int a, int b) {
    SureNoes x = new SureNoes();
    Due.is("p5 " + when + ": how many", x.best(set, m, 0), many);
    Due.is("p5 " + when + ": A", x.best(set, m, 1), a);
    Due.is("p5 " + when + ": B", x.best(set, m, 2), b);
  }

  /** 5: where no key is, or none is left, every law is as good: A 1, B 0. */
  private static void p5EmptyAndFullSet() {
    bestIs("an empty set, M 2", 0, 2, 0, 1, 0);
    bestIs("an empty set, M 32", 0, 32, 0, 1, 0);
    bestIs("all keys, M 2", ALL, 2, 0, 1, 0);
    bestIs("all keys, M 32", ALL, 32, 0, 1, 0);
  }

  /** 5: "of like ones least A, then B". By each of these several laws let in as few keys. */
  private static void p5OfLikeOnesLeastAThenB() {
    // 48 laws let in 12: A 2 with B 11, 13, 15 and so on, and greater A.
    bestIs("the first key, M 2", 1, 2, 12, 2, 11);
    // A 2 with B 0, 13, 15 and so on.
    bestIs("the last key, M 2", 1L << 31, 2, 12, 2, 0);
    // Twelve laws: A 8 with B 18, 19, 20, 26 and so on, and greater A.
    bestIs("three keys, M 8", Due.set(3, 4, 5), 8, 1, 8, 18);
    // Six laws: A 4 with B 21, 22, 23 and A 33 with B 13, 14, 15.
    bestIs("four keys, M 4", Due.set(0, 1, 2, 3), 4, 0, 4, 21);
    // 68 laws, the first of them A 6, B 0.
    bestIs("two keys, M 12", Due.set(7, 9), 12, 1, 6, 0);
    // A 1, B 0 leads each key to a place of its own.
    bestIs("the ends, M 32", Due.set(0, 31), 32, 0, 1, 0);
  }

  /** 5: "OUTSIDE: set, m (2 to 32), what." */
  private static void p5Outside() {
    SureNoes x = Due.withLaws(1, 0);
    for (long set : NO_SETS) {
      Due.refused(x, "p5 set " + set, () -> x.best(set, 8, 0), SureNoes.OUTSIDE);
    }
    for (int m : NO_SIZES) {
      Due.refused(x, "p5 m " + m, () -> x.best(1, m, 0), SureNoes.OUTSIDE);
    }
    for (int what : new int[] {-1, 3, Integer.MIN_VALUE, Integer.MAX_VALUE}) {
      Due.refused(x, "p5 what " + what, () -> x.best(1, 8, what), SureNoes.OUTSIDE);
    }
  }

  /** 6: "the least M (2 to 32) by which e KEYS at most do". By A 1, B 0 key 0 meets the multiples of M. */
  private static void p6LeastAndGreatestM() {
    SureNoes x = Due.withLaws(1, 0, 1, 6);
    Due.is("p6 e 31", x.fewest(1, 0, 31), 2);
    Due.is("p6 e 15, as many as M 2 lets in", x.fewest(1, 0, 15), 2);
    Due.is("p6 e 14, one less", x.fewest(1, 0, 14), 3);
    Due.is("p6 e 10, as many as M 3 lets in", x.fewest(1, 0, 10), 3);
    Due.is("p6 e 9, one less", x.fewest(1, 0, 9), 4);
    Due.is("p6 e 1", x.fewest(1, 0, 1), 16);
    Due.is("p6 e 0 by the last M", x.fewest(1, 0, 0), 32);
    // By A 1, B 6 key 31 has the value 0, others 6 to 36: from 19 on just one of them is a multiple.
    Due.is("p6 a value that wraps around", x.fewest(1L << 31, 1, 1), 19);
  }

  /** 6: "NONE: none of 2 to 32": values 6 to 36 have a multiple of each M, 32 of the last one. */
  private static void p6NoneOf2To32() {
    SureNoes x = Due.withLaws(1, 6);
    Due.is("p6 e 0", x.fewest(1L << 31, 0, 0), SureNoes.NONE);
    Due.is("p6 e 1", x.fewest(1L << 31, 0, 1), 19);
  }

  private static void p6EmptyAndFullSet() {
    SureNoes x = Due.withLaws(1, 0);
    Due.is("p6 an empty set meets none", x.fewest(0, 0, 0), 2);
    Due.is("p6 of a full set none is left", x.fewest(ALL, 0, 0), 2);
    // Half of the keys, one by one: M 2 already parts them.
    Due.is("p6 all even keys", x.fewest(0x55555555L, 0, 0), 2);
    // The upper half: only M 32 keeps all others away.
    Due.is("p6 the upper half", x.fewest(ALL & ~0xFFFFL, 0, 0), 32);
  }

  /** 6: "UNKNOWN: law; OUTSIDE: set, e (0 to 31)." */
  private static void p6UnknownAheadOfOutside() {
    SureNoes x = Due.withLaws(1, 0);
    for (int law : new int[] {-1, 1, 8, Integer.MIN_VALUE, Integer.MAX_VALUE}) {
      Due.refused(x, "p6 law " + law, () -> x.fewest(1, law, 0), SureNoes.UNKNOWN);
      Due.refused(x, "p6 law " + law + ", set -1", () -> x.fewest(-1, law, 0), SureNoes.UNKNOWN);
      Due.refused(x, "p6 law " + law + ", e 32", () -> x.fewest(1, law, 32), SureNoes.UNKNOWN);
    }
    for (long set : NO_SETS) {
      Due.refused(x, "p6 set " + set, () -> x.fewest(set, 0, 0), SureNoes.OUTSIDE);
    }
    for (int e : new int[] {-1, 32, Integer.MIN_VALUE, Integer.MAX_VALUE}) {
      Due.refused(x, "p6 e " + e, () -> x.fewest(1, 0, e), SureNoes.OUTSIDE);
    }
  }
}
