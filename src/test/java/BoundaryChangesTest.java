/**
 * Promises 13 to 15, each sentence of the document that names a boundary by a method of its own: put,
 * take, build.
 */
public final class BoundaryChangesTest {
  private static final long ALL = 0xFFFFFFFFL;
  private static final int[] NO_KEYS = {-1, 32, Integer.MIN_VALUE, Integer.MAX_VALUE};
  private static final long[] NO_SETS = {-1, Long.MIN_VALUE, ALL + 1, Long.MAX_VALUE};
  private static final int[] LAWS = {7, 7, 7, 3, 7, 7};

  public static void main(String[] args) {
    p13FirstAndLastKeyAndPlace();
    p13PlainStays1();
    p13Counted7AtMost();
    p13PushedPThenOther();
    p13PushedOtherIsPItself();
    p13EightMarksPushedOut();
    p13ANinthWouldBe();
    p13AllStaysAsItWas();
    p13NinetyNineTimes();
    p13StateAheadOfFull();
    p13FoldedAndLayered();
    p13Unknown();
    p14CountedDownTo0();
    p14ButForThoseThatAre7();
    p14NotReallyThere();
    p14PushedFromPElseFromTheOther();
    p14NotIn();
    p14OtherKinds();
    p14Unknown();
    p15FoldedOverNoneOneAndAll();
    p15FoldedLeastPlaceAndLastFirst();
    p15FoldedFullMarks();
    p15LayeredOverNoneAndAll();
    p15LayeredSixRows();
    p15LayeredSixAreNotEnough();
    p15LayeredLawsInTurn();
    p15WhatWasIsGone();
    p15Refusals();
    Due.end();
  }

  private static SureNoes sixBooks(int m) {
    SureNoes x = Due.withLaws(1, 0, 5, 3, 11, 30);
    for (int kind = 0; kind <= 5; kind++) {
      Due.is("a book of kind " + kind, x.book(kind, m, LAWS[kind]), kind);
    }
    return x;
  }

  private static void numbersAre(String when, SureNoes x, int book, int... due) {
    for (int place = 0; place < due.length; place++) {
      Due.is(when + ": place " + place, x.at(book, place), due[place]);
    }
    Due.is(when + ": no more places", x.at(book, due.length), SureNoes.UNKNOWN);
  }

  /** 13: keys 0 and 31, places 0 and M less 1. */
  private static void p13FirstAndLastKeyAndPlace() {
    SureNoes x = Due.withLaws(1, 0);
    for (int kind = 0; kind <= 2; kind++) {
      x.book(kind, 32, 1);
      Due.is("p13 key 0", x.put(kind, 0), 0);
      Due.is("p13 key 0 again", x.put(kind, 0), 1);
      Due.is("p13 key 31", x.put(kind, 31), 0);
      Due.is("p13 key 31 again", x.put(kind, 31), 1);
      Due.is("p13 place 0", x.at(kind, 0), kind == 1 ? 2 : 1);
      Due.is("p13 place 31", x.at(kind, 31), kind == 1 ? 2 : 1);
      Due.is("p13 in", x.keys(kind, 0), Due.set(0, 31));
    }
  }

  /** 13: "numbers at its PLACES become 1", however often; IN: none of them is 0. */
  private static void p13PlainStays1() {
    SureNoes x = Due.withLaws(1, 0, 2, 5);
    x.book(0, 8, 3);
    // Key 4 has the places 4 and 5; 5 has 5 and 7; 7 has 7 and 3; 20 has 4 and 0.
    Due.is("p13 none of its places", x.put(0, 4), 0);
    Due.is("p13 one of its places alone", x.put(0, 5), 0);
    Due.is("p13 again", x.put(0, 4), 1);
    numbersAre("p13 plain", x, 0, 0, 0, 0, 0, 1, 1, 0, 1);
    Due.is("p13 both places by others", x.put(0, 12), 1);
    numbersAre("p13 plain, nothing new", x, 0, 0, 0, 0, 0, 1, 1, 0, 1);
  }

  /** 13: "1 more each, 7 at most": six, seven, and no eight; a place of two laws counts once. */
  private static void p13Counted7AtMost() {
    SureNoes x = Due.withLaws(1, 0, 2, 5);
    x.book(1, 8, 3);
    for (int i = 1; i <= 9; i++) {
      Due.is("p13 put", x.put(0, 20), i == 1 ? 0 : 1);
      Due.is("p13 at place 0", x.at(0, 0), Math.min(i, 7));
      Due.is("p13 at place 4", x.at(0, 4), Math.min(i, 7));
    }
    Due.is("p13 key 4 has a 7 and a 0", x.put(0, 4), 0);
    numbersAre("p13 counted", x, 0, 7, 0, 0, 0, 7, 1, 0, 0);
    // Values of 3: 3 and 11.
    x.put(0, 3);
    Due.is("p13 one place by both laws", x.at(0, 3), 1);
  }

  /** 13: "if there is none at p: f there; else, if there is none at the OTHER one: there". */
  private static void p13PushedPThenOther() {
    SureNoes x = Due.withLaws(1, 0, 2, 5);
    x.book(3, 8, 3);
    // Keys 8 and 16: p is 0, the mark is 1, the other place 5.
    Due.is("p13 at p", x.put(0, 8), 0);
    numbersAre("p13 at p", x, 0, 1, 0, 0, 0, 0, 0, 0, 0);
    Due.is("p13 in already, and put all the same", x.put(0, 16), 1);
    numbersAre("p13 at the other one", x, 0, 1, 0, 0, 0, 0, 1, 0, 0);
    Due.is("p13 no key more in", x.keys(0, 0) & Due.set(8, 16), Due.set(8, 16));
    Due.refused(x, "p13 a third of one kind", () -> x.put(0, 8), SureNoes.FULL);
    Due.is("p13 really as ahead", x.real(0, 8), 1);
  }

  /** 13: a key whose other place is p itself has but one; a mark pushed there comes back. */
  private static void p13PushedOtherIsPItself() {
    SureNoes x = Due.withLaws(12, 12, 24, 12);
    x.book(3, 5, 3);
    // By M 5 keys 21 and 6 have p 0; their marks are 1 and 2, and 5 and 10 are multiples of 5.
    Due.is("p13 one place", x.places(0, 21), 1);
    Due.is("p13 one place", x.places(0, 6), 1);
    Due.is("p13 at it", x.put(0, 21), 0);
    numbersAre("p13 one mark", x, 0, 1, 0, 0, 0, 0);
    Due.refused(x, "p13 the same once more", () -> x.put(0, 21), SureNoes.FULL);
    Due.refused(x, "p13 another one", () -> x.put(0, 6), SureNoes.FULL);
    Due.is("p13 taken out", x.take(0, 21), 1);
    Due.is("p13 another one then", x.put(0, 6), 0);
    numbersAre("p13 another mark", x, 0, 2, 0, 0, 0, 0);
  }

  /** 13: "at most 8 MARKS are pushed out so": the eighth finds place 3, which is free. */
  private static void p13EightMarksPushedOut() {
    SureNoes x = Due.withLaws(6, 29, 36, 13);
    x.book(3, 6, 3);
    for (int key : new int[] {30, 28, 28, 1, 16}) {
      Due.holds("p13 put " + key, x.put(0, key) >= 0);
    }
    numbersAre("p13 ahead", x, 0, 2, 6, 7, 0, 2, 7);
    Due.is("p13 eight are pushed out", x.put(0, 20), 0);
    numbersAre("p13 then", x, 0, 2, 6, 3, 7, 2, 7);
    Due.is("p13 none is lost", x.keys(0, 2), 0);
    Due.is("p13 really there", x.keys(0, 3), Due.set(30, 28, 1, 16, 20));
  }

  /** 13: with nine a place would be found, but nine are too many. */
  private static void p13ANinthWouldBe() {
    SureNoes x = Due.withLaws(16, 5, 17, 36);
    x.book(3, 13, 3);
    for (int key : new int[] {6, 19, 3, 14, 19, 27}) {
      Due.holds("p13 put " + key, x.put(0, key) >= 0);
    }
    numbersAre("p13 ahead", x, 0, 6, 1, 0, 7, 6, 0, 0, 2, 7, 0, 0, 0, 0);
    Due.refused(x, "p13 a ninth would be pushed out", () -> x.put(0, 21), SureNoes.FULL);
    numbersAre("p13 as ahead", x, 0, 6, 1, 0, 7, 6, 0, 0, 2, 7, 0, 0, 0, 0);
  }

  /** 13: "if one would be left over, all stays as it was (FULL)", also where pushing has changed marks. */
  private static void p13AllStaysAsItWas() {
    SureNoes x = Due.withLaws(32, 22, 24, 3);
    x.book(3, 3, 3);
    // Key 18: p 0, mark 1, the other place 2; key 9: p 2, mark 7, the other place 0.
    x.put(0, 18);
    x.put(0, 9);
    numbersAre("p13 ahead", x, 0, 1, 0, 7);
    Due.refused(x, "p13 three marks for two places", () -> x.put(0, 18), SureNoes.FULL);
    numbersAre("p13 as ahead", x, 0, 1, 0, 7);
    Due.is("p13 really as ahead", x.real(0, 18), 1);
    Due.is("p13 none is lost", x.keys(0, 2), 0);
  }

  /** 13: "STATE: .. or it is REALLY there 99 times", of each kind that takes keys. */
  private static void p13NinetyNineTimes() {
    for (int kind = 0; kind <= 2; kind++) {
      SureNoes x = Due.withLaws(1, 0);
      x.book(kind, 8, 1);
      for (int i = 0; i < 99; i++) {
        Due.is("p13 put", x.put(0, 31), i == 0 ? 0 : 1);
      }
      Due.refused(x, "p13 kind " + kind + ", once more", () -> x.put(0, 31), SureNoes.STATE);
      Due.is("p13 another key of the same place", x.put(0, 23), 1);
      if (kind == 1) {
        Due.is("p13 taken out once", x.take(0, 31), 1);
        Due.is("p13 then it may", x.put(0, 31), 1);
        Due.is("p13 99 times again", x.put(0, 31), SureNoes.STATE);
      }
    }
  }

  /** 13: STATE is told ahead of FULL: 99 times there really, and no place for it. */
  private static void p13StateAheadOfFull() {
    SureNoes x = Due.withLaws(1, 0, 2, 5);
    x.book(3, 8, 3);
    // Keys 8 and 16 have like places and marks: what 8 puts, 16 takes out, and 8 stays there really.
    for (int i = 0; i < 99; i++) {
      Due.is("p13 put", x.put(0, 8), 0);
      Due.is("p13 take", x.take(0, 16), 0);
    }
    Due.is("p13 99 times", x.real(0, 8), 99);
    Due.refused(x, "p13 with free places", () -> x.put(0, 8), SureNoes.STATE);
    x.put(0, 16);
    x.put(0, 16);
    Due.refused(x, "p13 without free places", () -> x.put(0, 8), SureNoes.STATE);
    Due.refused(x, "p13 the other key", () -> x.put(0, 16), SureNoes.FULL);
  }

  /** 13: "STATE: a FOLDED, a LAYERED", empty or built, for keys that are in or not. */
  private static void p13FoldedAndLayered() {
    SureNoes x = sixBooks(12);
    for (int book = 4; book <= 5; book++) {
      int of = book;
      Due.refused(x, "p13 empty", () -> x.put(of, 0), SureNoes.STATE);
      x.build(book, Due.set(0, 31), 0);
      Due.refused(x, "p13 a key that is in", () -> x.put(of, 0), SureNoes.STATE);
      Due.refused(x, "p13 another key", () -> x.put(of, 2), SureNoes.STATE);
    }
  }

  /** 13: "UNKNOWN: book, key", ahead of STATE. */
  private static void p13Unknown() {
    SureNoes x = sixBooks(12);
    for (int kind = 0; kind <= 5; kind++) {
      int of = kind;
      for (int key : NO_KEYS) {
        Due.refused(x, "p13 kind " + kind + ", key " + key, () -> x.put(of, key), SureNoes.UNKNOWN);
      }
    }
    for (int book : new int[] {-1, 6, 8, Integer.MIN_VALUE, Integer.MAX_VALUE}) {
      Due.refused(x, "p13 book " + book, () -> x.put(book, 0), SureNoes.UNKNOWN);
    }
  }

  /** 14: "each number becomes 1 less": to 0, at the first and at the last place, and no further. */
  private static void p14CountedDownTo0() {
    SureNoes x = Due.withLaws(1, 0, 1, 31);
    x.book(1, 32, 3);
    // Key 0 has the places 0 and 31.
    x.put(0, 0);
    x.put(0, 0);
    Due.is("p14 take", x.take(0, 0), 1);
    Due.is("p14 one less at place 0", x.at(0, 0), 1);
    Due.is("p14 one less at place 31", x.at(0, 31), 1);
    Due.is("p14 take the last one", x.take(0, 0), 1);
    Due.is("p14 none at place 0", x.at(0, 0), 0);
    Due.is("p14 none at place 31", x.at(0, 31), 0);
    Due.refused(x, "p14 take once more", () -> x.take(0, 0), SureNoes.STATE);
    Due.is("p14 no number is left", x.about(0, 3), 0);
  }

  /** 14: "but for those that are 7": six goes down, seven stays, side by side. */
  private static void p14ButForThoseThatAre7() {
    SureNoes x = Due.withLaws(1, 0, 2, 5);
    x.book(1, 8, 3);
    // Key 20 has the places 4 and 0, key 4 has 4 and 5.
    for (int i = 0; i < 6; i++) {
      x.put(0, 20);
    }
    x.put(0, 4);
    numbersAre("p14 ahead", x, 0, 6, 0, 0, 0, 7, 1, 0, 0);
    Due.is("p14 take", x.take(0, 4), 1);
    numbersAre("p14 a 7 stays, a 1 goes", x, 0, 6, 0, 0, 0, 7, 0, 0, 0);
    Due.refused(x, "p14 it is in no more", () -> x.take(0, 4), SureNoes.STATE);
    Due.is("p14 take", x.take(0, 20), 1);
    numbersAre("p14 a 6 goes down", x, 0, 5, 0, 0, 0, 7, 0, 0, 0);
    for (int i = 0; i < 5; i++) {
      Due.is("p14 take", x.take(0, 20), 1);
    }
    numbersAre("p14 at last", x, 0, 0, 0, 0, 0, 7, 0, 0, 0);
    Due.is("p14 taken out as often as put", x.real(0, 20), 0);
  }

  /** 14: "1 if it was REALLY there, 0 if not (it is taken out all the same)". */
  private static void p14NotReallyThere() {
    SureNoes x = Due.withLaws(1, 0);
    x.book(1, 8, 1);
    x.put(0, 3);
    x.put(0, 3);
    Due.is("p14 another key of that place", x.take(0, 11), 0);
    Due.is("p14 taken out all the same", x.at(0, 3), 1);
    Due.is("p14 not below 0", x.real(0, 11), 0);
    Due.is("p14 really twice still", x.real(0, 3), 2);
    Due.is("p14 take", x.take(0, 3), 1);
    Due.refused(x, "p14 really there, but not in", () -> x.take(0, 3), SureNoes.STATE);
    Due.is("p14 lost", x.keys(0, 2), Due.set(3));
    Due.is("p14 really once", x.real(0, 3), 1);
  }

  /** 14: "f goes from p, if it is there, else from the OTHER one". */
  private static void p14PushedFromPElseFromTheOther() {
    SureNoes x = Due.withLaws(1, 0, 2, 5);
    x.book(3, 8, 3);
    x.put(0, 8);
    x.put(0, 16);
    numbersAre("p14 both", x, 0, 1, 0, 0, 0, 0, 1, 0, 0);
    Due.is("p14 from p", x.take(0, 16), 1);
    numbersAre("p14 from p", x, 0, 0, 0, 0, 0, 0, 1, 0, 0);
    Due.is("p14 from the other one", x.take(0, 8), 1);
    numbersAre("p14 from the other one", x, 0, 0, 0, 0, 0, 0, 0, 0, 0);
    // Key 0: p 0, mark 6, the other place 6; with 8's mark at p, its own one lies at the other place.
    x.put(0, 8);
    x.put(0, 0);
    numbersAre("p14 another mark at p", x, 0, 1, 0, 0, 0, 0, 0, 6, 0);
    Due.is("p14 the mark at p is another one's", x.take(0, 0), 1);
    numbersAre("p14 that one stays", x, 0, 1, 0, 0, 0, 0, 0, 0, 0);
    Due.is("p14 falsely in, from p", x.take(0, 16), 0);
    numbersAre("p14 empty", x, 0, 0, 0, 0, 0, 0, 0, 0, 0);
    Due.is("p14 lost", x.keys(0, 2), Due.set(8));
  }

  /** 14: "STATE: .. or the KEY is not IN": empty books, and one number of two that is 0. */
  private static void p14NotIn() {
    SureNoes x = Due.withLaws(1, 0, 2, 5);
    x.book(1, 8, 3);
    x.book(3, 8, 3);
    for (int key = 0; key < 32; key++) {
      int of = key;
      Due.refused(x, "p14 an empty counted", () -> x.take(0, of), SureNoes.STATE);
      Due.refused(x, "p14 an empty pushed", () -> x.take(1, of), SureNoes.STATE);
    }
    x.put(0, 20);
    Due.refused(x, "p14 one number is above 0, one is 0", () -> x.take(0, 4), SureNoes.STATE);
    x.put(1, 0);
    Due.refused(x, "p14 another mark is at p", () -> x.take(1, 8), SureNoes.STATE);
  }

  /** 14: "STATE: it is neither COUNTED nor PUSHED", though the key is in. */
  private static void p14OtherKinds() {
    SureNoes x = sixBooks(12);
    x.put(0, 1);
    x.put(2, 1);
    x.build(4, 2, 0);
    x.build(5, 2, 0);
    for (int book : new int[] {0, 2, 4, 5}) {
      Due.is("p14 it is in", x.keys(book, 0) & 2, 2);
      Due.refused(x, "p14 kind " + book, () -> x.take(book, 1), SureNoes.STATE);
      Due.refused(x, "p14 kind " + book + ", not in", () -> x.take(book, 3), SureNoes.STATE);
    }
  }

  /** 14: "UNKNOWN: book, key", ahead of STATE. */
  private static void p14Unknown() {
    SureNoes x = sixBooks(12);
    for (int kind = 0; kind <= 5; kind++) {
      int of = kind;
      for (int key : NO_KEYS) {
        Due.refused(x, "p14 kind " + kind + ", key " + key, () -> x.take(of, key), SureNoes.UNKNOWN);
      }
    }
    for (int book : new int[] {-1, 6, 8, Integer.MIN_VALUE, Integer.MAX_VALUE}) {
      Due.refused(x, "p14 book " + book, () -> x.take(book, 0), SureNoes.UNKNOWN);
    }
  }

  /** 15: a FOLDED over no key, over each key alone, over all. */
  private static void p15FoldedOverNoneOneAndAll() {
    for (int m : new int[] {3, 12, 32}) {
      SureNoes x = Due.withLaws(1, 0, 5, 3, 11, 30);
      x.book(4, m, 7);
      for (int key = 0; key < 32; key++) {
        Due.is("p15 one key", x.build(0, 1L << key, 0), 1);
        Due.is("p15 really there", x.keys(0, 3), 1L << key);
        Due.is("p15 in", x.keys(0, 0) >> key & 1, 1);
        Due.is("p15 one number", x.about(0, 3), 1);
        Due.is("p15 the mark at the least place", x.at(0, Long.numberOfTrailingZeros(x.places(0, key))),
            key % 7 + 1);
      }
      Due.refused(x, "p15 all keys", () -> x.build(0, ALL, 0), SureNoes.STATE);
      Due.is("p15 none", x.build(0, 0, 0), 0);
      Due.is("p15 no number", x.about(0, 3), 0);
      Due.is("p15 none is in, no mark is 0", x.keys(0, 0), 0);
    }
  }

  /** 15: "of all PLACES which just one of the KEYS left has, the least"; "KEYS taken away last come first". */
  private static void p15FoldedLeastPlaceAndLastFirst() {
    SureNoes x = Due.withLaws(1, 0, 5, 3, 11, 30);
    x.book(4, 12, 7);
    // Key 0: places 0, 7, 10, mark 1; key 4: places 0, 7, 8, mark 5. First 4 goes with 8, then 0 with 0:
    // 1 at place 0, then 5 and 1 put together at 8.
    Due.is("p15 build", x.build(0, Due.set(0, 4), 0), 2);
    numbersAre("p15 keys 0 and 4", x, 0, 1, 0, 0, 0, 0, 0, 0, 0, 4, 0, 0, 0);
    Due.is("p15 both are in", x.keys(0, 0) & Due.set(0, 4), Due.set(0, 4));
  }

  /** 15: "numbers 0 to 7": marks 1 and 7 at their places. */
  private static void p15FoldedFullMarks() {
    SureNoes x = Due.withLaws(1, 0, 5, 3, 11, 30);
    x.book(4, 3, 7);
    x.build(0, Due.set(6), 0);
    numbersAre("p15 the greatest mark", x, 0, 7, 0, 0);
    Due.is("p15 all keys of that mark", x.keys(0, 0), Due.set(6, 13, 20, 27));
    x.build(0, Due.set(0), 0);
    numbersAre("p15 the least mark", x, 0, 1, 0, 0);
    Due.is("p15 all keys of that mark", x.keys(0, 0), Due.set(0, 7, 14, 21, 28));
    Due.refused(x, "p15 two keys of three like places", () -> x.build(0, Due.set(0, 7), 0), SureNoes.STATE);
  }

  /** 15: "as long as there are such": no rows over no set, one row without any to be left out. */
  private static void p15LayeredOverNoneAndAll() {
    SureNoes x = Due.withLaws(1, 0, 2, 5);
    x.book(5, 2, 3);
    x.book(5, 32, 3);
    for (int book = 0; book < 2; book++) {
      Due.is("p15 over none", x.build(book, 0, 0), 0);
      Due.is("p15 no rows", x.about(book, 5), 0);
      Due.is("p15 over none, all to be left out", x.build(book, 0, ALL), 0);
      Due.is("p15 no rows", x.about(book, 5), 0);
      Due.is("p15 none is in", x.keys(book, 0), 0);
      Due.is("p15 over all", x.build(book, ALL, 0), 32);
      Due.is("p15 one row", x.about(book, 5), 1);
      Due.is("p15 all are in", x.keys(book, 0), ALL);
    }
    Due.is("p15 the last key against all others", x.build(1, 1L << 31, ALL >> 1), 1);
    Due.is("p15 one row", x.about(1, 5), 1);
    Due.is("p15 it alone is in", x.keys(1, 0), 1L << 31);
  }

  /** 15: "ROWS (6 at most)"; "IN: with i the first ROW that has its PLACE not (how many .., if all have it)". */
  private static void p15LayeredSixRows() {
    SureNoes x = Due.withLaws(16, 34, 28, 24, 27, 8);
    x.book(5, 6, 7);
    long out = Due.set(0, 9, 22, 27, 28);
    Due.is("p15 build", x.build(0, Due.set(10, 12, 14, 20), out), 4);
    Due.is("p15 six rows", x.about(0, 5), 6);
    // How many rows each key has in a line, from the first; of 27 it is all six, which is even.
    int[] rows = {2, 0, 0, 0, 1, 1, 0, 0, 0, 2, 1, 0, 5, 0, 3, 3, 0, 1, 0, 0, 3, 1, 4, 0, 0, 2, 2, 6, 0, 0, 1, 1};
    for (int key = 0; key < 32; key++) {
      Due.is("p15 key " + key + " with " + rows[key] + " rows", x.keys(0, 0) >> key & 1, rows[key] % 2);
    }
    Due.is("p15 none is lost", x.keys(0, 2), 0);
    Due.is("p15 false, but none of those to be left out", x.keys(0, 1), Due.set(4, 5, 15, 17, 21, 30, 31));
    numbersAre("p15 numbers stay 0", x, 0, 0, 0, 0, 0, 0, 0);
  }

  /** 15: "if six are not enough, it cannot be": here a seventh would do, there no row ever does. */
  private static void p15LayeredSixAreNotEnough() {
    SureNoes x = Due.withLaws(17, 14, 12, 13, 12, 18);
    x.book(5, 9, 7);
    x.build(0, 3, 4);
    Due.refused(x, "p15 a seventh", () -> x.build(0, 448039443L, 1091126572L), SureNoes.STATE);
    SureNoes y = Due.withLaws(1, 0);
    y.book(5, 2, 1);
    Due.is("p15 even ones without odd ones", y.build(0, 0x55555555L, 0xAAAAAAAAL), 16);
    Due.refused(y, "p15 two keys of one place", () -> y.build(0, 1, 4), SureNoes.STATE);
    Due.is("p15 as ahead", y.keys(0, 0), 0x55555555L);
  }

  /** 15: "row i by one LAW, the rest of i by how many LAWS there are". */
  private static void p15LayeredLawsInTurn() {
    SureNoes x = Due.withLaws(1, 0, 2, 5);
    x.book(5, 10, 3);
    // Key 21 has place 1 of row 0; by the second law 47 is 10, so place 0; 16 makes 37, which is 0, too:
    // row 2 by the first law again has the place 6 of 16.
    Due.is("p15 build", x.build(0, Due.set(1, 16), Due.set(21)), 2);
    Due.is("p15 row 0", x.row(0, 0), 1 << 1 | 1 << 6);
    Due.is("p15 row 1", x.row(0, 1), 1);
    Due.is("p15 row 2", x.row(0, 2), 1 << 6);
    Due.is("p15 three rows", x.about(0, 5), 3);
  }

  /** 15: "what was is gone": numbers, rows, keys; also where the new set is empty. */
  private static void p15WhatWasIsGone() {
    SureNoes x = sixBooks(12);
    SureNoes y = sixBooks(12);
    x.build(4, Due.set(1, 7, 14, 19, 25, 31), 0);
    x.build(5, 255, 65280);
    x.build(4, Due.set(4), 0);
    x.build(5, 3, 4);
    y.build(4, Due.set(4), 0);
    y.build(5, 3, 4);
    Due.is("p15 as if it had never been", x.digest(), y.digest());
    x.build(4, 0, 0);
    x.build(5, 0, 4);
    Due.is("p15 empty again", x.digest(), sixBooks(12).digest());
    x.build(4, 1, 0);
    x.build(4, 1, 0);
    Due.is("p15 twice the same is once there", x.real(4, 0), 1);
  }

  /** 15: "UNKNOWN: book; OUTSIDE: set, out (some KEY in both, or of a FOLDED not 0); STATE: another KIND". */
  private static void p15Refusals() {
    SureNoes x = sixBooks(12);
    x.build(4, 2, 0);
    x.build(5, 2, 4);
    for (int book : new int[] {-1, 6, 8, Integer.MIN_VALUE, Integer.MAX_VALUE}) {
      Due.refused(x, "p15 book " + book, () -> x.build(book, 1, 0), SureNoes.UNKNOWN);
      Due.refused(x, "p15 book " + book + ", set -1", () -> x.build(book, -1, 0), SureNoes.UNKNOWN);
    }
    for (int kind = 0; kind <= 5; kind++) {
      int of = kind;
      for (long set : NO_SETS) {
        Due.refused(x, "p15 kind " + kind + ", set " + set, () -> x.build(of, set, 0), SureNoes.OUTSIDE);
        Due.refused(x, "p15 kind " + kind + ", out " + set, () -> x.build(of, 0, set), SureNoes.OUTSIDE);
      }
      Due.refused(x, "p15 the first key in both", () -> x.build(of, 1, 3), SureNoes.OUTSIDE);
      Due.refused(x, "p15 the last key in both", () -> x.build(of, ALL, 1L << 31), SureNoes.OUTSIDE);
      if (kind < 4) {
        Due.refused(x, "p15 kind " + kind, () -> x.build(of, 1, 0), SureNoes.STATE);
        Due.refused(x, "p15 kind " + kind + ", out", () -> x.build(of, 1, 2), SureNoes.STATE);
        Due.refused(x, "p15 kind " + kind + ", none", () -> x.build(of, 0, 0), SureNoes.STATE);
      }
    }
    Due.refused(x, "p15 a folded, out", () -> x.build(4, 1, 2), SureNoes.OUTSIDE);
    Due.refused(x, "p15 a folded, out alone", () -> x.build(4, 0, 1L << 31), SureNoes.OUTSIDE);
    Due.refused(x, "p15 a folded that cannot be, out", () -> x.build(4, ALL - 1, 1), SureNoes.OUTSIDE);
  }
}
