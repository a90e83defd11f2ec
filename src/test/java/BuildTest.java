/** Promise 15, and 17 for what was built: build, keys. */
public final class BuildTest {
  private static final long ALL = 0xFFFFFFFFL;

  public static void main(String[] args) {
    folded();
    foldedOfOneKey();
    layered();
    layeredWithSixRows();
    layeredOfSevenRows();
    layeredThatCannotBe();
    refused();
    Due.end();
  }

  private static void folded() {
    SureNoes x = new SureNoes();
    x.law(1, 0);
    x.law(5, 3);
    x.law(11, 30);
    x.book(4, 12, 7);
    Due.is("none is in ahead", x.keys(0, 0), 0);
    long set = Due.set(1, 7, 14, 19, 25, 31);
    Due.is("build", x.build(0, set, 0), 6);
    Due.is("none is lost", x.keys(0, 2), 0);
    Due.is("really there", x.keys(0, 3), set);
    for (int key : new int[] {1, 7, 14, 19, 25, 31}) {
      int together = 0;
      for (int place = 0; place < 12; place++) {
        if ((x.places(0, key) >> place & 1) == 1) {
          together ^= x.at(0, place);
        }
      }
      Due.is("three places tell the mark of " + key, together, x.value(0, key) % 7 + 1);
    }
    long before = x.digest();
    Due.is("build what cannot be", x.build(0, ALL, 0), SureNoes.STATE);
    Due.is("all stays as it was", x.digest(), before);
    Due.is("build anew", x.build(0, Due.set(2), 0), 1);
    Due.is("what was is gone", x.keys(0, 3), Due.set(2));
    Due.is("one number alone", x.about(0, 3), 1);
    Due.is("really once", x.real(0, 2), 1);
    Due.is("really no more", x.real(0, 1), 0);
    Due.is("build over none", x.build(0, 0, 0), 0);
    Due.is("no number is left", x.about(0, 3), 0);
    Due.is("none is in", x.keys(0, 0), 0);
  }

  private static void foldedOfOneKey() {
    SureNoes x = new SureNoes();
    x.law(1, 0);
    x.law(5, 3);
    x.law(11, 30);
    x.book(4, 12, 7);
    // Key 6: values 6, 33, 22, so places 2, 5, 10; its mark is 7; the least place is taken.
    x.build(0, Due.set(6), 0);
    Due.is("at the least place", x.at(0, 2), 7);
    Due.is("at the second", x.at(0, 5), 0);
    Due.is("at the third", x.at(0, 10), 0);
    // Key 2: values 2, 13, 15, places 2, 5, 11, mark 3. Place 10 is the least of one key alone (6's),
    // then 2 is key 2's: it comes first with 3 at place 2, then 6 with 7 and 3 put together at 10.
    x.build(0, Due.set(2, 6), 0);
    Due.is("at the place of the last one", x.at(0, 2), 3);
    Due.is("at the place of the first one", x.at(0, 10), 4);
    Due.is("nowhere else", x.about(0, 3), 2);
    x.build(0, Due.set(4), 0);
    Due.is("at the first place", x.at(0, 0), 5);
    x.build(0, Due.set(6), 0);
    Due.is("at the first place no more", x.at(0, 0), 0);
    x.book(4, 3, 7);
    Due.is("two keys in three places", x.build(1, 6, 0), SureNoes.STATE);
    Due.is("one key in three places", x.build(1, 4, 0), 1);
  }

  private static void layered() {
    SureNoes x = new SureNoes();
    x.law(1, 0);
    x.law(2, 5);
    x.book(5, 10, 3);
    Due.is("build with none in the way", x.build(0, Due.set(0, 1), Due.set(5)), 2);
    Due.is("one row", x.about(0, 5), 1);
    Due.is("in", x.keys(0, 0), Due.set(0, 1, 10, 11, 20, 21, 30, 31));
    Due.is("false", x.keys(0, 1), Due.set(10, 11, 20, 21, 30, 31));
    // 21 lies in row 0 by place 1; by the second law its value is 10, so row 1 has place 0; of 1 and 16
    // the second law makes 7 and 37, which is 0: row 2, by the first law again, has the place of 16.
    Due.is("build with one to be left out", x.build(0, Due.set(1, 16), Due.set(21)), 2);
    Due.is("rows", x.about(0, 5), 3);
    Due.is("row 0", x.row(0, 0), 1 << 1 | 1 << 6);
    Due.is("row 1", x.row(0, 1), 1);
    Due.is("row 2", x.row(0, 2), 1 << 6);
    Due.is("row 3", x.row(0, 3), SureNoes.UNKNOWN);
    // Of the others by 1 and by 6 only 31 has place 0 in row 1, and no place in row 2.
    Due.is("in, but for those in row 1 alone", x.keys(0, 0), Due.set(1, 11, 6, 16, 26));
    // 0 and 10 have like places by both laws.
    Due.is("build what cannot be", x.build(0, Due.set(0, 1), Due.set(10)), SureNoes.STATE);
    Due.is("build over none", x.build(0, 0, ALL), 0);
    Due.is("no rows", x.about(0, 5), 0);
    Due.is("none is in", x.keys(0, 0), 0);
    Due.is("build over all", x.build(0, ALL, 0), 32);
    Due.is("all are in", x.keys(0, 0), ALL);
  }

  private static void layeredWithSixRows() {
    SureNoes x = new SureNoes();
    x.law(18, 34);
    x.law(7, 9);
    x.law(29, 15);
    x.book(5, 8, 7);
    long set = 3018483368L;
    long out = 1275367489L;
    Due.is("build", x.build(0, set, out), Long.bitCount(set));
    Due.is("six rows", x.about(0, 5), 6);
    Due.is("none is lost", x.keys(0, 2), 0);
    Due.is("none to be left out is in", x.keys(0, 0) & out, 0);
    Due.is("a last row", x.row(0, 5), 48);
    for (int place = 0; place < 8; place++) {
      Due.is("numbers stay 0", x.at(0, place), 0);
    }
  }

  private static void layeredOfSevenRows() {
    SureNoes x = new SureNoes();
    x.law(17, 14);
    x.law(12, 13);
    x.law(12, 18);
    x.book(5, 9, 7);
    Due.is("a seventh row would be needed", x.build(0, 448039443L, 1091126572L), SureNoes.STATE);
    Due.is("no rows", x.about(0, 5), 0);
    Due.is("none is really there", x.keys(0, 3), 0);
  }

  private static void layeredThatCannotBe() {
    SureNoes x = new SureNoes();
    x.law(1, 0);
    x.book(5, 2, 1);
    // Keys 0 and 2 have the same place in every row.
    x.build(0, 1, 2);
    long before = x.digest();
    Due.is("build what cannot be", x.build(0, 1, 4), SureNoes.STATE);
    Due.is("all stays as it was", x.digest(), before);
  }

  private static void refused() {
    SureNoes x = new SureNoes();
    x.law(1, 0);
    x.law(5, 3);
    x.law(11, 30);
    x.book(4, 12, 7);
    x.book(5, 12, 7);
    for (int book = 0; book < 2; book++) {
      Due.is("set -1", x.build(book, -1, 0), SureNoes.OUTSIDE);
      Due.is("set 2^32", x.build(book, ALL + 1, 0), SureNoes.OUTSIDE);
      Due.is("out -1", x.build(book, 0, -1), SureNoes.OUTSIDE);
      Due.is("out 2^32", x.build(book, 0, ALL + 1), SureNoes.OUTSIDE);
      Due.is("a key in both", x.build(book, 3, 2), SureNoes.OUTSIDE);
    }
    Due.is("a folded with some to be left out", x.build(0, 1, 2), SureNoes.OUTSIDE);
    Due.is("book 2", x.build(2, -1, 0), SureNoes.UNKNOWN);
    Due.is("book -1", x.build(-1, 1, 0), SureNoes.UNKNOWN);
    for (int kind = 0; kind < 4; kind++) {
      int book = x.book(kind, 12, 3);
      Due.is("another kind", x.build(book, 1, 0), SureNoes.STATE);
      Due.is("another kind with out", x.build(book, 1, 2), SureNoes.STATE);
      Due.is("outside ahead of another kind", x.build(book, 1, 1), SureNoes.OUTSIDE);
    }
  }
}
