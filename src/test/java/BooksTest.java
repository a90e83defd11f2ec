/** Promises 7 to 12 and 16: book, as, about, at, row, places, real. */
public final class BooksTest {
  public static void main(String[] args) {
    book();
    bookLawsByKind();
    as();
    about();
    at();
    row();
    places();
    real();
    Due.end();
  }

  /** An object with three laws and a book of each kind, numbered like its kind. */
  private static SureNoes sixBooks() {
    SureNoes x = new SureNoes();
    x.law(1, 0);
    x.law(2, 5);
    x.law(3, 9);
    x.book(0, 8, 1);
    x.book(1, 8, 3);
    x.book(2, 11, 7);
    x.book(3, 8, 3);
    x.book(4, 12, 7);
    x.book(5, 10, 7);
    return x;
  }

  private static void book() {
    SureNoes x = new SureNoes();
    Due.is("book without laws", x.book(0, 8, 1), SureNoes.UNKNOWN);
    x.law(1, 0);
    x.law(2, 5);
    x.law(3, 9);
    x.law(4, 1);
    Due.is("book kind -1", x.book(-1, 8, 1), SureNoes.OUTSIDE);
    Due.is("book kind 6", x.book(6, 8, 1), SureNoes.OUTSIDE);
    Due.is("book m 1", x.book(0, 1, 1), SureNoes.OUTSIDE);
    Due.is("book m 33", x.book(0, 33, 1), SureNoes.OUTSIDE);
    Due.is("folded m 2", x.book(4, 2, 7), SureNoes.OUTSIDE);
    Due.is("outside ahead of unknown", x.book(0, 1, 0), SureNoes.OUTSIDE);
    Due.is("refused books are not kept", x.count(1), 0);
    Due.is("book m 2", x.book(0, 2, 1), 0);
    Due.is("book m 32", x.book(1, 32, 8), 1);
    Due.is("folded m 3", x.book(4, 3, 7), 2);
    for (int i = 3; i < 8; i++) {
      Due.is("book", x.book(0, 5, 1), i);
    }
    Due.is("book too many", x.book(0, 5, 1), SureNoes.FULL);
    Due.is("unknown ahead of full", x.book(0, 5, 0), SureNoes.UNKNOWN);
    Due.is("outside ahead of full", x.book(9, 5, 1), SureNoes.OUTSIDE);
  }

  private static void bookLawsByKind() {
    int[] none = {0, 16, -1, Integer.MIN_VALUE, 15, 1 << 30, 17};
    int[][] good = {{1, 3, 7}, {8, 12, 14}, {2, 5, 11}, {3, 10}, {7, 14}, {1, 9, 13}};
    int[][] bad = {{}, {}, {}, {1, 8, 7}, {1, 3, 12}, {}};
    for (int kind = 0; kind <= 5; kind++) {
      SureNoes x = new SureNoes();
      for (int i = 0; i < 4; i++) {
        x.law(i + 1, i);
      }
      for (int laws : none) {
        Due.is("kind " + kind + " of laws " + laws, x.book(kind, 8, laws), SureNoes.UNKNOWN);
      }
      for (int laws : bad[kind]) {
        Due.is("kind " + kind + " of laws " + laws, x.book(kind, 8, laws), SureNoes.UNKNOWN);
      }
      for (int i = 0; i < good[kind].length; i++) {
        Due.is("kind " + kind + " of laws " + good[kind][i], x.book(kind, 8, good[kind][i]), i);
      }
    }
  }

  private static void as() {
    SureNoes x = sixBooks();
    boolean[][] is = {
      {true, false, false, false, false, false},
      {true, true, false, false, false, false},
      {true, false, true, false, false, false},
      {false, false, false, true, false, false},
      {true, false, true, false, true, false},
      {true, false, false, false, false, true}};
    for (int book = 0; book < 6; book++) {
      for (int kind = 0; kind < 6; kind++) {
        Due.is("as(" + book + ", " + kind + ")", x.as(book, kind), is[book][kind] ? book : SureNoes.NONE);
      }
    }
    Due.is("as book 6", x.as(6, 0), SureNoes.UNKNOWN);
    Due.is("as book -1", x.as(-1, 0), SureNoes.UNKNOWN);
    Due.is("as kind 6", x.as(0, 6), SureNoes.OUTSIDE);
    Due.is("as kind -1", x.as(0, -1), SureNoes.OUTSIDE);
    Due.is("as unknown ahead of outside", x.as(6, 6), SureNoes.UNKNOWN);
  }

  private static void about() {
    SureNoes x = sixBooks();
    int[][] due = {{0, 8, 1, 0, 0, 0}, {1, 8, 3, 0, 0, 0}, {2, 11, 7, 0, 0, 0}, {3, 8, 3, 0, 0, 0},
        {4, 12, 7, 0, 0, 0}, {5, 10, 7, 0, 0, 0}};
    for (int book = 0; book < 6; book++) {
      for (int what = 0; what < 6; what++) {
        Due.is("about(" + book + ", " + what + ")", x.about(book, what), due[book][what]);
      }
    }
    x.put(0, 3);
    x.put(0, 3);
    x.put(0, 11);
    Due.is("about numbers", x.about(0, 3), 1);
    Due.is("about keys, each but once", x.about(0, 4), 2);
    x.build(5, Due.set(0, 1), Due.set(21));
    Due.is("about rows", x.about(5, 5), 2);
    Due.is("about numbers of a layered", x.about(5, 3), 0);
    Due.is("about keys of a layered", x.about(5, 4), 2);
    Due.is("about book 6", x.about(6, 0), SureNoes.UNKNOWN);
    Due.is("about book -1", x.about(-1, 0), SureNoes.UNKNOWN);
    Due.is("about what 6", x.about(0, 6), SureNoes.OUTSIDE);
    Due.is("about what -1", x.about(0, -1), SureNoes.OUTSIDE);
    Due.is("about unknown ahead of outside", x.about(6, 6), SureNoes.UNKNOWN);
  }

  private static void at() {
    SureNoes x = sixBooks();
    x.put(0, 31);
    Due.is("at the last place", x.at(0, 7), 1);
    Due.is("at another place", x.at(0, 0), 0);
    Due.is("at place 8 of 8", x.at(0, 8), SureNoes.UNKNOWN);
    Due.is("at place -1", x.at(0, -1), SureNoes.UNKNOWN);
    Due.is("at book 6", x.at(6, 0), SureNoes.UNKNOWN);
    Due.is("at book -1", x.at(-1, 0), SureNoes.UNKNOWN);
  }

  private static void row() {
    SureNoes x = sixBooks();
    Due.is("row of a layered not yet built", x.row(5, 0), SureNoes.UNKNOWN);
    // Row 0 by the first law: 0 and 1; key 21 has place 1, so row 1 by the second law: 10, place 0.
    x.build(5, Due.set(0, 1), Due.set(21));
    Due.is("row 0", x.row(5, 0), 3);
    Due.is("row 1", x.row(5, 1), 1);
    Due.is("row 2 is told no more", x.row(5, 2), SureNoes.UNKNOWN);
    Due.is("row -1", x.row(5, -1), SureNoes.UNKNOWN);
    Due.is("row of book 6", x.row(6, 0), SureNoes.UNKNOWN);
    for (int book = 0; book < 5; book++) {
      Due.is("row of another kind", x.row(book, 0), SureNoes.UNKNOWN);
    }
  }

  private static void places() {
    SureNoes x = sixBooks();
    Due.is("places in a plain", x.places(0, 20), 1 << 4);
    // Values of 3: 3 and 11, so one place of 8 by both laws.
    Due.is("places in a counted, each but once", x.places(1, 3), 1 << 3);
    Due.is("places in a counted", x.places(1, 4), 1 << 4 | 1 << 5);
    // Values of 7: 7, 19, 30; three places by each law.
    Due.is("places in a parted", x.places(2, 7), 1 << 1 | 1 << 4 | 1 << 6);
    // Value 3 by the first law; by the second 11, so the mark is 5, and 25 less 3 is 22.
    Due.is("places in a pushed", x.places(3, 3), 1 << 3 | 1 << 6);
    // Value 31 by the first law, place 7; by the second 30, mark 3: 15 less 7 is 8.
    Due.is("places in a pushed, the rest by M", x.places(3, 31), 1 << 7 | 1 << 0);
    // Values of 9: 9, 23, 36; four places by each law.
    Due.is("places in a folded", x.places(4, 9), 1 << 1 | 1 << 7 | 1 << 8);
    Due.is("places in a layered", x.places(5, 9), 1 << 9 | 1 << 3 | 1 << 6);
    x.book(2, 2, 7);
    Due.is("places in a parted of fewer places than laws", x.places(6, 9), 3);
    x.law(1, 16);
    // Value 31 of key 15 by the second law, mark 4: 20 less 15 is 5; value 20 of key 4, mark 7: 35 less 4 is 31.
    x.book(3, 32, 9);
    Due.is("places in a pushed of 32", x.places(7, 15), 1L << 15 | 1L << 5);
    Due.is("places in a pushed of 32, the last one", x.places(7, 4), 1L << 4 | 1L << 31);
    // Value 36 of key 20, mark 2: 10 less 20 is below 0.
    Due.is("places in a pushed of 32, below 0", x.places(7, 20), 1L << 20 | 1L << 22);
    Due.is("places key 32", x.places(0, 32), SureNoes.UNKNOWN);
    Due.is("places key -1", x.places(0, -1), SureNoes.UNKNOWN);
    Due.is("places book 8", x.places(8, 0), SureNoes.UNKNOWN);
    Due.is("places book -1", x.places(-1, 0), SureNoes.UNKNOWN);
  }

  private static void real() {
    SureNoes x = sixBooks();
    x.put(1, 3);
    x.put(1, 3);
    x.put(1, 11);
    Due.is("real twice", x.real(1, 3), 2);
    Due.is("real once", x.real(1, 11), 1);
    Due.is("real in another book", x.real(0, 3), 0);
    x.take(1, 3);
    Due.is("real once less", x.real(1, 3), 1);
    // Key 19 has the places 3 and 3 of 8, too: it is in falsely, and taken out all the same.
    x.take(1, 19);
    Due.is("real never below 0", x.real(1, 19), 0);
    Due.is("real key 32", x.real(1, 32), SureNoes.UNKNOWN);
    Due.is("real key -1", x.real(1, -1), SureNoes.UNKNOWN);
    Due.is("real book 6", x.real(6, 0), SureNoes.UNKNOWN);
  }
}
