/** Promises 13 and 14: put, take. */
public final class PutTakeTest {
  public static void main(String[] args) {
    plain();
    counted();
    parted();
    pushed();
    eightPushedOut();
    nineAreTooMany();
    timesEnd();
    putRefused();
    takeRefused();
    Due.end();
  }

  private static SureNoes withLaws(int... laws) {
    SureNoes x = new SureNoes();
    for (int i = 0; i + 1 < laws.length; i += 2) {
      x.law(laws[i], laws[i + 1]);
    }
    return x;
  }

  private static void plain() {
    SureNoes x = withLaws(1, 0);
    x.book(0, 8, 1);
    Due.is("put a first key", x.put(0, 3), 0);
    Due.is("put one that is in falsely", x.put(0, 11), 1);
    Due.is("the number stays 1", x.at(0, 3), 1);
    Due.is("it is really there", x.real(0, 11), 1);
  }

  private static void counted() {
    SureNoes x = withLaws(1, 0, 2, 5);
    x.book(1, 8, 3);
    // Both laws lead 3 to place 3: it counts but once.
    Due.is("put", x.put(0, 3), 0);
    Due.is("one more at a place of both laws", x.at(0, 3), 1);
    for (int i = 0; i < 8; i++) {
      x.put(0, 4);
    }
    Due.is("7 at most", x.at(0, 4), 7);
    Due.is("7 at most at the other place, too", x.at(0, 5), 7);
    Due.is("real goes on", x.real(0, 4), 8);
    Due.is("take from 7", x.take(0, 4), 1);
    Due.is("a 7 stays", x.at(0, 4), 7);
    Due.is("real is less", x.real(0, 4), 7);
    Due.is("take", x.take(0, 3), 1);
    Due.is("one less", x.at(0, 3), 0);
    Due.is("take what is not in", x.take(0, 3), SureNoes.STATE);
    // 12 has the places 4 and 5 of 8 as well.
    Due.is("take what is in falsely", x.take(0, 12), 0);
    Due.is("real stays 0", x.real(0, 12), 0);
    x.put(0, 11);
    Due.is("take another's number", x.take(0, 3), 0);
    Due.is("so that one is lost", x.keys(0, 2), Due.set(11));
  }

  private static void parted() {
    SureNoes x = withLaws(1, 0, 2, 5, 1, 1);
    x.book(2, 11, 7);
    Due.is("put", x.put(0, 7), 0);
    Due.is("put again", x.put(0, 7), 1);
    Due.is("numbers", x.about(0, 3), 3);
    Due.is("number", x.at(0, 4), 1);
  }

  private static void pushed() {
    SureNoes x = withLaws(1, 0, 2, 5);
    x.book(3, 8, 3);
    // Marks by the second law: of 0 it is 6, places 0 and 6; of 8 it is 1, places 0 and 5.
    Due.is("put at p", x.put(0, 0), 0);
    Due.is("at p", x.at(0, 0), 6);
    Due.is("put at the other one", x.put(0, 8), 0);
    Due.is("at the other one", x.at(0, 5), 1);
    // Of 16 the mark is 1, too: it is in, falsely; both places are taken, so it pushes 0's mark from 0 to 6.
    Due.is("put what pushes", x.put(0, 16), 1);
    Due.is("what pushed", x.at(0, 0), 1);
    Due.is("what was pushed", x.at(0, 6), 6);
    Due.is("take from p first", x.take(0, 8), 1);
    Due.is("p is free", x.at(0, 0), 0);
    Due.is("the other one is not", x.at(0, 5), 1);
    Due.is("take from the other one", x.take(0, 8), 0);
    Due.is("the other one is free", x.at(0, 5), 0);
    Due.is("take what is not in", x.take(0, 16), SureNoes.STATE);
    Due.is("it is lost", x.keys(0, 2), Due.set(16));
    Due.is("put once more", x.put(0, 16), 0);
    Due.is("real twice", x.real(0, 16), 2);
  }

  private static void eightPushedOut() {
    SureNoes x = withLaws(18, 2, 3, 6);
    x.book(3, 9, 3);
    for (int key : new int[] {19, 23, 2, 7, 0, 17, 27, 16}) {
      Due.holds("put " + key, x.put(0, key) >= 0);
    }
    Due.is("eight marks lie", x.about(0, 3), 8);
    Due.holds("eight are pushed out and find places", x.put(0, 26) >= 0);
    Due.is("nine marks lie", x.about(0, 3), 9);
  }

  private static void nineAreTooMany() {
    SureNoes x = withLaws(29, 6, 14, 5);
    x.book(3, 13, 3);
    for (int key : new int[] {27, 22, 26, 13, 6, 4, 23, 1, 9, 19}) {
      Due.holds("put " + key, x.put(0, key) >= 0);
    }
    long before = x.digest();
    Due.is("a ninth would be pushed out", x.put(0, 8), SureNoes.FULL);
    Due.is("all stays as it was", x.digest(), before);
  }

  private static void timesEnd() {
    SureNoes x = withLaws(1, 0);
    x.book(0, 8, 1);
    for (int i = 0; i < 99; i++) {
      Due.is("put for the time " + i, x.put(0, 5), i == 0 ? 0 : 1);
    }
    Due.is("put for the hundredth time", x.put(0, 5), SureNoes.STATE);
    Due.is("really 99 times", x.real(0, 5), 99);
    Due.is("another key may", x.put(0, 6), 0);
  }

  private static void putRefused() {
    SureNoes x = withLaws(1, 0, 2, 5, 3, 9);
    x.book(4, 12, 7);
    x.book(5, 12, 7);
    Due.is("put into a folded", x.put(0, 1), SureNoes.STATE);
    Due.is("put into a layered", x.put(1, 1), SureNoes.STATE);
    Due.is("put key 32", x.put(0, 32), SureNoes.UNKNOWN);
    Due.is("put key -1", x.put(1, -1), SureNoes.UNKNOWN);
    Due.is("put book 2", x.put(2, 1), SureNoes.UNKNOWN);
    Due.is("put book -1", x.put(-1, 1), SureNoes.UNKNOWN);
  }

  private static void takeRefused() {
    SureNoes x = withLaws(1, 0, 2, 5, 3, 9);
    x.book(0, 12, 7);
    x.book(2, 12, 7);
    x.book(4, 12, 7);
    x.book(5, 12, 7);
    x.put(0, 1);
    x.put(1, 1);
    x.build(2, 2, 0);
    x.build(3, 2, 0);
    for (int book = 0; book < 4; book++) {
      Due.holds("the key is in", (x.keys(book, 0) & 2) != 0);
      Due.is("take from another kind", x.take(book, 1), SureNoes.STATE);
    }
    x.book(1, 12, 7);
    x.book(3, 12, 3);
    Due.is("take from an empty counted", x.take(4, 1), SureNoes.STATE);
    Due.is("take from an empty pushed", x.take(5, 1), SureNoes.STATE);
    Due.is("take key 32", x.take(4, 32), SureNoes.UNKNOWN);
    Due.is("take key -1", x.take(0, -1), SureNoes.UNKNOWN);
    Due.is("take book 6", x.take(6, 1), SureNoes.UNKNOWN);
    Due.is("take book -1", x.take(-1, 1), SureNoes.UNKNOWN);
  }
}
