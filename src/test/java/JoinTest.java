/** Promises 17 to 19: keys, join, halve. */
public final class JoinTest {
  public static void main(String[] args) {
    keys();
    joined();
    met();
    joinRefused();
    halved();
    halveRefused();
    Due.end();
  }

  private static SureNoes threeLaws() {
    SureNoes x = new SureNoes();
    x.law(1, 0);
    x.law(2, 5);
    x.law(1, 1);
    return x;
  }

  private static void keys() {
    SureNoes x = threeLaws();
    x.book(1, 8, 1);
    Due.is("none is in", x.keys(0, 0), 0);
    x.put(0, 3);
    x.put(0, 4);
    Due.is("in", x.keys(0, 0), Due.set(3, 11, 19, 27, 4, 12, 20, 28));
    Due.is("false", x.keys(0, 1), Due.set(11, 19, 27, 12, 20, 28));
    Due.is("lost", x.keys(0, 2), 0);
    Due.is("really there", x.keys(0, 3), Due.set(3, 4));
    x.take(0, 28);
    Due.is("in after another was taken out", x.keys(0, 0), Due.set(3, 11, 19, 27));
    Due.is("lost then", x.keys(0, 2), Due.set(4));
    Due.is("really there still", x.keys(0, 3), Due.set(3, 4));
    Due.is("keys what 4", x.keys(0, 4), SureNoes.OUTSIDE);
    Due.is("keys what -1", x.keys(0, -1), SureNoes.OUTSIDE);
    Due.is("keys book 1", x.keys(1, 0), SureNoes.UNKNOWN);
    Due.is("keys unknown ahead of outside", x.keys(-1, 4), SureNoes.UNKNOWN);
  }

  private static void joined() {
    for (int kind = 0; kind <= 2; kind += 2) {
      SureNoes x = threeLaws();
      x.book(kind, 9, 7);
      x.book(kind, 9, 7);
      x.put(0, 3);
      x.put(0, 3);
      x.put(0, 4);
      x.put(1, 3);
      x.put(1, 30);
      Due.is("join", x.join(0, 1, false), 2);
      Due.is("kind", x.about(2, 0), kind);
      Due.is("m", x.about(2, 1), 9);
      Due.is("laws", x.about(2, 2), 7);
      for (int place = 0; place < 9; place++) {
        Due.is("the greater number", x.at(2, place), Math.max(x.at(0, place), x.at(1, place)));
      }
      Due.is("really the more", x.real(2, 3), 2);
      Due.is("really in the one", x.real(2, 4), 1);
      Due.is("really in the other", x.real(2, 30), 1);
      x.put(2, 20);
      Due.is("the first is left alone", x.real(0, 20), 0);
      Due.is("the new one takes its own", x.real(2, 20), 1);
    }
  }

  private static void met() {
    SureNoes x = threeLaws();
    x.book(0, 9, 7);
    x.book(0, 9, 7);
    x.put(0, 3);
    x.put(0, 3);
    x.put(0, 4);
    x.put(1, 3);
    x.put(1, 30);
    Due.is("meet", x.join(0, 1, true), 2);
    for (int place = 0; place < 9; place++) {
      Due.is("the lesser number", x.at(2, place), Math.min(x.at(0, place), x.at(1, place)));
    }
    Due.is("really the less", x.real(2, 3), 1);
    Due.is("really in the one alone", x.real(2, 4), 0);
    Due.is("meet with itself", x.join(0, 0, true), 3);
    Due.is("which is the same", x.keys(3, 0), x.keys(0, 0));
    Due.is("really the same", x.real(3, 3), 2);
  }

  private static void joinRefused() {
    SureNoes x = threeLaws();
    x.book(0, 12, 7);
    x.book(2, 12, 7);
    x.book(0, 11, 7);
    x.book(0, 12, 3);
    x.book(1, 12, 7);
    x.book(4, 12, 7);
    x.book(5, 12, 7);
    Due.is("a plain and a parted", x.join(0, 1, false), SureNoes.STATE);
    Due.is("of unlike m", x.join(0, 2, false), SureNoes.STATE);
    Due.is("of unlike laws", x.join(0, 3, true), SureNoes.STATE);
    Due.is("two counted", x.join(4, 4, true), SureNoes.STATE);
    Due.is("a plain and a counted", x.join(0, 4, false), SureNoes.STATE);
    Due.is("two folded", x.join(5, 5, false), SureNoes.STATE);
    Due.is("a parted and a folded", x.join(1, 5, false), SureNoes.STATE);
    Due.is("two layered", x.join(6, 6, false), SureNoes.STATE);
    Due.is("a is unknown", x.join(7, 0, false), SureNoes.UNKNOWN);
    Due.is("b is unknown", x.join(0, -1, false), SureNoes.UNKNOWN);
    Due.is("unknown ahead of state", x.join(5, 9, false), SureNoes.UNKNOWN);
    x.book(3, 12, 3);
    Due.is("two pushed", x.join(7, 7, false), SureNoes.STATE);
    Due.is("state ahead of full", x.join(0, 1, false), SureNoes.STATE);
    Due.is("full", x.join(0, 0, false), SureNoes.FULL);
    Due.is("no more books", x.count(1), 8);
  }

  private static void halved() {
    SureNoes x = threeLaws();
    x.book(0, 12, 3);
    x.put(0, 3);
    x.put(0, 3);
    x.put(0, 10);
    Due.is("halve", x.halve(0), 1);
    Due.is("kind", x.about(1, 0), 0);
    Due.is("half of m", x.about(1, 1), 6);
    Due.is("laws", x.about(1, 2), 3);
    for (int place = 0; place < 6; place++) {
      Due.is("the greater one", x.at(1, place), Math.max(x.at(0, place), x.at(0, place + 6)));
    }
    Due.is("really as it was", x.real(1, 3), 2);
    Due.is("none is lost", x.keys(1, 2), 0);
    x.put(1, 3);
    Due.is("the first is left alone", x.real(0, 3), 2);
    Due.is("3 cannot be halved", x.halve(x.book(0, 6, 1)), 3);
    Due.is("m 3", x.halve(3), SureNoes.STATE);
    Due.is("m 4 can", x.halve(x.book(0, 4, 1)), 5);
  }

  private static void halveRefused() {
    SureNoes x = threeLaws();
    x.book(0, 2, 1);
    x.book(0, 7, 1);
    Due.is("m 2", x.halve(0), SureNoes.STATE);
    Due.is("m odd", x.halve(1), SureNoes.STATE);
    for (int kind = 1; kind <= 5; kind++) {
      Due.is("another kind", x.halve(x.book(kind, 12, kind == 3 ? 3 : 7)), SureNoes.STATE);
    }
    x.book(0, 12, 1);
    Due.is("book 8", x.halve(8), SureNoes.UNKNOWN);
    Due.is("book -1", x.halve(-1), SureNoes.UNKNOWN);
    Due.is("state ahead of full", x.halve(0), SureNoes.STATE);
    Due.is("full", x.halve(7), SureNoes.FULL);
  }
}
