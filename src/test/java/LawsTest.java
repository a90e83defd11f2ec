/** Promises 1 to 6: a new object, law, value, odds, best, fewest. */
public final class LawsTest {
  private static final long ALL = 0xFFFFFFFFL;

  public static void main(String[] args) {
    newObject();
    law();
    value();
    odds();
    best();
    fewest();
    Due.end();
  }

  private static void newObject() {
    SureNoes x = new SureNoes();
    for (int what = 0; what <= 3; what++) {
      Due.is("count of a new object", x.count(what), 0);
    }
    Due.is("digest of a new object", x.digest(), 367L * 31 * 31 * 31 * 31);
    Due.is("value without laws", x.value(0, 0), SureNoes.UNKNOWN);
    Due.is("about without books", x.about(0, 0), SureNoes.UNKNOWN);
  }

  private static void law() {
    SureNoes x = new SureNoes();
    int[][] outside = {{0, 0}, {37, 0}, {-1, 5}, {1, -1}, {1, 37}, {Integer.MIN_VALUE, 0}, {1, Integer.MAX_VALUE}};
    for (int[] bad : outside) {
      Due.is("law outside", x.law(bad[0], bad[1]), SureNoes.OUTSIDE);
    }
    Due.is("a refused law is not kept", x.count(0), 0);
    Due.is("law least", x.law(1, 0), 0);
    Due.is("law greatest", x.law(36, 36), 1);
    Due.is("law once more the same", x.law(1, 0), 2);
    for (int i = 3; i < 8; i++) {
      Due.is("law", x.law(i, i), i);
    }
    Due.is("law too many", x.law(5, 5), SureNoes.FULL);
    Due.is("law too many and outside", x.law(0, 5), SureNoes.OUTSIDE);
    Due.is("count of laws", x.count(0), 8);
  }

  private static void value() {
    SureNoes x = new SureNoes();
    x.law(36, 36);
    x.law(2, 5);
    Due.is("value(0, 0)", x.value(0, 0), 36);
    Due.is("value(0, 31)", x.value(0, 31), 5);
    Due.is("value(1, 16)", x.value(1, 16), 0);
    Due.is("value(1, 31)", x.value(1, 31), 30);
    Due.is("value law -1", x.value(-1, 0), SureNoes.UNKNOWN);
    Due.is("value law 2", x.value(2, 0), SureNoes.UNKNOWN);
    Due.is("value key -1", x.value(0, -1), SureNoes.UNKNOWN);
    Due.is("value key 32", x.value(0, 32), SureNoes.UNKNOWN);
  }

  private static void odds() {
    SureNoes x = new SureNoes();
    Due.is("odds above", x.odds(Due.set(3, 4), 5, 8, 0), 55);
    Due.is("odds below", x.odds(Due.set(3, 4), 5, 8, 1), 333);
    Due.is("odds of none above", x.odds(0, 5, 8, 0), 0);
    Due.is("odds of none below", x.odds(0, 5, 8, 1), 1);
    Due.is("odds sure above", x.odds(ALL & ~1L, 0, 2, 0), 1);
    Due.is("odds sure below", x.odds(ALL & ~1L, 0, 2, 1), 1);
    Due.is("odds set -1", x.odds(-1, 5, 8, 0), SureNoes.OUTSIDE);
    Due.is("odds set 2^32", x.odds(ALL + 1, 5, 8, 0), SureNoes.OUTSIDE);
    Due.is("odds m 1", x.odds(1, 5, 1, 0), SureNoes.OUTSIDE);
    Due.is("odds m 33", x.odds(1, 5, 33, 0), SureNoes.OUTSIDE);
    Due.is("odds m 0", x.odds(1, 5, 0, 0), SureNoes.OUTSIDE);
    Due.is("odds part 2", x.odds(1, 5, 8, 2), SureNoes.OUTSIDE);
    Due.is("odds part -1", x.odds(1, 5, 8, -1), SureNoes.OUTSIDE);
    Due.is("odds key 32", x.odds(1, 32, 8, 0), SureNoes.UNKNOWN);
    Due.is("odds key -1", x.odds(1, -1, 8, 0), SureNoes.UNKNOWN);
    Due.is("odds key of the set", x.odds(1, 0, 8, 0), SureNoes.UNKNOWN);
    Due.is("odds outside ahead of unknown", x.odds(1, 0, 8, 7), SureNoes.OUTSIDE);
  }

  private static void best() {
    SureNoes x = new SureNoes();
    Due.is("best how many", x.best(Due.set(3, 4), 8, 0), 2);
    Due.is("best A", x.best(Due.set(3, 4), 8, 1), 8);
    Due.is("best B", x.best(Due.set(3, 4), 8, 2), 18);
    Due.is("best of none", x.best(0, 32, 0), 0);
    Due.is("best of none A", x.best(0, 32, 1), 1);
    Due.is("best of none B", x.best(0, 32, 2), 0);
    Due.is("best of all", x.best(ALL, 2, 0), 0);
    Due.is("best set -1", x.best(-1, 8, 0), SureNoes.OUTSIDE);
    Due.is("best set 2^32", x.best(ALL + 1, 8, 0), SureNoes.OUTSIDE);
    Due.is("best m 1", x.best(1, 1, 0), SureNoes.OUTSIDE);
    Due.is("best m 33", x.best(1, 33, 0), SureNoes.OUTSIDE);
    Due.is("best what 3", x.best(1, 8, 3), SureNoes.OUTSIDE);
    Due.is("best what -1", x.best(1, 8, -1), SureNoes.OUTSIDE);
  }

  private static void fewest() {
    SureNoes x = new SureNoes();
    x.law(1, 0);
    Due.is("fewest, 31 let in", x.fewest(Due.set(0, 1), 0, 31), 2);
    Due.is("fewest, 15 let in", x.fewest(Due.set(0), 0, 15), 2);
    Due.is("fewest, 14 let in", x.fewest(Due.set(0), 0, 14), 3);
    Due.is("fewest, 1 let in", x.fewest(Due.set(0), 0, 1), 16);
    Due.is("fewest, none let in", x.fewest(Due.set(0), 0, 0), 32);
    x.law(1, 6);
    Due.is("fewest, none of 2 to 32", x.fewest(Due.set(31), 1, 0), SureNoes.NONE);
    Due.is("fewest of none", x.fewest(0, 0, 0), 2);
    Due.is("fewest law 2", x.fewest(1, 2, 0), SureNoes.UNKNOWN);
    Due.is("fewest law -1", x.fewest(1, -1, 0), SureNoes.UNKNOWN);
    Due.is("fewest unknown ahead of outside", x.fewest(-1, 2, -1), SureNoes.UNKNOWN);
    Due.is("fewest set -1", x.fewest(-1, 0, 0), SureNoes.OUTSIDE);
    Due.is("fewest set 2^32", x.fewest(ALL + 1, 0, 0), SureNoes.OUTSIDE);
    Due.is("fewest e -1", x.fewest(1, 0, -1), SureNoes.OUTSIDE);
    Due.is("fewest e 32", x.fewest(1, 0, 32), SureNoes.OUTSIDE);
  }
}
