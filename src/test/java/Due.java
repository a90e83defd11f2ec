import java.util.function.LongSupplier;

/** What the tests share: it prints each call whose answer is not the one that is due. */
final class Due {
  private static int wrong = 0;
  private static int asked = 0;

  private Due() {
  }

  static void is(String call, long got, long want) {
    asked++;
    if (got != want) {
      wrong++;
      if (wrong <= 40) {
        System.out.println(call + " answered " + got + ", due is " + want);
      }
    }
  }

  static void holds(String what, boolean so) {
    is(what, so ? 1 : 0, 1);
  }

  /** A call that is refused as it is due, and changes nothing. */
  static void refused(SureNoes x, String call, LongSupplier asked, long want) {
    long before = x.digest();
    is(call, asked.getAsLong(), want);
    is(call + " changes nothing: digest", x.digest(), before);
  }

  /** A new object with the laws told as A, B, A, B and so on. */
  static SureNoes withLaws(int... laws) {
    SureNoes x = new SureNoes();
    for (int i = 0; i + 1 < laws.length; i += 2) {
      is("law(" + laws[i] + ", " + laws[i + 1] + ")", x.law(laws[i], laws[i + 1]), i / 2);
    }
    return x;
  }

  /** Keys told one by one, as bits. */
  static long set(int... keys) {
    long bits = 0;
    for (int key : keys) {
      bits |= 1L << key;
    }
    return bits;
  }

  static void end() {
    System.out.println(wrong == 0 ? asked + " answers are as due" : wrong + " of " + asked + " answers are not as due");
    if (asked == 0 || wrong != 0) {
      System.exit(1);
    }
  }
}
