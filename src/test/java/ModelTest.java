import java.util.Random;

/** All promises: runs of calls, chosen by a fixed seed, each answer compared with the model's. */
public final class ModelTest {
  private static final int RUNS = 250;
  private static Random dice;

  public static void main(String[] args) {
    int runs = args.length > 0 ? Integer.parseInt(args[0]) : RUNS;
    int first = args.length > 1 ? Integer.parseInt(args[1]) : 1;
    for (int run = first; run < first + runs; run++) {
      dice = new Random(run);
      oneRun(run);
    }
    Due.end();
  }

  private static void oneRun(int run) {
    SureNoes x = new SureNoes();
    Model y = new Model();
    int laws = 1 + dice.nextInt(8);
    for (int i = 0; i < laws; i++) {
      int a = 1 + dice.nextInt(36);
      int b = dice.nextInt(37);
      Due.is("run " + run + ": law", x.law(a, b), y.law(a, b));
    }
    // Some runs stay with small books, where marks must push and keys meet often.
    int widest = dice.nextInt(2) == 0 ? 12 : 32;
    for (int call = laws; call < 300; call++) {
      oneCall("run " + run + ", call " + call + ": ", x, y, widest, call);
    }
    Due.is("run " + run + ": digest at the end", x.digest(), y.digest());
  }

  private static int some(int least, int most) {
    // Now and then just outside.
    int edge = dice.nextInt(60);
    return edge == 0 ? least - 1 : edge == 1 ? most + 1 : least + dice.nextInt(most - least + 1);
  }

  private static long someSet() {
    switch (dice.nextInt(40)) {
      case 0: return -1 - dice.nextInt(5);
      case 1: return (1L << 32) + dice.nextInt(3);
      case 2: return 0;
      case 3: return 0xFFFFFFFFL;
      default: break;
    }
    long set = dice.nextLong() & 0xFFFFFFFFL;
    int thinner = dice.nextInt(4);
    for (int i = 0; i < thinner; i++) {
      set &= dice.nextLong();
    }
    return set;
  }

  private static int someLaws(int kind) {
    int many = kind == 3 ? 2 : kind == 4 ? 3 : 1 + dice.nextInt(3);
    int bits = 0;
    for (int i = 0; i < many; i++) {
      bits |= 1 << dice.nextInt(8);
    }
    return dice.nextInt(30) == 0 ? dice.nextInt() : bits;
  }

  private static void oneCall(String at, SureNoes x, Model y, int widest, int call) {
    int b = some(0, Math.max(0, y.count(1) - 1));
    int key = some(0, 31);
    long set = someSet();
    long out = someSet();
    switch (dice.nextInt(40)) {
      case 0: case 1: case 2: {
        int kind = some(0, 5);
        int m = some(2, widest);
        int laws = someLaws(kind);
        Due.is(at + "book(" + kind + ", " + m + ", " + laws + ")", x.book(kind, m, laws), y.book(kind, m, laws));
        break;
      }
      case 3: {
        int a = some(1, 36);
        int c = some(0, 36);
        Due.is(at + "law(" + a + ", " + c + ")", x.law(a, c), y.law(a, c));
        break;
      }
      case 4: {
        int law = some(0, 7);
        Due.is(at + "value(" + law + ", " + key + ")", x.value(law, key), y.value(law, key));
        int e = some(0, 31);
        Due.is(at + "fewest(" + set + ", " + law + ", " + e + ")", x.fewest(set, law, e), y.fewest(set, law, e));
        break;
      }
      case 5: {
        int m = some(2, 32);
        int what = some(0, 2);
        if (dice.nextInt(4) == 0) {
          Due.is(at + "best(" + set + ", " + m + ", " + what + ")", x.best(set, m, what), y.best(set, m, what));
        } else {
          int part = some(0, 1);
          Due.is(at + "odds(" + set + ", " + key + ", " + m + ", " + part + ")",
              x.odds(set, key, m, part), y.odds(set, key, m, part));
        }
        break;
      }
      case 6: {
        int kind = some(0, 5);
        Due.is(at + "as(" + b + ", " + kind + ")", x.as(b, kind), y.as(b, kind));
        break;
      }
      case 7: {
        int what = some(0, 5);
        Due.is(at + "about(" + b + ", " + what + ")", x.about(b, what), y.about(b, what));
        break;
      }
      case 8: {
        int place = some(0, 31);
        Due.is(at + "at(" + b + ", " + place + ")", x.at(b, place), y.at(b, place));
        break;
      }
      case 9: {
        int row = some(0, 5);
        Due.is(at + "row(" + b + ", " + row + ")", x.row(b, row), y.row(b, row));
        break;
      }
      case 10:
        Due.is(at + "places(" + b + ", " + key + ")", x.places(b, key), y.places(b, key));
        Due.is(at + "real(" + b + ", " + key + ")", x.real(b, key), y.real(b, key));
        break;
      case 11: case 12: case 13: case 14: case 15: case 16: case 17: case 18:
        Due.is(at + "put(" + b + ", " + key + ")", x.put(b, key), y.put(b, key));
        break;
      case 19: case 20: case 21: case 22:
        Due.is(at + "take(" + b + ", " + key + ")", x.take(b, key), y.take(b, key));
        break;
      case 23: case 24: case 25: case 26: {
        long left = dice.nextInt(8) == 0 || out < 0 || out > 0xFFFFFFFFL ? out : out & ~set;
        long outs = y.about(b, 0) == 4 && dice.nextInt(8) != 0 ? 0 : left;
        Due.is(at + "build(" + b + ", " + set + ", " + outs + ")", x.build(b, set, outs), y.build(b, set, outs));
        break;
      }
      case 27: case 28: {
        int what = some(0, 3);
        Due.is(at + "keys(" + b + ", " + what + ")", x.keys(b, what), y.keys(b, what));
        break;
      }
      case 29: {
        int c = dice.nextInt(4) == 0 ? b : some(0, 7);
        boolean meets = dice.nextBoolean();
        Due.is(at + "join(" + b + ", " + c + ", " + meets + ")", x.join(b, c, meets), y.join(b, c, meets));
        break;
      }
      case 30:
        if (dice.nextInt(2) == 0) {
          Due.is(at + "halve(" + b + ")", x.halve(b), y.halve(b));
        }
        break;
      case 31: case 32:
        if (dice.nextInt(4) == 0) {
          Due.is(at + "spoil(" + b + ", " + key + ")", x.spoil(b, key), y.spoil(b, key));
        }
        break;
      case 33: case 34: {
        int what = some(0, 3);
        // The model tries every set: too slow where many keys are wanted.
        if (what > 1 || y.about(b, 3) <= 9 || y.about(b, 3) > 12) {
          Due.is(at + "made(" + b + ", " + what + ")", x.made(b, what), y.made(b, what));
        }
        break;
      }
      case 35: case 36: {
        int i = some(0, 5);
        long few = thin(set);
        Due.is(at + "order(" + b + ", " + few + ", " + i + ")", x.order(b, few, i), y.order(b, few, i));
        break;
      }
      case 37:
        Due.is(at + "most(" + b + ", " + set + ")", x.most(b, set), y.most(b, set));
        break;
      case 38: {
        int what = some(0, 3);
        Due.is(at + "count(" + what + ")", x.count(what), y.count(what));
        break;
      }
      default:
        Due.is(at + "digest()", x.digest(), y.digest());
        break;
    }
  }

  private static long thin(long set) {
    if (set < 0 || set > 0xFFFFFFFFL || dice.nextInt(10) == 0) {
      return set;
    }
    long few = set;
    while (Long.bitCount(few) > 6) {
      few &= ~(1L << dice.nextInt(32));
    }
    return few;
  }
}
