import com.sun.management.ThreadMXBean;
import java.lang.management.ManagementFactory;

/**
 * All calls of a run live in one room: what an object and its 512 dearest calls make is counted here,
 * in bytes, so that a row made anew in each call would show.
 */
public final class RoomTest {
  private static final long ALL = 0xFFFFFFFFL;
  private static final long ROOM = 80_000;

  public static void main(String[] args) {
    ThreadMXBean bean = (ThreadMXBean) ManagementFactory.getThreadMXBean();
    long me = Thread.currentThread().getId();
    for (int call = 0; call < 14; call++) {
      // Once ahead, so that what the machine makes on first use is not counted.
      run(call);
      long before = bean.getThreadAllocatedBytes(me);
      run(call);
      long made = bean.getThreadAllocatedBytes(me) - before;
      Due.holds("512 calls of sort " + call + " make " + made + " bytes", made <= ROOM);
    }
    Due.end();
  }

  private static void run(int call) {
    SureNoes x = new SureNoes();
    x.law(1, 0);
    x.law(5, 3);
    x.law(11, 30);
    for (int kind = 0; kind <= 5; kind++) {
      x.book(kind, kind == 0 ? 12 : 32, kind == 3 ? 3 : 7);
    }
    x.join(0, 0, false);
    x.halve(0);
    for (int key = 0; key < 12; key++) {
      x.put(0, key);
      x.put(3, key);
    }
    for (int i = 0; i < 480; i++) {
      oneCall(x, call, i);
    }
  }

  private static void oneCall(SureNoes x, int call, int i) {
    switch (call) {
      case 0: x.odds(ALL - 2, 1, 7, 0); break;
      case 1: x.best(255, 32, 1); break;
      case 2: x.fewest(255, 1, 0); break;
      case 3: x.put(3, i % 32); break;
      case 4: x.take(3, i % 32); break;
      case 5: x.build(4, 255, 0); break;
      case 6: x.build(5, 255, 65280); break;
      case 7: x.keys(i % 8, 1); break;
      case 8: x.spoil(2, i % 32); break;
      case 9: x.made(0, i % 4); break;
      case 10: x.order(3, 63, 3); break;
      case 11: x.most(3, ALL); break;
      case 12: x.count(3); break;
      default: x.digest(); break;
    }
  }
}
