import java.lang.management.ManagementFactory;
import java.lang.reflect.InvocationTargetException;
import java.lang.reflect.Method;
import java.lang.reflect.Modifier;
import java.util.ArrayList;
import java.util.Comparator;
import java.util.List;
import java.util.Random;

/** No call throws for any arguments in any state, and no call makes objects: a run has one room for all. */
public final class LimitsTest {
  private static final Checks C = new Checks("LimitsTest");
  private static final int[] EDGES = {Integer.MIN_VALUE, Integer.MIN_VALUE + 1, -1000, -10, -9, -2, -1, 0, 1, 2, 3, 4, 5, 6, 7,
      8, 9, 10, 13, 14, 15, 26, 27, 63, 64, 98, 99, 100, 255, 256, 1000, 43210, Integer.MAX_VALUE - 1, Integer.MAX_VALUE};

  public static void main(String[] args) throws Exception {
    for (RoomsThatChange x : states()) nothingThrows(x);
    nothingIsMade();
    C.end();
  }

  private static RoomsThatChange full() {
    return Checks.house("rp012011;rh112022;rt2120299;rd021013;ru100114;rs200015;",
        "g000222;g111333;g222012;g012210;g120333;");
  }

  private static List<RoomsThatChange> states() {
    RoomsThatChange letters = full();
    for (int i = 0; i < 64; i++) letters.letter('r');
    for (int i = 0; i < 6; i++) letters.row(i);
    for (int i = 0; i < 6; i++) letters.trial(0, i % 2);
    return List.of(new RoomsThatChange(), Checks.house("g000333;g000111;"), Checks.house("rh012011;"),
        Checks.house("rh012011;g000111;"), full(), letters);
  }

  private static List<Method> face() {
    List<Method> all = new ArrayList<>();
    for (Method m : RoomsThatChange.class.getDeclaredMethods()) if (Modifier.isPublic(m.getModifiers())) all.add(m);
    all.sort(Comparator.comparing(Method::getName));
    return all;
  }

  private static void nothingThrows(RoomsThatChange x) throws Exception {
    Random random = new Random(7);
    List<Method> face = face();
    for (int i = 0; i < 20000; i++) {
      Method m = face.get(random.nextInt(face.size()));
      Object[] arguments = new Object[m.getParameterCount()];
      for (int a = 0; a < arguments.length; a++) arguments[a] = EDGES[random.nextInt(EDGES.length)];
      try {
        m.invoke(x, arguments);
      } catch (InvocationTargetException e) {
        C.holds(m.getName() + " threw " + e.getCause(), false);
      }
    }
    C.holds("calls came to their end", true);
  }

  private static void nothingIsMade() {
    com.sun.management.ThreadMXBean bean = (com.sun.management.ThreadMXBean) ManagementFactory.getThreadMXBean();
    RoomsThatChange x = full();
    dearCalls(x);
    long before = bean.getThreadAllocatedBytes(Thread.currentThread().getId());
    for (int i = 0; i < 10; i++) dearCalls(x);
    long made = bean.getThreadAllocatedBytes(Thread.currentThread().getId()) - before;
    C.holds("calls make no objects, not " + made + " bytes", made < 4096);
  }

  private static void dearCalls(RoomsThatChange x) {
    x.fewest(0, 0);
    x.cheapest(0, 0);
    x.rowOf(0, 0, 1, 0);
    x.becomes(0, 3);
    x.both(0, 1);
    x.asWent();
    x.alike();
    x.changes(2);
    x.needed();
    x.was(0, 1, 3, 1);
    x.fits(63);
    x.next(63);
    x.sure(63);
    x.heirs(1, 5, 43210);
    x.bestOrder(1, -1);
    x.week(14, 3);
    x.sleep(0, 0);
    x.night();
    x.row(0);
    x.judge(0);
    x.image();
    x.on();
    x.letter('r');
    x.inn();
    x.count(7);
  }
}
