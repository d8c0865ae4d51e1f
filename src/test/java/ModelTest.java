import java.lang.reflect.InvocationTargetException;
import java.lang.reflect.Method;
import java.util.Arrays;
import java.util.HashMap;
import java.util.Map;
import java.util.Random;

/** Long runs of calls by seeds: the class must answer as the model does, call by call. */
public final class ModelTest {
  private static final int RUNS = 240;
  private static final int CALLS = 512;
  private static final String KINDS = "phtdfsu";
  private static final Map<String, Method> OF_CLASS = byName(RoomsThatChange.class);
  private static final Map<String, Method> OF_MODEL = byName(Model.class);

  private RoomsThatChange x = new RoomsThatChange();
  private Model model = new Model();
  private final Random random;
  private final int theme;
  private final StringBuilder calls = new StringBuilder();
  private int made;

  private ModelTest(int seed) {
    random = new Random(seed);
    theme = seed % 5;
  }

  private static Map<String, Method> byName(Class<?> c) {
    Map<String, Method> all = new HashMap<>();
    for (Method m : c.getDeclaredMethods()) {
      if (java.lang.reflect.Modifier.isPublic(m.getModifiers())) all.put(m.getName(), m);
    }
    return all;
  }

  public static void main(String[] args) throws Exception {
    int runs = args.length > 0 ? Integer.parseInt(args[0]) : RUNS;
    for (int seed = 0; seed < runs; seed++) {
      if (!new ModelTest(seed).run()) System.exit(1);
    }
    System.out.println("ModelTest: " + runs + " runs are as the model says");
  }

  private boolean run() throws Exception {
    if (random.nextInt(8) > 0) {
      for (int i = 1 + random.nextInt(4); i > 0; i--) if (!tell(sound())) return false;
    }
    while (made < CALLS) {
      if (random.nextInt(40) == 0) {
        if (!tell(random.nextInt(3) == 0 ? sound() : unsound())) return false;
      } else if (!any()) {
        return false;
      }
    }
    return true;
  }

  private String sound() {
    StringBuilder text = new StringBuilder();
    int roomsOfFive = theme == 1 ? 2 : 3;
    for (int i = 1 + random.nextInt(4); i > 0; i--) {
      text.append(random.nextInt(5) < roomsOfFive ? roomText() : guestText());
    }
    return text.toString();
  }

  /** By theme: heirs with many guests; rooms after which all are alike; rooms that hang on the night and the others. */
  private String roomText() {
    String price = random.nextBoolean() ? digits(1, 10) : digits(2, 10);
    String kinds = theme == 1 ? "hhhp" : theme == 2 ? "phtu" : theme == 3 ? "tduh" : KINDS;
    String table = digits(3, 3);
    if (theme == 2 && random.nextInt(3) > 0) table = table.substring(0, 1).repeat(3);
    char kind = kinds.charAt(random.nextInt(kinds.length()));
    return "r" + kind + digits(1, 3) + table + (1 + random.nextInt(2)) + price + ";";
  }

  private String guestText() {
    return "g" + digits(3, 3) + (random.nextBoolean() ? digits(3, 4) : "3" + digits(1, 4) + "3") + ";";
  }

  private String digits(int n, int below) {
    StringBuilder text = new StringBuilder();
    for (int i = 0; i < n; i++) text.append(random.nextInt(below));
    return text.toString();
  }

  private String unsound() {
    StringBuilder text = new StringBuilder(sound());
    int place = random.nextInt(text.length());
    switch (random.nextInt(4)) {
      case 0: text.setCharAt(place, (char) (48 + random.nextInt(10))); break;
      case 1: text.deleteCharAt(place); break;
      case 2: text.insert(place, "rg;0123456789phx ".charAt(random.nextInt(17))); break;
      default: text.setLength(place); break;
    }
    return text.toString();
  }

  private boolean tell(String text) throws Exception {
    for (int i = 0; i < text.length(); i++) if (!same("letter", text.charAt(i))) return false;
    return same("inn");
  }

  private int state() {
    return random.nextInt(30) == 0 ? random.nextInt(31) - 2 : random.nextInt(27);
  }

  private int room() {
    return random.nextInt(30) == 0 ? random.nextInt(9) - 1 : random.nextInt(Math.max(1, model.count(0)));
  }

  private int guest() {
    return random.nextInt(30) == 0 ? random.nextInt(8) - 1 : random.nextInt(Math.max(1, model.count(1)));
  }

  private int near(int least, int greatest) {
    if (random.nextInt(60) == 0) return random.nextInt();
    return random.nextInt(12) == 0 ? random.nextInt(greatest - least + 5) + least - 2 : least + random.nextInt(greatest - least + 1);
  }

  private int bits() {
    if (random.nextInt(20) == 0) return random.nextInt(20) == 0 ? random.nextInt() : random.nextInt(130) - 2;
    int all = (1 << model.count(0)) - 1;
    return random.nextBoolean() ? all : random.nextInt(64) & all;
  }

  private int order() {
    int order = random.nextInt(10) == 0 ? random.nextInt(100000) - 100 : 0;
    if (order != 0) return order;
    int[] all = {0, 1, 2, 3, 4};
    for (int i = 4; i > 0; i--) {
      int j = random.nextInt(i + 1);
      int held = all[i];
      all[i] = all[j];
      all[j] = held;
    }
    int guests = model.count(1);
    int scale = 1;
    for (int g : all) {
      if (g >= guests) continue;
      order += g * scale;
      scale *= 10;
    }
    return order;
  }

  private boolean any() throws Exception {
    switch (random.nextInt(34)) {
      case 0: return same("letter", near(0, 255));
      case 1: return random.nextInt(6) > 0 || same("inn");
      case 2: return same("room", room(), near(0, 7));
      case 3: return same("room", room(), 7);
      case 4: return same("guest", guest(), near(0, 7));
      case 5: return same("guest", guest(), random.nextBoolean() ? 0 : 7);
      case 6: case 7: case 8: return same("sleep", guest(), room());
      case 9: return same("stay", guest());
      case 10: case 11: return same("night");
      case 12: return same("makes", room(), state(), near(0, 99));
      case 13: return random.nextInt(4) > 0 || same("fewest", state(), guest());
      case 14: return random.nextInt(4) > 0 || same("cheapest", state(), guest());
      case 15: return random.nextInt(3) > 0 || rowOf(state(), guest(), near(0, 1));
      case 16: return same("becomes", state(), near(0, 3));
      case 17: return same("both", guest(), guest());
      case 18: return random.nextInt(8) > 0 || same("asWent");
      case 19: return random.nextInt(8) > 0 || same("alike");
      case 20: return random.nextInt(4) > 0 || same("changes", near(0, 2));
      case 21: return random.nextInt(8) > 0 || same("needed");
      case 22: return random.nextInt(2) > 0 || same("was", state(), state(), near(1, 3), near(0, 1));
      case 23: return random.nextInt(3) > 0 || trial();
      case 24: return same("fits", bits());
      case 25: return same("next", bits());
      case 26: return random.nextInt(3) > 0 || same("sure", bits());
      case 27: return same("heirs", room(), near(0, Math.max(1, model.count(1))), order());
      case 28: return random.nextInt(3) > 0 || same("bestOrder", room(), near(-1, 4));
      case 29: return same("week", near(1, 14), random.nextInt());
      case 30: return same("row", random.nextInt(3) == 0 ? near(0, 9) : room());
      case 31: return same("judge", guest());
      case 32: return random.nextInt(4) > 0 || same(random.nextInt(3) == 0 ? "on" : "image");
      default: return same("count", near(0, 17));
    }
  }

  private boolean rowOf(int state, int guest, int what) throws Exception {
    for (int i = -1; i < 5; i++) if (!same("rowOf", state, guest, what, i)) return false;
    return same("fewest", state, guest) && same("cheapest", state, guest);
  }

  /** Mostly as some ROOM makes it, so that some fit. */
  private boolean trial() throws Exception {
    int from = random.nextInt(27);
    int rooms = model.count(0);
    if (rooms == 0 || random.nextInt(8) == 0) return same("trial", state(), state());
    int to = model.makes(random.nextInt(rooms), from, 0);
    return same("trial", from, to);
  }

  private boolean same(String name, int... arguments) throws Exception {
    made++;
    Object[] boxed = new Object[arguments.length];
    for (int i = 0; i < arguments.length; i++) boxed[i] = arguments[i];
    Object got;
    try {
      got = OF_CLASS.get(name).invoke(x, boxed);
    } catch (InvocationTargetException e) {
      got = e.getCause();
    }
    Object due = OF_MODEL.get(name).invoke(model, boxed);
    calls.append(name).append(Arrays.toString(arguments)).append(" = ").append(due).append('\n');
    if (got.equals(due)) return true;
    System.out.println(calls);
    System.out.println("ModelTest: " + name + Arrays.toString(arguments) + " answered " + got + ", due is " + due);
    return false;
  }
}
