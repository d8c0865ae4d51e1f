import java.util.ArrayList;
import java.util.HashSet;
import java.util.List;
import java.util.Set;
import java.util.function.Predicate;
import java.util.regex.Matcher;
import java.util.regex.Pattern;

/**
 * The document once more, in the plainest way and with the whole library, to compare with.
 * Everything in mind (ALONE, BOTH, HEIRS, WEEK) is slept through in a whole house of its own.
 */
final class Model {
  static final class R {
    char kind;
    int mark, beds, price;
    int[] table = new int[3];
    int[] last;

    R fresh() {
      R r = same();
      r.last = null;
      return r;
    }

    R same() {
      R r = new R();
      r.kind = kind;
      r.mark = mark;
      r.beds = beds;
      r.price = price;
      r.table = table.clone();
      r.last = last == null ? null : last.clone();
      return r;
    }
  }

  static final class G {
    int[] marks, wished;
    int paid;
    Integer going, ahead;
    int[] aheadMarks;

    boolean had() {
      for (int i = 0; i < 3; i++) if (wished[i] != 3 && wished[i] != marks[i]) return false;
      return true;
    }

    G same() {
      G g = new G();
      g.marks = marks.clone();
      g.wished = wished.clone();
      g.paid = paid;
      g.going = going;
      g.ahead = ahead;
      g.aheadMarks = aheadMarks;
      return g;
    }

    G fresh(int[] as) {
      G g = new G();
      g.marks = as.clone();
      g.wished = wished.clone();
      return g;
    }
  }

  static final class H {
    List<R> rooms = new ArrayList<>();
    List<G> guests = new ArrayList<>();
    List<int[]> trials = new ArrayList<>();
    int number;

    H same() {
      H h = new H();
      for (R r : rooms) h.rooms.add(r.same());
      for (G g : guests) h.guests.add(g.same());
      for (int[] t : trials) h.trials.add(t.clone());
      h.number = number;
      return h;
    }

    H fresh() {
      H h = new H();
      for (R r : rooms) h.rooms.add(r.fresh());
      return h;
    }

    int sleepers(int room, G but) {
      int n = 0;
      for (G g : guests) if (g != but && g.going != null && g.going == room) n++;
      return n;
    }

    int pass() {
      List<int[]> mornings = new ArrayList<>();
      for (G g : guests) mornings.add(g.going == null ? g.marks : morning(g));
      Set<Integer> slept = new HashSet<>();
      int many = 0;
      for (int i = 0; i < guests.size(); i++) {
        G g = guests.get(i);
        if (g.going != null) {
          many++;
          g.paid += rooms.get(g.going).price;
          if (slept.add(g.going)) rooms.get(g.going).last = g.marks.clone();
        }
        g.ahead = g.going;
        g.aheadMarks = g.marks;
        g.going = null;
        g.marks = mornings.get(i);
      }
      number++;
      return many;
    }

    int[] morning(G g) {
      R r = rooms.get(g.going);
      int[] m = g.marks.clone();
      int table = r.table[m[r.mark]];
      if (r.kind == 'p') m[r.mark] = table;
      if (r.kind == 'h') m[r.mark] = r.last == null ? table : r.last[r.mark];
      if (r.kind == 't') {
        m[r.mark] = table;
        for (G o : guests) if (o != g && g.going.equals(o.going)) m[r.mark] = o.marks[r.mark];
      }
      if (r.kind == 'd' && number % 2 != 0) m[r.mark] = table;
      if (r.kind == 's') {
        int n = r.mark == 2 ? 0 : r.mark + 1;
        m[r.mark] = g.marks[n];
        m[n] = g.marks[r.mark];
      }
      if (r.kind == 'u') {
        m[r.mark] = table;
        if (g.going.equals(g.ahead)) m = g.aheadMarks.clone();
      }
      return m;
    }
  }

  private H h = new H();
  private H image;
  private final StringBuilder text = new StringBuilder();
  private List<Integer> told = new ArrayList<>();
  private final int[] refused = new int[7];

  private int no(int n) {
    refused[-n]++;
    return n;
  }

  private boolean room(int r) {
    return r >= 0 && r < h.rooms.size();
  }

  private boolean guest(int g) {
    return g >= 0 && g < h.guests.size();
  }

  private static boolean state(int s) {
    return s >= 0 && s <= 26;
  }

  static int[] marks(int s) {
    return new int[] {s % 3, s / 3 % 3, s / 9};
  }

  static int number(int[] m) {
    return m[0] + 3 * m[1] + 9 * m[2];
  }

  public int letter(int c) {
    if (c < 0) return no(-4);
    if (c > 255 || text.length() == 64) return no(-6);
    text.append((char) c);
    return text.length();
  }

  private static final Pattern STATEMENT = Pattern.compile("r([phtdfsu])([0-9])([0-9])([0-9])([0-9])([0-9])([0-9]{1,2});|g([0-9])([0-9])([0-9])([0-9])([0-9])([0-9]);");

  public int inn() {
    String t = text.toString();
    text.setLength(0);
    Pattern all = Pattern.compile("(?:" + STATEMENT.pattern() + ")+");
    Matcher m = all.matcher(t);
    if (!m.matches()) return -1000 - firstWrong(all, t);
    H now = h.same();
    m = STATEMENT.matcher(t);
    int n = 0;
    while (m.find()) {
      if (!add(now, m)) return -2000 - m.start();
      n++;
    }
    h = now;
    return n;
  }

  private static int firstWrong(Pattern all, String t) {
    for (int end = 1; end <= t.length(); end++) {
      Matcher m = all.matcher(t.substring(0, end));
      if (!m.matches() && !m.hitEnd()) return end - 1;
    }
    return t.length();
  }

  private static boolean add(H now, Matcher m) {
    if (m.group(1) != null) {
      R r = new R();
      r.kind = m.group(1).charAt(0);
      r.mark = Integer.parseInt(m.group(2));
      boolean fine = r.mark < 3;
      for (int i = 0; i < 3; i++) {
        r.table[i] = Integer.parseInt(m.group(3 + i));
        fine &= r.table[i] < 3;
      }
      r.beds = Integer.parseInt(m.group(6));
      r.price = Integer.parseInt(m.group(7));
      now.rooms.add(r);
      return fine && (r.beds == 1 || r.beds == 2) && now.rooms.size() <= 6;
    }
    G g = new G();
    g.marks = new int[3];
    g.wished = new int[3];
    boolean fine = true;
    for (int i = 0; i < 3; i++) {
      g.marks[i] = Integer.parseInt(m.group(8 + i));
      g.wished[i] = Integer.parseInt(m.group(11 + i));
      fine &= g.marks[i] < 3 && g.wished[i] < 4;
    }
    now.guests.add(g);
    return fine && now.guests.size() <= 5;
  }

  public int room(int room, int what) {
    if (!room(room)) return no(-1);
    R r = h.rooms.get(room);
    if (what == 0) return "phtdfsu".indexOf(r.kind);
    if (what == 1) return r.mark;
    if (what >= 2 && what <= 4) return r.table[what - 2];
    if (what == 5) return r.beds;
    if (what == 6) return r.price;
    if (what == 7) return r.last == null ? -9 : number(r.last);
    return no(-2);
  }

  public int guest(int guest, int what) {
    if (!guest(guest)) return no(-1);
    G g = h.guests.get(guest);
    if (what == 0) return number(g.marks);
    if (what >= 1 && what <= 3) return g.wished[what - 1];
    if (what == 4) return g.had() ? 1 : 0;
    if (what == 5) return g.paid;
    if (what == 6) return g.going == null ? -9 : g.going;
    if (what == 7) return g.ahead == null ? -9 : g.ahead;
    return no(-2);
  }

  public int sleep(int guest, int room) {
    if (!guest(guest) || !room(room)) return no(-1);
    G g = h.guests.get(guest);
    int taken = h.sleepers(room, g);
    int beds = h.rooms.get(room).beds;
    if (taken >= beds) return no(-3);
    g.going = room;
    return beds - taken - 1;
  }

  public int stay(int guest) {
    if (!guest(guest)) return no(-1);
    G g = h.guests.get(guest);
    int was = g.going == null ? -9 : g.going;
    g.going = null;
    return was;
  }

  public int night() {
    return h.pass();
  }

  private int alone(int from, int firstNumber, List<Integer> row) {
    H in = h.fresh();
    in.number = firstNumber;
    G g = new G();
    g.marks = marks(from);
    in.guests.add(g);
    for (int r : row) {
      g.going = r;
      in.pass();
    }
    return number(g.marks);
  }

  public int makes(int room, int state, int number) {
    if (!room(room) || !state(state)) return no(-1);
    if (number < 0) return no(-4);
    if (number > 99) return no(-6);
    return alone(state, number, List.of(room));
  }

  private void rows(int length, List<Integer> so, List<List<Integer>> into) {
    if (so.size() == length) {
      into.add(new ArrayList<>(so));
      return;
    }
    for (int r = 0; r < h.rooms.size(); r++) {
      so.add(r);
      rows(length, so, into);
      so.remove(so.size() - 1);
    }
  }

  private List<List<Integer>> rows(int from, int to) {
    List<List<Integer>> all = new ArrayList<>();
    for (int n = from; n <= to; n++) rows(n, new ArrayList<>(), all);
    return all;
  }

  private int cost(List<Integer> row) {
    int sum = 0;
    for (int r : row) sum += h.rooms.get(r).price;
    return sum;
  }

  private List<Integer> best(int state, int guest, boolean cheap) {
    List<Integer> best = null;
    for (List<Integer> row : rows(0, 4)) {
      if (best != null && !(cheap && cost(row) < cost(best))) continue;
      if (h.guests.get(guest).fresh(marks(alone(state, 0, row))).had()) best = row;
    }
    return best;
  }

  public int fewest(int state, int guest) {
    if (!state(state) || !guest(guest)) return no(-1);
    List<Integer> row = best(state, guest, false);
    return row == null ? -9 : row.size();
  }

  public int cheapest(int state, int guest) {
    if (!state(state) || !guest(guest)) return no(-1);
    List<Integer> row = best(state, guest, true);
    return row == null ? -9 : cost(row);
  }

  public int rowOf(int state, int guest, int what, int i) {
    if (!state(state) || !guest(guest)) return no(-1);
    if (what != 0 && what != 1) return no(-2);
    if (i < 0) return no(-4);
    List<Integer> row = best(state, guest, what == 1);
    return row == null || i >= row.size() ? -9 : row.get(i);
  }

  public int becomes(int state, int n) {
    if (!state(state)) return no(-1);
    if (n < 0) return no(-4);
    if (n > 3) return no(-6);
    Set<Integer> seen = new HashSet<>();
    for (List<Integer> row : rows(0, n)) seen.add(alone(state, 0, row));
    return seen.size();
  }

  public int both(int one, int other) {
    if (!guest(one) || !guest(other) || one == other) return no(-1);
    H in = h.fresh();
    G a = h.guests.get(Math.min(one, other));
    G b = h.guests.get(Math.max(one, other));
    in.guests.add(a.fresh(a.marks));
    in.guests.add(b.fresh(b.marks));
    for (int n = 0; n <= 2; n++) if (both(in, n)) return n;
    return -9;
  }

  private static boolean both(H in, int nights) {
    if (nights == 0) return in.guests.get(0).had() && in.guests.get(1).had();
    for (int a = 0; a < in.rooms.size(); a++) {
      for (int b = 0; b < in.rooms.size(); b++) {
        if (a == b && in.rooms.get(a).beds == 1) continue;
        H then = in.same();
        then.guests.get(0).going = a;
        then.guests.get(1).going = b;
        then.pass();
        if (both(then, nights - 1)) return true;
      }
    }
    return false;
  }

  private List<Integer> change(List<Integer> row) {
    List<Integer> all = new ArrayList<>();
    for (int s = 0; s < 27; s++) all.add(alone(s, 0, row));
    return all;
  }

  private int least(Predicate<List<Integer>> wanted) {
    for (List<Integer> row : rows(1, 3)) if (wanted.test(change(row))) return row.size();
    return -9;
  }

  public int asWent() {
    List<Integer> same = change(List.of());
    return least(same::equals);
  }

  public int alike() {
    return least(c -> new HashSet<>(c).size() == 1);
  }

  private int changes(int n, int without) {
    Set<List<Integer>> all = new HashSet<>();
    for (List<Integer> row : rows(0, n)) if (!row.contains(without)) all.add(change(row));
    return all.size();
  }

  public int changes(int n) {
    if (n < 0) return no(-4);
    if (n > 2) return no(-6);
    return changes(n, -1);
  }

  public int needed() {
    int all = changes(2, -1);
    int bits = 0;
    for (int r = 0; r < h.rooms.size(); r++) if (changes(2, r) < all) bits += 1 << r;
    return bits;
  }

  public int was(int from, int to, int n, int what) {
    if (!state(from) || !state(to)) return no(-1);
    if (what != 0 && what != 1) return no(-2);
    if (n < 1) return no(-4);
    if (n > 3) return no(-6);
    Set<Integer> in = null;
    int many = 0;
    for (List<Integer> row : rows(n, n)) {
      if (alone(from, 0, row) != to) continue;
      many++;
      if (in == null) in = new HashSet<>(row);
      else in.retainAll(row);
    }
    if (what == 0) return many;
    int bits = 0;
    if (in != null) for (int r : in) bits += 1 << r;
    return bits;
  }

  public int trial(int from, int to) {
    if (!state(from) || !state(to)) return no(-1);
    if (h.trials.size() == 6) return no(-6);
    h.trials.add(new int[] {from, to});
    return h.trials.size();
  }

  private boolean strange(int may) {
    for (int b = 0; b < 32; b++) if ((may >>> b & 1) == 1 && !room(b)) return true;
    return false;
  }

  private List<Integer> fitting(int may) {
    List<Integer> fit = new ArrayList<>();
    for (int r = 0; r < h.rooms.size(); r++) {
      boolean fits = (may >>> r & 1) == 1;
      for (int[] t : h.trials) fits &= alone(t[0], 0, List.of(r)) == t[1];
      if (fits) fit.add(r);
    }
    return fit;
  }

  public int fits(int may) {
    if (strange(may)) return no(-1);
    int bits = 0;
    for (int r : fitting(may)) bits += 1 << r;
    return bits;
  }

  public int next(int may) {
    if (strange(may)) return no(-1);
    List<Integer> fit = fitting(may);
    if (fit.size() < 2) return -9;
    int best = 0, most = 0;
    for (int s = 0; s < 27; s++) {
      Set<Integer> seen = new HashSet<>();
      for (int r : fit) seen.add(alone(s, 0, List.of(r)));
      if (seen.size() > most) {
        most = seen.size();
        best = s;
      }
    }
    return best;
  }

  private boolean tells(List<Integer> fit, int a, int b) {
    Set<List<Integer>> seen = new HashSet<>();
    for (int r : fit) seen.add(List.of(alone(a, 0, List.of(r)), alone(b, 0, List.of(r))));
    return seen.size() == fit.size();
  }

  public int sure(int may) {
    if (strange(may)) return no(-1);
    List<Integer> fit = fitting(may);
    if (fit.size() < 2) return 0;
    for (int a = 0; a < 27; a++) if (tells(fit, a, a)) return 1;
    for (int a = 0; a < 27; a++) for (int b = 0; b < 27; b++) if (tells(fit, a, b)) return 2;
    return -9;
  }

  private int heirs(int room, List<Integer> order) {
    H in = h.fresh();
    for (G g : h.guests) in.guests.add(g.fresh(g.marks));
    for (int g : order) {
      in.guests.get(g).going = room;
      in.pass();
    }
    int had = 0;
    for (int g : order) if (in.guests.get(g).had()) had++;
    return had;
  }

  public int heirs(int room, int n, int order) {
    if (!room(room)) return no(-1);
    if (h.rooms.get(room).kind != 'h') return no(-2);
    if (n < 0) return no(-4);
    if (n > 5) return no(-6);
    List<Integer> list = new ArrayList<>();
    for (int i = 0, rest = order; i < n; i++, rest /= 10) {
      if (!guest(rest % 10) || list.contains(rest % 10)) return no(-1);
      list.add(rest % 10);
    }
    return heirs(room, list);
  }

  private void orders(List<Integer> so, List<List<Integer>> into) {
    if (so.size() == h.guests.size()) into.add(new ArrayList<>(so));
    for (int g = 0; g < h.guests.size(); g++) {
      if (so.contains(g)) continue;
      so.add(g);
      orders(so, into);
      so.remove(so.size() - 1);
    }
  }

  public int bestOrder(int room, int i) {
    if (!room(room)) return no(-1);
    if (h.rooms.get(room).kind != 'h') return no(-2);
    if (i < -1) return no(-4);
    List<List<Integer>> all = new ArrayList<>();
    orders(new ArrayList<>(), all);
    List<Integer> best = all.get(0);
    for (List<Integer> order : all) if (heirs(room, order) > heirs(room, best)) best = order;
    if (i == -1) return heirs(room, best);
    return i < best.size() ? best.get(i) : -9;
  }

  public int week(int n, int z) {
    if (n < 1) return no(-4);
    if (n > 14) return no(-6);
    if (h.rooms.isEmpty()) return no(-3);
    H in = h.same();
    for (G g : in.guests) {
      g.going = null;
      g.paid = 0;
    }
    for (int i = 0; i < n; i++) {
      for (G g : in.guests) {
        z = (int) (z * 1664525L + 1013904223L);
        int drawn = (int) ((z & 0x7fffffffL) / 256 % in.rooms.size());
        if (in.sleepers(drawn, g) < in.rooms.get(drawn).beds) g.going = drawn;
      }
      in.pass();
    }
    int sum = 0;
    for (G g : in.guests) sum += g.paid;
    return sum;
  }

  public int row(int v) {
    if (v < 0) return no(-4);
    if (v > 9 || told.size() == 6) return no(-6);
    told.add(v);
    return told.size();
  }

  public int judge(int guest) {
    if (!guest(guest)) return no(-1);
    List<Integer> row = told;
    told = new ArrayList<>();
    for (int i = 0; i < row.size(); i++) if (!room(row.get(i))) return i;
    G g = h.guests.get(guest);
    return g.fresh(marks(alone(number(g.marks), 0, row))).had() ? -9 : row.size();
  }

  public int image() {
    image = h.same();
    return h.number;
  }

  public int on() {
    if (image == null) return no(-3);
    h = image.same();
    return h.number;
  }

  public int count(int what) {
    int had = 0, paid = 0;
    for (G g : h.guests) {
      if (g.had()) had++;
      paid += g.paid;
    }
    int[] first = {h.rooms.size(), h.guests.size(), h.number, had, h.trials.size(), told.size(), text.length(), paid};
    if (what >= 0 && what < 8) return first[what];
    return what >= 11 && what <= 16 ? refused[what - 10] : -9;
  }
}
