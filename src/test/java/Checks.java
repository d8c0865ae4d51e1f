import java.util.function.ToIntFunction;

/** Counts answers that are not as due. */
final class Checks {
  private final String name;
  private int made;
  private int wrong;

  Checks(String name) {
    this.name = name;
  }

  void due(String call, int got, int want) {
    made++;
    if (got == want) return;
    wrong++;
    System.out.println(name + ": " + call + " answered " + got + ", due is " + want);
  }

  void holds(String what, boolean so) {
    due(what, so ? 1 : 0, 1);
  }

  /** "the call answers the number ...; nothing changes but how many there were"; a house has 512 calls, so one for each. */
  void refused(String what, RoomsThatChange x, ToIntFunction<RoomsThatChange> call, int want) {
    String before = seen(x);
    int[] counted = refusals(x);
    due(what, call.applyAsInt(x), want);
    holds(what + ": nothing changes", seen(x).equals(before));
    counted[-want - 1]++;
    sameRefusals(what, x, counted);
  }

  /** An answer of what is only thought of or looked at: nothing changes at all. */
  void inMind(String what, RoomsThatChange x, ToIntFunction<RoomsThatChange> call, int want) {
    String before = seen(x);
    int[] counted = refusals(x);
    due(what, call.applyAsInt(x), want);
    holds(what + ": nothing changes", seen(x).equals(before));
    sameRefusals(what, x, counted);
  }

  private void sameRefusals(String what, RoomsThatChange x, int[] counted) {
    int[] now = refusals(x);
    for (int i = 0; i < now.length; i++) due(what + ": refusals -" + (i + 1), now[i], counted[i]);
  }

  void end() {
    System.out.println(name + ": " + made + " answers, " + wrong + " not as due");
    if (wrong > 0) System.exit(1);
  }

  static int[] refusals(RoomsThatChange x) {
    int[] all = new int[6];
    for (int i = 0; i < all.length; i++) all[i] = x.count(11 + i);
    return all;
  }

  /** All that can be looked at of a house without a refusal, but for the refusals. */
  static String seen(RoomsThatChange x) {
    StringBuilder all = new StringBuilder();
    for (int what = 0; what <= 7; what++) all.append(x.count(what)).append(' ');
    for (int room = 0; room < x.count(0); room++) {
      for (int what = 0; what <= 7; what++) all.append(x.room(room, what)).append(' ');
    }
    for (int guest = 0; guest < x.count(1); guest++) {
      for (int what = 0; what <= 7; what++) all.append(x.guest(guest, what)).append(' ');
    }
    return all.append(x.fits((1 << x.count(0)) - 1)).toString();
  }

  static int tell(RoomsThatChange x, String text) {
    for (int i = 0; i < text.length(); i++) x.letter(text.charAt(i));
    return x.inn();
  }

  /** Each text becomes an INN, so that more than 64 letters can be told. */
  static RoomsThatChange house(String... texts) {
    RoomsThatChange x = new RoomsThatChange();
    for (String text : texts) {
      if (tell(x, text) < 1) throw new IllegalStateException("no INN: " + text);
    }
    return x;
  }

  /** One slept, one is to go, one TRIAL, one byte, one letter; the NIGHT is odd and somebody was LAST. */
  static RoomsThatChange lived() {
    RoomsThatChange x = house("rh012023;rp112015;ru212011;g000133;g110233;g222333;");
    x.sleep(0, 0);
    x.sleep(1, 1);
    x.sleep(2, 2);
    x.night();
    x.sleep(1, 0);
    x.sleep(2, 1);
    x.trial(0, 1);
    x.row(1);
    x.letter('r');
    return x;
  }
}
