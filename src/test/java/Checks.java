/** Counts answers that are not as due. */
final class Checks {
  private final String name;
  private int made;
  private int wrong;

  Checks(String name) {
    this.name = name;
  }

  void due(String call, int got, int want) {
    made++;
    if (got == want) return;
    wrong++;
    System.out.println(name + ": " + call + " answered " + got + ", due is " + want);
  }

  void holds(String what, boolean so) {
    due(what, so ? 1 : 0, 1);
  }

  void end() {
    System.out.println(name + ": " + made + " answers, " + wrong + " not as due");
    if (wrong > 0) System.exit(1);
  }

  static int tell(RoomsThatChange x, String text) {
    for (int i = 0; i < text.length(); i++) x.letter(text.charAt(i));
    return x.inn();
  }

  /** Each text becomes an INN, so that more than 64 letters can be told. */
  static RoomsThatChange house(String... texts) {
    RoomsThatChange x = new RoomsThatChange();
    for (String text : texts) {
      if (tell(x, text) < 1) throw new IllegalStateException("no INN: " + text);
    }
    return x;
  }
}
