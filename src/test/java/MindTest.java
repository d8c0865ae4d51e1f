/** Promises 10 to 25: what is only thought of. */
public final class MindTest {
  private static final Checks C = new Checks("MindTest");

  public static void main(String[] args) {
    fewest();
    cheapest();
    rowOf();
    rowsByOneself();
    becomes();
    both();
    bothByKinds();
    asWent();
    alike();
    changes();
    needed();
    was();
    trialAndFits();
    next();
    sure();
    heirs();
    bestOrder();
    C.end();
  }

  /** Promise 10. */
  private static void fewest() {
    RoomsThatChange x = Checks.house("rp012015;rd112011;g000233;g000323;g000332;g000333;");
    C.due("none needed", x.fewest(2, 0), 0);
    C.due("any", x.fewest(13, 3), 0);
    C.due("one", x.fewest(1, 0), 1);
    C.due("two", x.fewest(0, 0), 2);
    C.due("by the odd nights alone", x.fewest(0, 1), 4);
    C.due("of these one", x.fewest(3, 1), 2);
    C.due("never", x.fewest(0, 2), -9);
    C.due("no ROOMS", Checks.house("g000233;").fewest(0, 0), -9);
    C.due("no ROOMS, none needed", Checks.house("g000233;").fewest(2, 0), 0);
    C.due("five would be too many", Checks.house("rd012015;rd012015;g000223;").fewest(0, 0), -9);
    C.due("no guest", x.fewest(0, 4), -1);
    C.due("guest below", x.fewest(0, -1), -1);
    C.due("no state", x.fewest(27, 0), -1);
    C.due("state below", x.fewest(-1, 0), -1);
    C.due("-9 is no refusal", x.count(11), 4);
    x.night();
    C.due("NIGHT 0 whatever the night", x.fewest(0, 1), 4);
  }

  /** Promise 11. */
  private static void cheapest() {
    RoomsThatChange x = Checks.house("rp022219;rp012012;rf000010;g000233;g000332;");
    C.due("two cheap ones", x.cheapest(0, 0), 4);
    C.due("one cheap one", x.cheapest(1, 0), 2);
    C.due("nothing to pay", x.cheapest(2, 0), 0);
    C.due("never", x.cheapest(0, 1), -9);
    RoomsThatChange y = Checks.house("rp0222190;rd012011;g000233;");
    C.due("four nights", y.cheapest(0, 0), 4);
    C.due("fewest is dearer", y.fewest(0, 0), 1);
    RoomsThatChange z = Checks.house("rd012011;rp0000199;g000133;");
    C.due("the first night is paid too", z.cheapest(0, 0), 2);
    C.due("no guest", x.cheapest(0, 2), -1);
    C.due("no state", x.cheapest(27, 0), -1);
    C.due("state below", x.cheapest(-1, 0), -1);
    C.due("-1 told", x.count(11), 3);
  }

  /** Promise 12. */
  private static void rowOf() {
    RoomsThatChange x = Checks.house("rf000010;rp022219;rp022218;rp012012;rp012012;g000233;g000332;");
    row("first of the shortest", x, 0, 0, 0, 1);
    row("first of the cheapest", x, 0, 0, 1, 3, 3);
    row("none needed", x, 2, 0, 0);
    row("none needed, cheap", x, 2, 0, 1);
    row("never", x, 0, 1, 0);
    row("never, cheap", x, 0, 1, 1);
    row("shortest of the cheapest", Checks.house("rp012012;rp222219;rp022214;g000233;"), 0, 0, 1, 2);
    row("longer, cheaper", Checks.house("rp012012;rp222219;rp022215;g000233;"), 0, 0, 1, 0, 0);
    row("first by the first ROOM", Checks.house("rp100011;rp012011;rp111111;g000113;"), 0, 0, 0, 1, 2);
    row("four", Checks.house("rd012013;rf000012;g000233;"), 0, 0, 1, 1, 0, 1, 0);
    row("four by numbers", Checks.house("rd012013;rf000012;g000233;"), 0, 0, 0, 0, 0, 0, 0);
    C.due("no guest", x.rowOf(0, 2, 0, 0), -1);
    C.due("no state", x.rowOf(27, 0, 0, 0), -1);
    C.due("-1 comes first", x.rowOf(27, 0, 2, -1), -1);
    C.due("what above", x.rowOf(0, 0, 2, 0), -2);
    C.due("what below", x.rowOf(0, 0, -1, 0), -2);
    C.due("-2 comes first", x.rowOf(0, 0, 2, -1), -2);
    C.due("i below", x.rowOf(0, 0, 0, -1), -4);
    C.due("i far above", x.rowOf(0, 0, 0, Integer.MAX_VALUE), -9);
  }

  private static void row(String name, RoomsThatChange x, int state, int guest, int what, int... rooms) {
    for (int i = 0; i < rooms.length; i++) C.due(name + " " + i, x.rowOf(state, guest, what, i), rooms[i]);
    C.due(name + " has no more", x.rowOf(state, guest, what, rooms.length), -9);
  }

  /** HEIR by himself, UNDO by his own row, TWO alone. */
  private static void rowsByOneself() {
    C.due("HEIR: back again", Checks.house("rh012011;rp122211;g000023;").fewest(0, 0), 1);
    C.due("HEIR has 2 from 1 alone", Checks.house("rh012011;g000233;").fewest(0, 0), -9);
    C.due("HEIR from 2: 0", Checks.house("rh012011;g000033;").fewest(2, 0), 1);
    C.due("HEIR with another between", Checks.house("rh012011;rs000011;g000103;").becomes(3, 3), 5);
    C.due("UNDO goes no further", Checks.house("ru012011;g000233;").fewest(0, 0), -9);
    row("UNDO with a night between", Checks.house("ru012011;rf000011;g000233;"), 0, 0, 0, 0, 1, 0);
    C.due("TWO alone", Checks.house("rt012021;g000233;").fewest(0, 0), 2);
    RoomsThatChange x = Checks.house("rh012011;g200233;");
    x.sleep(0, 0);
    x.night();
    C.due("nobody was LAST, in mind", x.fewest(1, 0), 1);
  }

  /** Promise 13. */
  private static void becomes() {
    RoomsThatChange x = Checks.house("rp012011;rp112011;");
    int[] due = {1, 3, 6, 8};
    for (int n = 0; n <= 3; n++) C.due("becomes " + n, x.becomes(0, n), due[n]);
    C.due("itself", new RoomsThatChange().becomes(26, 3), 1);
    C.due("nothing else", Checks.house("rf000011;").becomes(5, 3), 1);
    C.due("day", Checks.house("rd012011;").becomes(0, 1), 1);
    C.due("day in the second", Checks.house("rd012011;").becomes(0, 2), 2);
    C.due("no state", x.becomes(27, 0), -1);
    C.due("state below", x.becomes(-1, 0), -1);
    C.due("-1 comes first", x.becomes(27, -1), -1);
    C.due("below", x.becomes(0, -1), -4);
    C.due("above", x.becomes(0, 4), -6);
  }

  /** Promise 14. */
  private static void both() {
    RoomsThatChange x = Checks.house("rp012021;g000133;g100233;g000233;g100133;");
    C.due("one night, two beds", x.both(0, 1), 1);
    C.due("the other way", x.both(1, 0), 1);
    C.due("never both", x.both(0, 2), -9);
    C.due("none needed by one alone", x.both(0, 3), -9);
    C.due("none needed", Checks.house("g000033;g100133;").both(0, 1), 0);
    C.due("no ROOMS", Checks.house("g000033;g100033;").both(0, 1), -9);
    C.due("one bed", Checks.house("rp012011;g000133;g100233;").both(0, 1), -9);
    C.due("a bed elsewhere", Checks.house("rp012011;rp012011;g000133;g100233;").both(0, 1), 1);
    C.due("two nights", Checks.house("rp012021;g000233;g100033;").both(0, 1), 2);
    C.due("three would be too many", Checks.house("rp012021;rd212011;g000231;g100033;").both(0, 1), -9);
    C.due("by turns in one bed", Checks.house("rp012011;rf000011;g000133;g100233;").both(0, 1), 2);
    C.due("no such", x.both(0, 4), -1);
    C.due("no such one", x.both(4, 0), -1);
    C.due("below", x.both(-1, 0), -1);
    C.due("one twice", x.both(1, 1), -1);
    C.due("in mind", x.guest(0, 0), 0);
    C.due("in mind, the night", x.count(2), 0);
  }

  private static void bothByKinds() {
    C.due("TWO", Checks.house("rt000021;g100233;g200133;").both(0, 1), 1);
    C.due("TWO with one bed", Checks.house("rt000011;rf000011;g100233;g200133;").both(0, 1), -9);
    C.due("TWO: one alone", Checks.house("rt012021;rf000011;g000133;g000033;").both(0, 1), 1);
    C.due("DAY in NIGHT 1", Checks.house("rd012021;g000133;g100233;").both(0, 1), 2);
    C.due("HEIR of the other", Checks.house("rh000011;rf000011;g100033;g200133;").both(0, 1), 2);
    C.due("HEIR of the lesser", Checks.house("rh000021;g100133;g200133;").both(0, 1), 2);
    C.due("the lesser, told second", Checks.house("rh000021;g100133;g200133;").both(1, 0), 2);
    C.due("never of the greater", Checks.house("rh000021;g100233;g200233;").both(0, 1), -9);
    C.due("nor told second", Checks.house("rh000021;g100233;g200233;").both(1, 0), -9);
    C.due("UNDO goes no further", Checks.house("ru012021;g000233;g000233;").both(0, 1), -9);
    C.due("PLAIN does", Checks.house("rp012021;g000233;g000233;").both(0, 1), 2);
    RoomsThatChange x = Checks.house("ru012021;g000233;g000233;");
    x.sleep(0, 0);
    x.sleep(1, 0);
    x.night();
    C.due("nobody slept in the NIGHT ahead, in mind", x.both(0, 1), 1);
    RoomsThatChange y = Checks.house("rh012021;g000233;g000233;");
    y.sleep(0, 0);
    y.sleep(1, 0);
    y.night();
    C.due("nobody was LAST, in mind, as they are", y.both(0, 1), 1);
  }

  /** Promise 15. */
  private static void asWent() {
    C.due("no ROOMS", new RoomsThatChange().asWent(), -9);
    C.due("FREE", Checks.house("rf000011;").asWent(), 1);
    C.due("DAY in NIGHT 0", Checks.house("rd000011;").asWent(), 1);
    C.due("a table of no change", Checks.house("rp001211;").asWent(), 1);
    C.due("SWITCH", Checks.house("rs000011;").asWent(), 2);
    C.due("UNDO", Checks.house("ru000011;").asWent(), 2);
    C.due("HEIR by himself", Checks.house("rh000011;").asWent(), 2);
    C.due("round", Checks.house("rp012011;").asWent(), 3);
    C.due("round and back", Checks.house("rp012011;rp020111;").asWent(), 2);
    C.due("never", Checks.house("rp000011;").asWent(), -9);
    C.due("not each STATE", Checks.house("rp001011;rt200011;").asWent(), -9);
  }

  /** Promise 16. */
  private static void alike() {
    C.due("no ROOMS", new RoomsThatChange().alike(), -9);
    C.due("three", Checks.house("rp000011;rp122211;rt211111;").alike(), 3);
    C.due("two marks alone", Checks.house("rp000011;rp122211;rf000011;").alike(), -9);
    C.due("day: odd", Checks.house("rp000011;rd122211;rt211111;").alike(), 3);
    C.due("not at one go", Checks.house("rd000011;rd122211;rt211111;").alike(), -9);
    C.due("only by two nights", Checks.house("rp011011;rp122211;rp211111;").alike(), -9);
  }

  /** Promise 17. */
  private static void changes() {
    RoomsThatChange x = Checks.house("rp012011;rp112011;");
    int[] due = {1, 3, 6};
    for (int n = 0; n <= 2; n++) C.due("changes " + n, x.changes(n), due[n]);
    C.due("no ROOMS", new RoomsThatChange().changes(2), 1);
    C.due("the same twice", Checks.house("rp012011;rt012029;").changes(2), 3);
    C.due("round and back", Checks.house("rp012011;rp020111;").changes(2), 3);
    C.due("day", Checks.house("rd012011;").changes(1), 1);
    C.due("day in the second", Checks.house("rd012011;").changes(2), 2);
    C.due("some the same", Checks.house("rp010011;rp001111;").changes(2), 3);
    C.due("the order tells", Checks.house("rp012011;rs000011;").changes(2), 6);
    C.due("undone", Checks.house("ru012011;").changes(2), 2);
    C.due("below", x.changes(-1), -4);
    C.due("above", x.changes(3), -6);
  }

  /** Promise 18. */
  private static void needed() {
    C.due("no ROOMS", new RoomsThatChange().needed(), 0);
    C.due("one", Checks.house("rp012011;").needed(), 1);
    C.due("FREE is not", Checks.house("rf000011;rp012011;").needed(), 2);
    C.due("neither of the same", Checks.house("rp012011;rt012029;").needed(), 0);
    C.due("round and back: neither", Checks.house("rp012011;rp020111;").needed(), 0);
    C.due("both", Checks.house("rp012011;rp112011;").needed(), 3);
    C.due("day", Checks.house("rd012011;rp012011;rp112011;").needed(), 6);
  }

  /** Promise 19. */
  private static void was() {
    RoomsThatChange x = Checks.house("rp012011;rf000011;");
    was("one round", x, 0, 1, 1, 1, 1);
    was("FREE", x, 0, 0, 1, 1, 2);
    was("either way", x, 0, 1, 2, 2, 3);
    was("two rounds", x, 0, 2, 2, 1, 1);
    was("all round or not at all", x, 0, 0, 3, 2, 0);
    was("one of three", x, 0, 1, 3, 3, 3);
    was("never", x, 0, 9, 3, 0, 0);
    was("no ROOMS", new RoomsThatChange(), 0, 0, 1, 0, 0);
    was("day", Checks.house("rd012011;rf000011;"), 0, 1, 2, 2, 1);
    was("heir", Checks.house("rh012011;"), 0, 0, 2, 1, 1);
    C.due("no from", x.was(27, 0, 1, 0), -1);
    C.due("no to", x.was(0, 27, 1, 0), -1);
    C.due("below", x.was(-1, 0, 1, 0), -1);
    C.due("to below", x.was(0, -1, 1, 0), -1);
    C.due("-1 comes first", x.was(27, 0, 0, 2), -1);
    C.due("what above", x.was(0, 0, 1, 2), -2);
    C.due("what below", x.was(0, 0, 1, -1), -2);
    C.due("-2 comes first", x.was(0, 0, 0, 2), -2);
    C.due("n below", x.was(0, 0, 0, 0), -4);
    C.due("n above", x.was(0, 0, 4, 1), -6);
  }

  private static void was(String name, RoomsThatChange x, int from, int to, int n, int many, int bits) {
    C.due(name + ", how many", x.was(from, to, n, 0), many);
    C.due(name + ", in all", x.was(from, to, n, 1), bits);
  }

  /** Promises 20 and 21. */
  private static void trialAndFits() {
    RoomsThatChange x = Checks.house("rp012011;rp010011;rf000011;rd012011;rh012011;rt012021;", "g200333;");
    x.sleep(0, 4);
    x.night();
    C.due("all", x.fits(63), 63);
    C.due("none asked", x.fits(0), 0);
    C.due("trial", x.trial(0, 1), 1);
    C.due("those that make 1 of 0, nobody LAST, NIGHT 0", x.fits(63), 1 + 2 + 16 + 32);
    C.due("of some", x.fits(14), 2);
    C.due("second", x.trial(1, 2), 2);
    C.due("both trials", x.fits(63), 1 + 16 + 32);
    C.due("third", x.trial(26, 26), 3);
    C.due("none", x.fits(63), 0);
    C.due("bits above", x.fits(64), -1);
    C.due("bits above and below", x.fits(65), -1);
    C.due("sign", x.fits(Integer.MIN_VALUE), -1);
    C.due("all bits", x.fits(-1), -1);
    C.due("no from", x.trial(27, 0), -1);
    C.due("no to", x.trial(0, 27), -1);
    C.due("from below", x.trial(-1, 0), -1);
    C.due("to below", x.trial(0, -1), -1);
    for (int i = 4; i <= 6; i++) C.due("six at most", x.trial(0, 0), i);
    C.due("a seventh", x.trial(0, 0), -6);
    C.due("-1 comes first", x.trial(27, 0), -1);
    C.due("trials", x.count(4), 6);
    C.due("no ROOMS", new RoomsThatChange().fits(0), 0);
    C.due("no ROOMS, bits", new RoomsThatChange().fits(1), -1);
  }

  /** Promise 22. */
  private static void next() {
    RoomsThatChange x = Checks.house("rp012011;rp010011;rf000011;");
    C.due("1 becomes 2, 0, 1", x.next(7), 1);
    C.due("of several the least", x.next(5), 0);
    C.due("2 becomes 0 of both", x.next(3), 1);
    C.due("one alone", x.next(2), -9);
    C.due("none", x.next(0), -9);
    x.trial(2, 0);
    C.due("two fit", x.next(7), 1);
    C.due("FREE does not fit", x.next(6), -9);
    x.trial(1, 2);
    C.due("one fits", x.next(7), -9);
    C.due("bits above", x.next(8), -1);
    C.due("sign", x.next(-1), -1);
    C.due("no difference: the least", Checks.house("rp012011;rt012011;").next(3), 0);
    C.due("only mark 2 tells", Checks.house("rp200111;rf000011;").next(3), 9);
  }

  /** Promise 23; any STATE may be tried, whoever is there. */
  private static void sure() {
    RoomsThatChange x = Checks.house("rf000011;rp011211;rp002211;rp001011;rp001011;rp112011;");
    C.due("none", x.sure(0), 0);
    C.due("one", x.sure(1), 0);
    C.due("two by one", x.sure(3), 1);
    C.due("three by two", x.sure(7), 2);
    C.due("four by three", x.sure(15), -9);
    C.due("the same", x.sure(24), -9);
    C.due("bits above", x.sure(64), -1);
    C.due("sign", x.sure(-1), -1);
    x.trial(0, 0);
    C.due("two fit", x.sure(7), 1);
    x.trial(1, 1);
    C.due("one fits", x.sure(7), 0);
  }

  /** Promise 24. */
  private static void heirs() {
    RoomsThatChange x = Checks.house("rh000011;rp000011;g100033;g200133;g000233;");
    C.due("all", x.heirs(0, 3, 210), 3);
    C.due("the lowest first", x.heirs(0, 2, 10), 2);
    C.due("the other way", x.heirs(0, 2, 1), 0);
    C.due("one", x.heirs(0, 1, 0), 1);
    C.due("the table for the first", x.heirs(0, 1, 1), 0);
    C.due("two of three", x.heirs(0, 3, 102), 2);
    C.due("none", x.heirs(0, 0, 0), 0);
    C.due("more digits than n", x.heirs(0, 1, 90), 1);
    C.due("no room", x.heirs(2, 3, 210), -1);
    C.due("room below", x.heirs(-1, 3, 210), -1);
    C.due("another KIND", x.heirs(1, -1, 0), -2);
    C.due("below", x.heirs(0, -1, 99), -4);
    C.due("above", x.heirs(0, 6, 99), -6);
    C.due("one that there is not", x.heirs(0, 1, 3), -1);
    C.due("one twice", x.heirs(0, 2, 11), -1);
    C.due("more than there are", x.heirs(0, 4, 210), -1);
    C.due("sign", x.heirs(0, 1, -1), -1);
    x.sleep(2, 0);
    x.night();
    C.due("nobody was LAST, in mind", x.heirs(0, 1, 0), 1);
    C.due("in mind", x.guest(0, 0), 1);
    C.due("five", Checks.house("rh012011;g000133;g000033;g000033;g000033;g000033;").heirs(0, 5, 43210), 5);
  }

  /** Promise 25. */
  private static void bestOrder() {
    RoomsThatChange x = Checks.house("rh000011;rp000011;g100033;g200133;g000233;");
    order("as they are", x, 0, 3, 0, 1, 2);
    RoomsThatChange y = Checks.house("rh000011;g000233;g100033;g200133;");
    order("another", y, 0, 3, 1, 2, 0);
    order("all the same", Checks.house("rf000011;rh000011;g000033;g000033;g000033;"), 1, 3, 0, 1, 2);
    order("none has it", Checks.house("rh000011;g000233;g000233;"), 0, 0, 0, 1);
    order("nobody", Checks.house("rh000011;"), 0, 0);
    order("five", Checks.house("rh000011;g000133;g100233;g200033;g000133;g100033;"), 0, 5, 2, 1, 0, 4, 3);
    C.due("no room", x.bestOrder(2, 0), -1);
    C.due("room below", x.bestOrder(-1, 0), -1);
    C.due("another KIND", x.bestOrder(1, -2), -2);
    C.due("below", x.bestOrder(0, -2), -4);
    C.due("far above", x.bestOrder(0, Integer.MAX_VALUE), -9);
    C.due("far below", x.bestOrder(0, Integer.MIN_VALUE), -4);
  }

  private static void order(String name, RoomsThatChange x, int room, int most, int... guests) {
    C.due(name + ", how many", x.bestOrder(room, -1), most);
    for (int i = 0; i < guests.length; i++) C.due(name + " " + i, x.bestOrder(room, i), guests[i]);
    C.due(name + " has no more", x.bestOrder(room, guests.length), -9);
  }
}
