/** Promises 1 to 9 and 26 to 31: what is told, what comes to pass, what is kept. */
public final class HouseTest {
  private static final Checks C = new Checks("HouseTest");

  public static void main(String[] args) {
    newObject();
    letter();
    innFaults();
    innComes();
    room();
    guest();
    sleepAndStay();
    night();
    kindsInNights();
    undoInNights();
    makes();
    week();
    weekDraws();
    rowAndJudge();
    image();
    count();
    C.end();
  }

  /** Promise 1. */
  private static void newObject() {
    RoomsThatChange x = new RoomsThatChange();
    for (int what = 0; what <= 7; what++) C.due("new count " + what, x.count(what), 0);
    for (int what = 11; what <= 16; what++) C.due("new count " + what, x.count(what), 0);
    C.due("no room", x.room(0, 0), -1);
    C.due("no guest", x.guest(0, 0), -1);
    C.due("no image", x.on(), -3);
    C.due("night of nobody", x.night(), 0);
    C.due("it counts all the same", x.count(2), 1);
  }

  /** Promise 2. */
  private static void letter() {
    RoomsThatChange x = new RoomsThatChange();
    C.due("least letter", x.letter(0), 1);
    C.due("greatest letter", x.letter(255), 2);
    C.due("below", x.letter(-1), -4);
    C.due("far below", x.letter(Integer.MIN_VALUE), -4);
    C.due("above", x.letter(256), -6);
    C.due("far above", x.letter(Integer.MAX_VALUE), -6);
    for (int i = 3; i <= 64; i++) C.due("letter " + i, x.letter('g'), i);
    C.due("the 65th", x.letter('g'), -6);
    C.due("below comes first", x.letter(-1), -4);
    C.due("letters", x.count(6), 64);
    C.due("-4", x.count(14), 3);
    C.due("-6", x.count(16), 3);
    C.due("fault", x.inn(), -1000);
    C.due("letters again", x.letter('g'), 1);
  }

  /** Promise 3. */
  private static void innFaults() {
    fault("", -1000);
    fault("x", -1000);
    fault(";", -1000);
    fault("R", -1000);
    fault("r", -1001);
    fault("rx", -1001);
    fault("rP012011;", -1001);
    fault("rp", -1002);
    fault("rpx", -1002);
    fault("rp0120", -1006);
    fault("rp01201", -1007);
    fault("rp01201;", -1007);
    fault("rp012011", -1008);
    fault("rp0120112", -1009);
    fault("rp01201123;", -1009);
    fault("rp0120112x", -1009);
    fault("g", -1001);
    fault("g00000;", -1006);
    fault("g000000", -1007);
    fault("g0000000;", -1007);
    fault("g000000;;", -1008);
    fault("g000000;g", -1009);
    fault("g000000; g000000;", -1008);
    fault("rp312011;", -2000);
    fault("rp0312011;", -2000);
    fault("rp031201;", -2000);
    fault("rp003011;", -2000);
    fault("rp000311;", -2000);
    fault("rp000001;", -2000);
    fault("rp000031;", -2000);
    fault("g300000;", -2000);
    fault("g030000;", -2000);
    fault("g003000;", -2000);
    fault("g000400;", -2000);
    fault("g000040;", -2000);
    fault("g000004;", -2000);
    fault("g000333;g000334;", -2008);
    fault("rp00001100;", -1009);
    fault("rp0000100;g000009;", -2010);
    fault("rp900011;g000000;x", -1017);
    fault("rp000011;rp000011;rp000011;rp000011;rp000011;rp000011;rp000011;", -2054);
    fault("g000333;g000333;g000333;g000333;g000333;g000333;", -2040);
    fault("g000333;g000333;g000333;g000333;g000333;g000333;r0000000;", -1049);
    fault("g000333;g000333;g000333;g000333;g000333;g000333;rp00001100;g0000", -1057);
  }

  private static void fault(String text, int want) {
    RoomsThatChange x = new RoomsThatChange();
    C.due("inn of '" + text + "'", Checks.tell(x, text), want);
    C.due("no rooms of it", x.count(0), 0);
    C.due("no guests of it", x.count(1), 0);
    C.due("no letters left", x.count(6), 0);
    for (int what = 11; what <= 16; what++) C.due("nothing is counted", x.count(what), 0);
  }

  private static void innComes() {
    RoomsThatChange x = new RoomsThatChange();
    C.due("two", Checks.tell(x, "rp0120199;g012321;"), 2);
    C.due("letters are no more", x.count(6), 0);
    C.due("empty behind it", x.inn(), -1000);
    C.due("three more", Checks.tell(x, "rf000020;rf000020;rf000020;"), 3);
    C.due("no room for the seventh", Checks.tell(x, "g000333;rf000020;rf000020;rf000020;"), -2026);
    C.due("nothing came", x.count(1), 1);
    C.due("two more", Checks.tell(x, "rf000020;rf000020;"), 2);
    C.due("rooms", x.count(0), 6);
    C.due("a seventh", Checks.tell(x, "rf000020;"), -2000);
    C.due("four more", Checks.tell(x, "g000333;g000333;g000333;g000333;"), 4);
    C.due("a sixth", Checks.tell(x, "g000333;"), -2000);
    C.due("guests", x.count(1), 5);
    C.due("64 letters", Checks.tell(new RoomsThatChange(),
        "g000333;g000333;g000333;g000333;g000333;rp000010;rp000010;rp000X"), -1063);
    C.due("seven statements", Checks.tell(new RoomsThatChange(),
        "g000333;g000333;g000333;g000333;g000333;rp0000110;rp0000199;"), 7);
  }

  /** Promise 4. */
  private static void room() {
    RoomsThatChange x = Checks.house("rp212017;rh0000205;rt1222299;", "rd001210;rf000010;rs100010;", "g000333;");
    int[] first = {0, 2, 1, 2, 0, 1, 7, -9};
    int[] second = {1, 0, 0, 0, 0, 2, 5, -9};
    int[] third = {2, 1, 2, 2, 2, 2, 99, -9};
    for (int what = 0; what <= 7; what++) {
      C.due("room 0 " + what, x.room(0, what), first[what]);
      C.due("room 1 " + what, x.room(1, what), second[what]);
      C.due("room 2 " + what, x.room(2, what), third[what]);
    }
    for (int room = 0; room < 6; room++) C.due("kind of " + room, x.room(room, 0), room);
    C.due("kind of u", Checks.house("ru000010;").room(0, 0), 6);
    C.due("no such room", x.room(6, 0), -1);
    C.due("room below", x.room(-1, 0), -1);
    C.due("-1 comes first", x.room(6, 8), -1);
    C.due("what above", x.room(0, 8), -2);
    C.due("what below", x.room(0, -1), -2);
    C.due("-1 told", x.count(11), 3);
    C.due("-2 told", x.count(12), 2);
  }

  /** Promise 5. */
  private static void guest() {
    RoomsThatChange x = Checks.house("rp012027;g012321;g222222;");
    int[] first = {0 + 3 + 18, 3, 2, 1, 0, 0, -9, -9};
    for (int what = 0; what <= 7; what++) C.due("guest 0 " + what, x.guest(0, what), first[what]);
    C.due("state of 1", x.guest(1, 0), 26);
    C.due("wish of 1 is had", x.guest(1, 4), 1);
    C.due("any", Checks.house("g120333;").guest(0, 4), 1);
    C.due("any but one", Checks.house("g120330;").guest(0, 4), 1);
    C.due("any, one not", Checks.house("g120331;").guest(0, 4), 0);
    C.due("first mark", Checks.house("g100333;").guest(0, 0), 1);
    C.due("sleep", x.sleep(0, 0), 1);
    C.due("to go", x.guest(0, 6), 0);
    C.due("not yet ahead", x.guest(0, 7), -9);
    C.due("night", x.night(), 1);
    C.due("no more to go", x.guest(0, 6), -9);
    C.due("ahead", x.guest(0, 7), 0);
    C.due("paid", x.guest(0, 5), 7);
    C.due("the other paid nothing", x.guest(1, 5), 0);
    C.due("the other slept nowhere", x.guest(1, 7), -9);
    x.night();
    C.due("ahead no more", x.guest(0, 7), -9);
    C.due("no such guest", x.guest(2, 0), -1);
    C.due("guest below", x.guest(-1, 0), -1);
    C.due("-1 comes first", x.guest(2, 9), -1);
    C.due("what above", x.guest(0, 8), -2);
    C.due("what below", x.guest(0, -1), -2);
  }

  /** Promises 6 and 7. */
  private static void sleepAndStay() {
    RoomsThatChange x = Checks.house("rp012011;rp012022;g000333;g000333;g000333;");
    C.due("no guest", x.sleep(3, 0), -1);
    C.due("no room", x.sleep(0, 2), -1);
    C.due("guest below", x.sleep(-1, 0), -1);
    C.due("room below", x.sleep(0, -1), -1);
    C.due("one bed", x.sleep(0, 0), 0);
    C.due("his own is free", x.sleep(0, 0), 0);
    C.due("none for another", x.sleep(1, 0), -3);
    C.due("-3 told", x.count(13), 1);
    C.due("two beds", x.sleep(1, 1), 1);
    C.due("again", x.sleep(1, 1), 1);
    C.due("the second", x.sleep(2, 1), 0);
    C.due("full", x.sleep(0, 1), -3);
    C.due("he stays where he was to go", x.guest(0, 6), 0);
    C.due("stay", x.stay(1), 1);
    C.due("stays already", x.stay(1), -9);
    C.due("now one is free", x.sleep(0, 1), 0);
    C.due("he left the other", x.sleep(1, 0), 0);
    C.due("stay of nobody", x.stay(3), -1);
    C.due("stay below", x.stay(-1), -1);
    C.due("all sleep", x.night(), 3);
    C.due("nobody is to go", x.stay(0), -9);
    C.due("free again", x.sleep(2, 0), 0);
  }

  /** Promise 8. */
  private static void night() {
    RoomsThatChange x = Checks.house("rp0120215;rp112014;g000333;g100333;g220333;");
    x.sleep(0, 0);
    x.sleep(2, 0);
    C.due("two slept", x.night(), 2);
    C.due("number", x.count(2), 1);
    C.due("0 became 1", x.guest(0, 0), 1);
    C.due("stays as he is", x.guest(1, 0), 1);
    C.due("2 became 0", x.guest(2, 0), 6);
    C.due("each pays", x.count(7), 30);
    C.due("who stayed pays nothing", x.guest(1, 5), 0);
    C.due("LAST is the lesser, as he came", x.room(0, 7), 0);
    C.due("nobody there", x.room(1, 7), -9);
    C.due("none went", x.night(), 0);
    C.due("number again", x.count(2), 2);
    C.due("LAST stays", x.room(0, 7), 0);
    x.sleep(2, 0);
    x.sleep(1, 1);
    C.due("two again", x.night(), 2);
    C.due("LAST anew", x.room(0, 7), 6);
    C.due("the other mark", x.guest(1, 0), 4);
    C.due("LAST of the other", x.room(1, 7), 1);
    C.due("sum", x.guest(2, 5), 30);
    C.due("all", x.count(7), 49);
  }

  private static void kindsInNights() {
    RoomsThatChange x = Checks.house("rh012021;rt100021;rd222211;rf000011;rs200011;", "g000333;g120333;g212333;");
    x.sleep(2, 0);
    x.night();
    C.due("HEIR of nobody: the table", x.guest(2, 0), 0 + 3 + 18);
    x.sleep(0, 0);
    x.sleep(1, 0);
    x.night();
    C.due("heir of 2, of whom LAST was", x.guest(0, 0), 2);
    C.due("the second heir too", x.guest(1, 0), 2 + 6);
    C.due("of two LAST the lesser", x.room(0, 7), 0);
    x.sleep(0, 1);
    x.sleep(1, 1);
    x.night();
    C.due("TWO: the other's mark", x.guest(0, 0), 2 + 6);
    C.due("TWO: and the other way", x.guest(1, 0), 2);
    x.sleep(0, 1);
    x.sleep(1, 4);
    x.sleep(2, 3);
    x.night();
    C.due("TWO with one of STATE 0", twoWithNone(), 0);
    C.due("TWO alone: as PLAIN", x.guest(0, 0), 2);
    C.due("SWITCH of 2 and 0", x.guest(1, 0), 18);
    C.due("FREE", x.guest(2, 0), 21);
    x.sleep(1, 2);
    C.due("even", x.count(2), 4);
    x.night();
    C.due("DAY even: nothing", x.guest(1, 0), 18);
    x.sleep(0, 2);
    x.night();
    C.due("DAY odd: mark 2, 0 becomes 2", x.guest(0, 0), 2 + 18);
  }

  private static int twoWithNone() {
    RoomsThatChange x = Checks.house("rt011121;g000333;g200333;");
    x.sleep(0, 0);
    x.sleep(1, 0);
    x.night();
    return x.guest(1, 0);
  }

  private static void undoInNights() {
    RoomsThatChange x = Checks.house("ru012021;rp111121;g000333;g000333;");
    x.sleep(0, 0);
    x.night();
    C.due("as PLAIN", x.guest(0, 0), 1);
    x.sleep(0, 0);
    x.sleep(1, 0);
    x.night();
    C.due("undone", x.guest(0, 0), 0);
    C.due("another's first night there", x.guest(1, 0), 1);
    x.sleep(0, 0);
    x.night();
    C.due("as in the evening ahead", x.guest(0, 0), 1);
    x.sleep(0, 1);
    x.night();
    C.due("elsewhere", x.guest(0, 0), 1 + 3);
    x.sleep(0, 0);
    x.night();
    C.due("PLAIN again", x.guest(0, 0), 2 + 3);
    x.night();
    x.sleep(0, 0);
    x.night();
    C.due("a night between", x.guest(0, 0), 0 + 3);
    C.due("whole STATE", undoOfWhole(), 1 + 3);
  }

  /** What UNDO gives back is all MARKS, though another MARK was changed by nothing between. */
  private static int undoOfWhole() {
    RoomsThatChange x = Checks.house("ru212011;g110333;");
    x.sleep(0, 0);
    x.night();
    x.sleep(0, 0);
    x.night();
    return x.guest(0, 0);
  }

  /** Promise 9. */
  private static void makes() {
    RoomsThatChange x = Checks.house("rp012011;rh112011;rt212011;rd012011;rf012011;rs012011;", "g200333;");
    C.due("p", x.makes(0, 2, 0), 0);
    C.due("h of nobody", x.makes(1, 3, 0), 6);
    C.due("t alone", x.makes(2, 18, 0), 0);
    C.due("d even", x.makes(3, 1, 98), 1);
    C.due("d odd", x.makes(3, 1, 99), 2);
    C.due("f", x.makes(4, 26, 99), 26);
    C.due("s", x.makes(5, 2 + 3, 0), 1 + 6);
    RoomsThatChange y = Checks.house("rs112011;rs212011;ru012011;rh000011;g200333;");
    C.due("s 1 and 2", y.makes(0, 2 + 3 + 0, 0), 2 + 9);
    C.due("s 2 and 0", y.makes(1, 2 + 3 + 9, 0), 1 + 3 + 18);
    C.due("u", y.makes(2, 1, 0), 2);
    y.sleep(0, 3);
    y.night();
    C.due("nobody was LAST, in mind", y.makes(3, 1, 0), 0);
    C.due("no room", x.makes(6, 0, 0), -1);
    C.due("room below", x.makes(-1, 0, 0), -1);
    C.due("no state", x.makes(0, 27, 0), -1);
    C.due("state below", x.makes(0, -1, 0), -1);
    C.due("-1 comes first", x.makes(6, 0, -1), -1);
    C.due("number below", x.makes(0, 0, -1), -4);
    C.due("number above", x.makes(0, 0, 100), -6);
  }

  /** Promise 26. */
  private static void week() {
    RoomsThatChange x = Checks.house("rp012017;g000333;g100333;");
    C.due("one bed for two", x.week(1, 5), 7);
    C.due("fourteen nights", x.week(14, -5), 98);
    C.due("no night", x.week(0, 0), -4);
    C.due("below", x.week(-1, 0), -4);
    C.due("above", x.week(15, 0), -6);
    C.due("in mind: nights", x.count(2), 0);
    C.due("in mind: paid", x.count(7), 0);
    C.due("in mind: states", x.guest(0, 0), 0);
    x.sleep(1, 0);
    C.due("who is to go is forgotten", x.week(2, 5), 14);
    C.due("but only in mind", x.guest(1, 6), 0);
    C.due("nobody pays", Checks.house("rp012017;").week(3, 1), 0);
    RoomsThatChange none = Checks.house("g000333;");
    C.due("no ROOMS", none.week(1, 0), -3);
    C.due("-4 comes first", none.week(0, 0), -4);
    C.due("-6 comes first", none.week(15, 0), -6);
    C.due("two beds", Checks.house("rp012027;g000333;g000333;g000333;").week(2, 9), 28);
  }

  /** Below 3 the seed 0 draws 2 0 0, 2 1 2, 2 2 0, 0 0 0; -1 draws 1 2 2, 0 1 2, 1 1 1, 2 0 1. */
  private static void weekDraws() {
    RoomsThatChange x = Checks.house("rf000011;rf0000110;rf0000290;", "g000333;g000333;g000333;");
    int[] byZero = {91, 281, 462, 463};
    int[] byLess = {190, 291, 301, 402};
    for (int n = 1; n <= 4; n++) {
      C.due("nights by 0: " + n, x.week(n, 0), byZero[n - 1]);
      C.due("nights by -1: " + n, x.week(n, -1), byLess[n - 1]);
    }
  }

  /** Promises 27 and 28. */
  private static void rowAndJudge() {
    RoomsThatChange x = Checks.house("rp012011;rd000021;ru112011;rh012011;g000133;g000033;g000303;");
    C.due("below", x.row(-1), -4);
    C.due("above", x.row(10), -6);
    C.due("least", x.row(0), 1);
    C.due("greatest", x.row(9), 2);
    C.due("no guest", x.judge(3), -1);
    C.due("guest below", x.judge(-1), -1);
    C.due("it stays", x.count(5), 2);
    C.due("the place of what is no ROOM", x.judge(0), 1);
    C.due("none then", x.count(5), 0);
    C.due("empty, not had", x.judge(0), 0);
    C.due("empty, had", x.judge(1), -9);
    C.due("one", judged(x, 0, 0), -9);
    C.due("none then", x.count(5), 0);
    C.due("two: not had", judged(x, 0, 0, 0), 2);
    C.due("day is even in the first", judged(x, 0, 1, 0), -9);
    C.due("day is odd in the second", judged(x, 0, 0, 1), 2);
    C.due("undo by its own row", judged(x, 2, 2, 2), -9);
    C.due("no undo with a night between", judged(x, 2, 2, 0, 2), 3);
    C.due("heir by himself", judged(x, 1, 3, 3), -9);
    C.due("first of two that are no ROOMS", judged(x, 0, 4, 5), 0);
    for (int i = 1; i <= 6; i++) C.due("six at most", x.row(0), i);
    C.due("a seventh", x.row(0), -6);
    C.due("below comes first", x.row(-1), -4);
    C.due("six from 0: 0 again", x.judge(1), -9);
    C.due("six: not had", judged(x, 0, 0, 0, 0, 0, 0, 0), 6);
    C.due("in mind", x.guest(0, 0), 0);
    x.night();
    C.due("NIGHT 0 whatever the night", judged(x, 0, 1, 0), -9);
    x.sleep(2, 2);
    x.sleep(1, 3);
    x.night();
    C.due("from now", judged(x, 2), 0);
    C.due("nobody slept ahead, in mind", judged(x, 2, 2), 1);
    C.due("from now on two nights", judged(x, 2, 2, 0, 2), -9);
    C.due("nobody was LAST, in mind", judged(x, 1, 3), 1);
  }

  private static int judged(RoomsThatChange x, int guest, int... row) {
    for (int v : row) x.row(v);
    return x.judge(guest);
  }

  /** Promises 29 and 30. */
  private static void image() {
    RoomsThatChange x = Checks.house("rh012013;ru012024;g100333;g200000;");
    C.due("none", x.on(), -3);
    C.due("-3 told", x.count(13), 1);
    x.sleep(0, 0);
    x.sleep(1, 1);
    x.night();
    x.sleep(1, 1);
    x.trial(3, 4);
    C.due("image", x.image(), 1);
    x.sleep(0, 0);
    x.night();
    Checks.tell(x, "rf000011;g222333;");
    x.trial(0, 1);
    x.row(3);
    x.letter('r');
    x.sleep(2, 2);
    x.sleep(1, 0);
    x.night();
    x.sleep(1, 1);
    x.night();
    x.sleep(1, 1);
    x.stay(1);
    x.night();
    C.due("other LAST", x.room(0, 7), 2);
    C.due("other state", x.guest(0, 0), 1);
    C.due("on", x.on(), 1);
    C.due("state of 0", x.guest(0, 0), 2);
    C.due("rooms", x.count(0), 2);
    C.due("guests", x.count(1), 2);
    C.due("night", x.count(2), 1);
    C.due("trials", x.count(4), 1);
    C.due("paid", x.count(7), 7);
    C.due("refusals stay", x.count(13), 1);
    C.due("the ROW stays", x.count(5), 1);
    C.due("letters stay", x.count(6), 1);
    C.due("LAST", x.room(0, 7), 1);
    C.due("state", x.guest(1, 0), 0);
    C.due("who is to go", x.guest(1, 6), 1);
    C.due("who went", x.guest(1, 7), 1);
    C.due("the room that came is no more", x.room(2, 0), -1);
    C.due("night", x.night(), 1);
    C.due("undone", x.guest(1, 0), 2);
    C.due("on once more", x.on(), 1);
    C.due("as then", x.guest(1, 0), 0);
    C.due("a room anew has no LAST", anewLast(x), -9);
    x.night();
    x.night();
    C.due("a later image", x.image(), 3);
    x.night();
    C.due("on from the later", x.on(), 3);
  }

  private static int anewLast(RoomsThatChange x) {
    x.inn();
    Checks.tell(x, "rf000011;");
    return x.room(2, 7);
  }

  /** Promise 31. */
  private static void count() {
    RoomsThatChange x = Checks.house("rp012013;g100133;g200100;g000333;");
    int[] due = {1, 3, 0, 2, 0, 0, 0, 0};
    for (int what = 0; what <= 7; what++) C.due("count " + what, x.count(what), due[what]);
    x.sleep(0, 0);
    x.night();
    x.trial(0, 0);
    x.row(1);
    x.row(1);
    x.letter(1);
    x.letter(1);
    x.letter(1);
    int[] then = {1, 3, 1, 1, 1, 2, 3, 3};
    for (int what = 0; what <= 7; what++) C.due("then count " + what, x.count(what), then[what]);
    x.stay(7);
    x.room(0, 9);
    x.on();
    x.row(-1);
    x.row(10);
    x.row(10);
    int[] refused = {1, 1, 1, 1, 0, 2};
    for (int i = 0; i < 6; i++) C.due("refusals " + (i + 1), x.count(11 + i), refused[i]);
    for (int what : new int[] {-1, 8, 9, 10, 17, Integer.MAX_VALUE, Integer.MIN_VALUE}) {
      C.due("count of another", x.count(what), -9);
    }
    for (int i = 0; i < 6; i++) C.due("which is no refusal " + (i + 1), x.count(11 + i), refused[i]);
  }
}
