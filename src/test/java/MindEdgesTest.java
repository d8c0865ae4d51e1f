/**
 * Promises 10 to 25, and the Terms that they rest on, at their edges: each sentence of the document that names a
 * boundary case has a test of its own, which is named by that sentence.
 */
public final class MindEdgesTest {
  private static final Checks C = new Checks("MindEdgesTest");
  private static final int LEAST = Integer.MIN_VALUE;
  private static final int GREATEST = Integer.MAX_VALUE;
  /** One ROOM for each MARK that makes 1 of 0, 2 of 1, 0 of 2: as many NIGHTS as the MARKS are away. */
  private static final String STEPS = "rp012021;rp112022;rp212024;";

  public static void main(String[] args) {
    aloneAt();
    fewestAt();
    fewestRefused();
    cheapestAt();
    cheapestRefused();
    rowOfAt();
    rowOfRefused();
    becomesAt();
    bothAt();
    bothByKinds();
    bothByOneBed();
    bothInTheSecondNight();
    bothOnceMore();
    bothRefused();
    asWentAt();
    alikeAt();
    changesAt();
    changesOnceMore();
    neededAt();
    wasAt();
    wasRefused();
    trialAt();
    fitsAt();
    nextAt();
    sureAt();
    bitsRefused();
    heirsAt();
    heirsRefused();
    bestOrderAt();
    bestOfEachOrder();
    bestOrderRefused();
    C.end();
  }

  /** Five GUESTS who wish what is 0, 1, 4, 5 and 6 steps from STATE 0. */
  private static RoomsThatChange steps() {
    return Checks.house(STEPS + "g000000;g000100;g000220;", "g000221;g000222;");
  }

  /** "ALONE, in mind, one who is as told begins in NIGHT 0, nobody else there, nobody was LAST". */
  private static void aloneAt() {
    C.inMind("fewest: \"nobody was LAST\"", Checks.lived(), x -> x.fewest(0, 0), 1);
    C.inMind("fewest: as told, not as he is", Checks.lived(), x -> x.fewest(2, 0), -9);
    C.inMind("cheapest: as told, not as he is", Checks.lived(), x -> x.cheapest(1, 0), 0);
    RoomsThatChange day = Checks.house("rd012013;g000133;");
    day.night();
    C.inMind("fewest: \"begins in NIGHT 0\", in an odd one", day, x -> x.fewest(0, 0), 2);
    C.inMind("becomes: \"begins in NIGHT 0\"", Checks.house("rd012011;"), x -> x.becomes(0, 1), 1);
    RoomsThatChange two = Checks.house("rt022221;g000333;g000233;");
    two.sleep(0, 0);
    C.inMind("fewest: \"nobody else there\"", two, x -> x.fewest(0, 1), 1);
    RoomsThatChange undo = Checks.house("ru012011;g000133;");
    undo.sleep(0, 0);
    undo.night();
    C.inMind("\"UNDO by his own row\": the NIGHT ahead of it is none", undo, x -> x.fewest(0, 0), 1);
    C.inMind("\"UNDO by his own row\": two NIGHTS", undo, x -> x.was(1, 1, 2, 0), 1);
    RoomsThatChange between = Checks.house("ru012011;rf000011;");
    C.inMind("\"UNDO by his own row\": another ROOM in the NIGHT ahead", between, x -> x.was(0, 1, 2, 0), 2);
    C.inMind("\"UNDO by his own row\": another ROOM between", between, x -> x.was(0, 2, 3, 0), 1);
    RoomsThatChange heir = Checks.house("rh012011;rp022211;g000333;");
    C.inMind("\"HEIR by himself\": by 0 1 0 and 1 1 0", heir, x -> x.was(0, 0, 3, 0), 2);
  }

  /** Promise 10; Terms: "the least number of NIGHTS (0 .. 4) ...; -9". */
  private static void fewestAt() {
    int[] due = {0, 1, 4, -9, -9};
    for (int guest = 0; guest < 5; guest++) {
      int of = guest;
      C.inMind("\"(0 .. 4)\": GUEST " + guest, steps(), x -> x.fewest(0, of), due[guest]);
    }
    C.inMind("from STATE 26", steps(), x -> x.fewest(26, 0), 3);
    C.inMind("0 without ROOMS", Checks.house("g222000;"), x -> x.fewest(0, 0), 0);
    C.inMind("-9 without ROOMS", Checks.house("g000000;"), x -> x.fewest(26, 0), -9);
    C.inMind("any: 0", Checks.house("rf000011;g000333;"), x -> x.fewest(26, 0), 0);
    C.inMind("2 of a longer one that is cheaper", cheaperIfLonger(), x -> x.fewest(0, 0), 2);
    C.inMind("3", steps(), x -> x.fewest(1, 2), 3);
  }

  private static void fewestRefused() {
    C.refused("fewest \"-1 either\": STATE", steps(), x -> x.fewest(27, 0), -1);
    C.refused("fewest \"-1 either\": STATE below", steps(), x -> x.fewest(-1, 0), -1);
    C.refused("fewest \"-1 either\": GUEST", steps(), x -> x.fewest(0, 5), -1);
    C.refused("fewest \"-1 either\": GUEST below", steps(), x -> x.fewest(0, -1), -1);
    C.refused("fewest: both are one refusal", steps(), x -> x.fewest(GREATEST, LEAST), -1);
  }

  /** Two NIGHTS cost 9 and 9, four cost 1 each. */
  private static RoomsThatChange cheaperIfLonger() {
    return Checks.house("rp002211;rp011211;rp022219;rp111119;rp112011;rp222219;", "g000210;");
  }

  /** Promise 11; Terms: "the least sum of PRICES of such a row (4 NIGHTS at most); -9". */
  private static void cheapestAt() {
    int[] due = {0, 1, 6, -9, -9};
    for (int guest = 0; guest < 5; guest++) {
      int of = guest;
      C.inMind("\"4 NIGHTS at most\": GUEST " + guest, steps(), x -> x.cheapest(0, of), due[guest]);
    }
    C.inMind("a longer one that is cheaper", cheaperIfLonger(), x -> x.cheapest(0, 0), 3);
    String five = "rp012011;rp112011;rp212011;rp0222150;g000221;";
    C.inMind("5 NIGHTS would be cheaper", Checks.house(five), x -> x.cheapest(0, 0), 53);
    C.inMind("the dearest row", Checks.house("rd0120199;g000233;"), x -> x.cheapest(0, 0), 396);
    C.inMind("a row that costs nothing", Checks.house("rp0120100;g000233;"), x -> x.cheapest(0, 0), 0);
    C.inMind("0 without ROOMS", Checks.house("g222000;"), x -> x.cheapest(0, 0), 0);
    C.inMind("-9 without ROOMS", Checks.house("g000000;"), x -> x.cheapest(26, 0), -9);
  }

  private static void cheapestRefused() {
    C.refused("cheapest \"-1 either\": STATE", steps(), x -> x.cheapest(27, 0), -1);
    C.refused("cheapest \"-1 either\": STATE below", steps(), x -> x.cheapest(-1, 0), -1);
    C.refused("cheapest \"-1 either\": GUEST", steps(), x -> x.cheapest(0, 5), -1);
    C.refused("cheapest \"-1 either\": GUEST below", steps(), x -> x.cheapest(0, -1), -1);
    C.refused("cheapest: both are one refusal", steps(), x -> x.cheapest(LEAST, GREATEST), -1);
  }

  /** Promise 12; Terms: "of FEWEST the first of the least length; of CHEAPEST the shortest, then the first". */
  private static void rowOfAt() {
    row("of four", steps(), 2, 0, 0, 0, 1, 1);
    row("of four, cheapest", steps(), 2, 1, 0, 0, 1, 1);
    row("of none, 0 NIGHTS", steps(), 0, 0);
    row("of none, 0 NIGHTS, cheapest", steps(), 0, 1);
    row("of none, -9", steps(), 3, 0);
    row("of none, -9, cheapest", steps(), 3, 1);
    row("\"the first by numbers\"", Checks.house("rp122211;rp012011;rp012011;g000123;"), 0, 0, 0, 1);
    row("\"the first\" is not the cheapest", Checks.house("rp012019;rp012011;g000133;"), 0, 0, 0);
    row("cheapest is not the first", Checks.house("rp012019;rp012011;g000133;"), 0, 1, 1);
    row("\"the least length\" is not the first", Checks.house("rp012011;rp022219;g000233;"), 0, 0, 1);
    row("\"the shortest\" of those that cost the same", Checks.house("rp012010;rp022210;g000233;"), 0, 1, 1);
    row("\"then the first\"", Checks.house("rp112013;rp012012;rp112013;g000113;"), 0, 1, 0, 1);
    row("one that costs nothing is no shorter", Checks.house("rf000010;rp012015;g000133;"), 0, 1, 1);
    row("fewest, with one that is cheaper", cheaperIfLonger(), 0, 0, 2, 3);
    row("cheapest, with one that is shorter", cheaperIfLonger(), 0, 1, 1, 0, 4);
  }

  /** From STATE 0. */
  private static void row(String name, RoomsThatChange x, int guest, int what, int... rooms) {
    for (int i = 0; i < rooms.length; i++) C.due(name + ": " + i, x.rowOf(0, guest, what, i), rooms[i]);
    for (int i = rooms.length; i <= 6; i++) C.due(name + ": \"-9 none such\" " + i, x.rowOf(0, guest, what, i), -9);
    C.inMind(name + ": \"-9 none such\"", x, y -> y.rowOf(0, guest, what, GREATEST), -9);
  }

  /** "-1 either; -2; -4 i." */
  private static void rowOfRefused() {
    C.refused("rowOf \"-1 either\": STATE", steps(), x -> x.rowOf(27, 0, 0, 0), -1);
    C.refused("rowOf \"-1 either\": STATE below", steps(), x -> x.rowOf(-1, 0, 0, 0), -1);
    C.refused("rowOf \"-1 either\": GUEST", steps(), x -> x.rowOf(0, 5, 0, 0), -1);
    C.refused("rowOf \"-1 either\": GUEST below", steps(), x -> x.rowOf(0, -1, 1, 0), -1);
    C.refused("rowOf \"-2\"", steps(), x -> x.rowOf(0, 0, 2, 0), -2);
    C.refused("rowOf \"-2\", below", steps(), x -> x.rowOf(0, 0, -1, 0), -2);
    C.refused("rowOf \"-4 i\"", steps(), x -> x.rowOf(0, 2, 0, -1), -4);
    C.refused("rowOf \"-4 i\", the least int", steps(), x -> x.rowOf(0, 2, 1, LEAST), -4);
    C.refused("rowOf: -1 is told ahead of -2", steps(), x -> x.rowOf(0, 5, 2, -1), -1);
    C.refused("rowOf: -2 is told ahead of -4", steps(), x -> x.rowOf(0, 0, 2, -1), -2);
    C.refused("rowOf \"-4 i\", where there is no row", steps(), x -> x.rowOf(0, 3, 0, -1), -4);
  }

  /** Promise 13, "-1; -4; -6 3"; Terms: "by rows of 0 .. n (3 at most) NIGHTS, that itself too". */
  private static void becomesAt() {
    int[] due = {1, 4, 10, 17};
    for (int n = 0; n <= 3; n++) {
      int nights = n;
      C.inMind("\"0 .. n (3 at most)\": " + n, steps(), x -> x.becomes(0, nights), due[n]);
      C.inMind("from STATE 26: " + n, steps(), x -> x.becomes(26, nights), due[n]);
    }
    C.inMind("\"that itself too\"", Checks.house("rp011111;"), x -> x.becomes(0, 3), 2);
    C.inMind("that itself alone", new RoomsThatChange(), x -> x.becomes(26, 3), 1);
    C.refused("becomes \"-1\"", steps(), x -> x.becomes(27, 0), -1);
    C.refused("becomes \"-1\", below", steps(), x -> x.becomes(-1, 0), -1);
    C.refused("becomes \"-4\"", steps(), x -> x.becomes(0, -1), -4);
    C.refused("becomes \"-4\", the least int", steps(), x -> x.becomes(0, LEAST), -4);
    C.refused("becomes \"-6 3\"", steps(), x -> x.becomes(0, 4), -6);
    C.refused("becomes \"-6 3\", the greatest int", steps(), x -> x.becomes(0, GREATEST), -6);
    C.refused("becomes: -1 is told ahead of -4", steps(), x -> x.becomes(27, -1), -1);
    C.refused("becomes: -1 is told ahead of -6", steps(), x -> x.becomes(-1, 4), -1);
  }

  /** Promise 14; Terms: "the least number of NIGHTS (0 .. 2), each in a ROOM in each (two in one, if it has two BEDS)". */
  private static void bothAt() {
    C.inMind("\"(0\"", Checks.house(STEPS + "g000000;g111333;"), x -> x.both(0, 1), 0);
    C.inMind("1", Checks.house(STEPS + "g000100;g000010;"), x -> x.both(0, 1), 1);
    C.inMind("\".. 2)\"", Checks.house(STEPS + "g000110;g000200;"), x -> x.both(0, 1), 2);
    C.inMind("3 are too many", Checks.house(STEPS + "g000111;g000111;"), x -> x.both(0, 1), -9);
    C.inMind("3 for one are too many", Checks.house(STEPS + "g000333;g000111;"), x -> x.both(1, 0), -9);
    C.inMind("\"each in a ROOM in each\": who has his WISH must sleep", Checks.house("rp012021;g000033;g000133;"),
        x -> x.both(0, 1), -9);
    C.inMind("\"each in a ROOM in each\": FREE leaves him", Checks.house("rp012021;rf000011;g000033;g000133;"),
        x -> x.both(0, 1), 1);
    C.inMind("\"two in one, if it has two BEDS\"", Checks.house("rp012021;g000133;g000133;"), x -> x.both(0, 1), 1);
    C.inMind("two in one that has one", Checks.house("rp012011;g000133;g000133;"), x -> x.both(0, 1), -9);
    C.inMind("one BED, by turns", Checks.house("rp012011;rf000011;g000133;g000133;"), x -> x.both(0, 1), 2);
    C.inMind("one BED in the second NIGHT too", Checks.house("rp012021;rp112011;g000113;g000113;"), x -> x.both(0, 1), 2);
    C.inMind("one BED, twice", Checks.house("rp112011;rf000011;g000323;g000313;"), x -> x.both(0, 1), -9);
    C.inMind("0 without ROOMS", Checks.house("g000000;g111111;"), x -> x.both(0, 1), 0);
    C.inMind("-9 without ROOMS", Checks.house("g000000;g111110;"), x -> x.both(0, 1), -9);
    C.inMind("one has it, one not", Checks.house("rf000021;g000000;g111110;"), x -> x.both(0, 1), -9);
  }

  /** "as they are, begin in NIGHT 0 (nobody was LAST, nor slept in the NIGHT ahead)". */
  private static void bothByKinds() {
    RoomsThatChange day = Checks.house("rd012021;g000133;g000133;");
    day.night();
    C.inMind("\"begin in NIGHT 0\", in an odd one", day, x -> x.both(0, 1), 2);
    RoomsThatChange heir = Checks.house("rh011121;rf000011;g000333;g200133;g000133;");
    heir.sleep(0, 0);
    heir.night();
    C.inMind("\"nobody was LAST\"", heir, x -> x.both(1, 2), 1);
    RoomsThatChange undo = Checks.house("ru012021;g000233;g000233;");
    undo.sleep(0, 0);
    undo.sleep(1, 0);
    undo.night();
    C.inMind("\"as they are\", \"nor slept in the NIGHT ahead\"", undo, x -> x.both(0, 1), 1);
    C.inMind("UNDO in the second NIGHT", Checks.house("ru012021;g000233;g000233;"), x -> x.both(0, 1), -9);
    C.inMind("UNDO of each by his own row", Checks.house("ru012011;ru012011;g000233;g000233;"), x -> x.both(0, 1), 2);
    C.inMind("HEIR: \"of two the lesser GUEST\"", Checks.house("rh000021;g100133;g200133;"), x -> x.both(0, 1), 2);
    C.inMind("the lesser, told second", Checks.house("rh000021;g100133;g200133;"), x -> x.both(1, 0), 2);
    C.inMind("not of the greater", Checks.house("rh000021;g100233;g200233;"), x -> x.both(0, 1), -9);
    C.inMind("TWO", Checks.house("rt000021;g100233;g200133;"), x -> x.both(0, 1), 1);
    C.inMind("TWO with one BED", Checks.house("rt000011;rt000011;g100233;g200133;"), x -> x.both(0, 1), -9);
    C.inMind("TWO, \"one alone\"", Checks.house("rt011121;rf000021;g000133;g000033;"), x -> x.both(0, 1), 1);
  }

  /** Both must sleep in the same ROOM in one NIGHT: "two in one, if it has two BEDS". */
  private static void bothByOneBed() {
    C.inMind("in NIGHT 0, two BEDS", Checks.house("rp011221;rp002221;g000233;g000233;"), x -> x.both(0, 1), 2);
    C.inMind("in NIGHT 0, one BED", Checks.house("rp011211;rp002221;g000233;g000233;"), x -> x.both(0, 1), -9);
    C.inMind("in NIGHT 1, one BED", Checks.house("rp011221;rp002211;g000233;g000233;"), x -> x.both(0, 1), -9);
    C.inMind("DAY, two BEDS", Checks.house("rf000021;rd012021;g000133;g000133;"), x -> x.both(0, 1), 2);
    C.inMind("DAY, one BED", Checks.house("rf000021;rd012011;g000133;g000133;"), x -> x.both(0, 1), -9);
  }

  /** Each can only come about in NIGHT 1, by what was in NIGHT 0; told by both and the other way about. */
  private static void bothInTheSecondNight() {
    second("TWO: the other's MARK", "rt000021;rs000011;rf000011;", "g010203;", "g220123;", 2);
    second("TWO: one alone", "rt022211;rs000011;rf000011;", "g010203;", "g100103;", 2);
    second("HEIR of the other who slept alone", "rh000011;rf000011;", "g100233;", "g200033;", 2);
    second("HEIR: \"the table's, if none did\"", "rh022221;rs000021;", "g010203;", "g010203;", 2);
    second("HEIR: of none who slept elsewhere", "rh022211;rs000021;", "g010203;", "g110113;", 2);
    second("UNDO: \"as he was in that evening\"", "ru012011;rp112011;", "g000003;", "g100123;", 2);
    second("UNDO: the other slept in it, not he", "ru012011;rs000011;", "g010203;", "g010113;", 2);
  }

  private static void second(String name, String rooms, String one, String other, int want) {
    C.inMind(name, Checks.house(rooms + one + other), x -> x.both(0, 1), want);
    C.inMind(name + ", told the other way", Checks.house(rooms + one + other), x -> x.both(1, 0), want);
    C.inMind(name + ", the other is the lesser", Checks.house(rooms + other + one), x -> x.both(0, 1), want);
  }

  /** One call leaves nothing to the next. */
  private static void bothOnceMore() {
    RoomsThatChange x = Checks.house("rf000021;" + STEPS, "g000002;g000001;g000200;g000100;");
    int[][] due = {{0, 1, 2}, {2, 3, 2}, {1, 3, 1}, {2, 0, 2}, {3, 1, 1}, {0, 1, 2}};
    for (int[] of : due) C.due("both of " + of[0] + " and " + of[1], x.both(of[0], of[1]), of[2]);
  }

  /** "-1 (one twice, too)". */
  private static void bothRefused() {
    C.refused("both \"-1\": one", steps(), x -> x.both(5, 0), -1);
    C.refused("both \"-1\": one below", steps(), x -> x.both(-1, 0), -1);
    C.refused("both \"-1\": other", steps(), x -> x.both(0, 5), -1);
    C.refused("both \"-1\": other below", steps(), x -> x.both(0, -1), -1);
    C.refused("both \"-1\": neither", steps(), x -> x.both(LEAST, GREATEST), -1);
    C.refused("both \"one twice, too\"", steps(), x -> x.both(4, 4), -1);
    C.refused("both \"one twice\" who is not there", steps(), x -> x.both(5, 5), -1);
    C.refused("both of nobody", new RoomsThatChange(), x -> x.both(0, 1), -1);
  }

  /** Promise 15; Terms: "the least length (1 .. 3) of a row of ROOMS by which each STATE becomes itself; -9". */
  private static void asWentAt() {
    C.inMind("no row of 0", new RoomsThatChange(), RoomsThatChange::asWent, -9);
    C.inMind("no row of 0, with ROOMS", Checks.house("rp012011;rp000011;"), RoomsThatChange::asWent, 3);
    C.inMind("\"(1\"", Checks.house("rp000011;rf000011;"), RoomsThatChange::asWent, 1);
    C.inMind("2", Checks.house("rp000011;rp010211;"), RoomsThatChange::asWent, 2);
    C.inMind("\".. 3)\"", Checks.house("rp220111;"), RoomsThatChange::asWent, 3);
    C.inMind("\"-9\"", Checks.house("rp001111;rt202211;"), RoomsThatChange::asWent, -9);
    C.inMind("\"each STATE\": all but those of MARK 2", Checks.house("rp201011;"), RoomsThatChange::asWent, -9);
    C.inMind("DAY in NIGHT 0", Checks.house("rd000011;"), RoomsThatChange::asWent, 1);
    RoomsThatChange odd = Checks.house("rd012011;");
    odd.night();
    C.inMind("\"begins in NIGHT 0\", in an odd one", odd, RoomsThatChange::asWent, 1);
    C.inMind("who is there does not tell", Checks.house("rp001111;g000333;g100333;"), RoomsThatChange::asWent, -9);
  }

  /** Promise 16; Terms: "ALIKE: by which all STATES become one; -9"; fewer than three NIGHTS never do. */
  private static void alikeAt() {
    C.inMind("without ROOMS", new RoomsThatChange(), RoomsThatChange::alike, -9);
    C.inMind("\".. 3)\"", Checks.house("rp011111;rp100011;rp222211;"), RoomsThatChange::alike, 3);
    C.inMind("two DAYS have but one odd NIGHT", Checks.house("rp211111;rd000011;rd122211;"), RoomsThatChange::alike, -9);
    C.inMind("3 of one DAY", Checks.house("rp211111;rp000011;rd122211;"), RoomsThatChange::alike, 3);
    C.inMind("4 are too many", Checks.house("rp000011;rp100011;rs100011;"), RoomsThatChange::alike, -9);
    C.inMind("\"all STATES\": all but some", Checks.house("rp000111;rp100011;rp200011;"), RoomsThatChange::alike, -9);
    C.inMind("\"all STATES\": but those of MARK 0", Checks.house("rp010011;rp100011;rp200011;"), RoomsThatChange::alike, -9);
    C.inMind("who is there does not tell", Checks.house("rf000011;g000333;"), RoomsThatChange::alike, -9);
  }

  /** Promise 17, "-4; -6 2"; Terms: "how many unlike ones (STATE by STATE) rows of 0 .. n (2 at most) ROOMS make". */
  private static void changesAt() {
    int[] due = {1, 4, 10};
    for (int n = 0; n <= 2; n++) {
      int rooms = n;
      C.inMind("\"0 .. n (2 at most)\": " + n, steps(), x -> x.changes(rooms), due[n]);
      C.inMind("without ROOMS: " + n, new RoomsThatChange(), x -> x.changes(rooms), 1);
    }
    C.inMind("\"STATE by STATE\": one of 27 is another", Checks.house("rp201011;rp201111;"), x -> x.changes(1), 3);
    C.inMind("the same twice is one", Checks.house("rp201111;rt201129;"), x -> x.changes(1), 2);
    C.inMind("as one was, by 0 and by 1", Checks.house("rf000011;rd111111;"), x -> x.changes(1), 1);
    C.refused("changes \"-4\"", steps(), x -> x.changes(-1), -4);
    C.refused("changes \"-4\", the least int", steps(), x -> x.changes(LEAST), -4);
    C.refused("changes \"-6 2\"", steps(), x -> x.changes(3), -6);
    C.refused("changes \"-6 2\", the greatest int", steps(), x -> x.changes(GREATEST), -6);
  }

  /** One call leaves nothing to the next, nor does a house that had more. */
  private static void changesOnceMore() {
    RoomsThatChange x = Checks.house("rf000011;");
    x.image();
    Checks.tell(x, STEPS);
    C.due("changes 2 of more", x.changes(2), 10);
    C.due("needed of more", x.needed(), 14);
    C.due("changes 1 of more", x.changes(1), 4);
    C.due("changes 0 of more", x.changes(0), 1);
    x.on();
    C.due("needed of fewer", x.needed(), 0);
    C.due("changes 2 of fewer", x.changes(2), 1);
  }

  /** Promise 18; Terms: "ROOMS (bits) without which those of 0 .. 2 are fewer". */
  private static void neededAt() {
    C.inMind("without ROOMS", new RoomsThatChange(), RoomsThatChange::needed, 0);
    C.inMind("all", steps(), RoomsThatChange::needed, 7);
    C.inMind("none of two alike", Checks.house("rp012011;rp012019;"), RoomsThatChange::needed, 0);
    C.inMind("the sixth", Checks.house("rf000011;rf000011;rf000011;rf000011;rf000011;rp012011;"),
        RoomsThatChange::needed, 32);
    C.inMind("the first", Checks.house("rp012011;rf000011;rf000011;rf000011;rf000011;rf000011;"),
        RoomsThatChange::needed, 1);
    C.inMind("by rows of 1 it would be", Checks.house("rp012011;rp020111;"), RoomsThatChange::needed, 0);
    C.inMind("only by rows of 2: FREE ahead of DAY", Checks.house("rf000011;rd012011;"), RoomsThatChange::needed, 2);
    C.inMind("only with the other: UNDO", Checks.house("ru012011;rf000011;"), RoomsThatChange::needed, 1);
    C.inMind("only ahead of the other", Checks.house("rs000011;rp000011;rf000011;"), RoomsThatChange::needed, 3);
  }

  /** Promise 19; Terms: "rows of n ROOMS (1 .. 3)", "ROOMS that are in all of these (bits; 0, if there are none)". */
  private static void wasAt() {
    String free = "rf000011;";
    int[] due = {6, 36, 216};
    for (int n = 1; n <= 3; n++) {
      int rooms = n;
      C.inMind("all rows of " + n, Checks.house(free.repeat(6)), x -> x.was(26, 26, rooms, 0), due[n - 1]);
      C.inMind("none is in all of " + n, Checks.house(free.repeat(6)), x -> x.was(26, 26, rooms, 1), 0);
      C.inMind("the only one, in rows of " + n, Checks.house(free), x -> x.was(0, 0, rooms, 1), 1);
      C.inMind("without ROOMS no rows of " + n, new RoomsThatChange(), x -> x.was(0, 0, rooms, 0), 0);
      C.inMind("\"0, if there are none\", without ROOMS", new RoomsThatChange(), x -> x.was(0, 0, rooms, 1), 0);
      C.inMind("no such rows of " + n, steps(), x -> x.was(0, 26, rooms, 0), 0);
      C.inMind("\"0, if there are none\": " + n, steps(), x -> x.was(0, 26, rooms, 1), 0);
    }
    C.inMind("just n: no row of fewer", steps(), x -> x.was(0, 1, 2, 0), 0);
    C.inMind("in any order", steps(), x -> x.was(0, 13, 3, 0), 6);
    C.inMind("\"in all of these\": all", steps(), x -> x.was(0, 13, 3, 1), 7);
    C.inMind("the sixth", Checks.house(free.repeat(5), "rp012011;"), x -> x.was(0, 1, 3, 1), 32);
    C.inMind("the sixth, how many", Checks.house(free.repeat(5), "rp012011;"), x -> x.was(0, 1, 3, 0), 75);
  }

  /** "-1 either; -2; -4 below 1; -6 3." */
  private static void wasRefused() {
    C.refused("was \"-1 either\": from", steps(), x -> x.was(27, 0, 1, 0), -1);
    C.refused("was \"-1 either\": from below", steps(), x -> x.was(-1, 0, 1, 0), -1);
    C.refused("was \"-1 either\": to", steps(), x -> x.was(0, 27, 1, 0), -1);
    C.refused("was \"-1 either\": to below", steps(), x -> x.was(0, -1, 1, 0), -1);
    C.refused("was \"-2\"", steps(), x -> x.was(0, 0, 1, 2), -2);
    C.refused("was \"-2\", below", steps(), x -> x.was(0, 0, 1, -1), -2);
    C.refused("was \"-4 below 1\"", steps(), x -> x.was(0, 0, 0, 0), -4);
    C.refused("was \"-4 below 1\", the least int", steps(), x -> x.was(0, 0, LEAST, 1), -4);
    C.refused("was \"-6 3\"", steps(), x -> x.was(0, 0, 4, 0), -6);
    C.refused("was \"-6 3\", the greatest int", steps(), x -> x.was(0, 0, GREATEST, 1), -6);
    C.refused("was: -1 is told ahead of -2", steps(), x -> x.was(0, 27, 0, 2), -1);
    C.refused("was: -2 is told ahead of -4", steps(), x -> x.was(0, 0, 0, 2), -2);
    C.refused("was: -2 is told ahead of -6", steps(), x -> x.was(0, 0, 4, -1), -2);
  }

  /** Promise 20, "A TRIAL more: how many. -1 either; -6 6." */
  private static void trialAt() {
    C.refused("trial \"-1 either\": from", steps(), x -> x.trial(27, 0), -1);
    C.refused("trial \"-1 either\": from below", steps(), x -> x.trial(-1, 0), -1);
    C.refused("trial \"-1 either\": to", steps(), x -> x.trial(0, 27), -1);
    C.refused("trial \"-1 either\": to below", steps(), x -> x.trial(0, -1), -1);
    C.refused("trial \"-6 6\"", tried(6), x -> x.trial(0, 0), -6);
    C.refused("trial: -1 is told ahead of -6", tried(6), x -> x.trial(27, 0), -1);
    C.refused("trial: -1 is told ahead of -6, of to", tried(6), x -> x.trial(0, 27), -1);
    RoomsThatChange x = Checks.house("rp012011;rf000011;");
    for (int i = 1; i <= 5; i++) x.trial(26, 24);
    C.due("the sixth is one", x.trial(0, 0), 6);
    C.due("and counts: none fits", x.fits(3), 0);
    C.due("a TRIAL without ROOMS", new RoomsThatChange().trial(26, 0), 1);
  }

  private static RoomsThatChange tried(int many) {
    RoomsThatChange x = Checks.house("rp012011;rf000011;g000333;");
    for (int i = 1; i <= many; i++) C.due("\"6 TRIALS at most\"", x.trial(0, 1), i);
    return x;
  }

  /** Promise 21; Terms: "those of these ROOMS (bits) with which all TRIALS are so (ALONE, NIGHT 0)". */
  private static void fitsAt() {
    C.inMind("none may be", tried(1), x -> x.fits(0), 0);
    C.inMind("all fit without TRIALS", tried(0), x -> x.fits(3), 3);
    C.inMind("one fits", tried(1), x -> x.fits(3), 1);
    C.inMind("that may not be", tried(1), x -> x.fits(2), 0);
    RoomsThatChange all = Checks.house("rp012011;rt012021;rh012011;ru012011;rp012011;rd012011;", "g200333;");
    all.sleep(0, 2);
    all.night();
    all.trial(1, 2);
    C.inMind("\"ALONE, NIGHT 0\": LAST, TWO and UNDO are as PLAIN, DAY is nothing", all, x -> x.fits(63), 31);
    all.trial(0, 0);
    C.inMind("\"all TRIALS\"", all, x -> x.fits(63), 0);
    RoomsThatChange sixth = Checks.house("rp000011;rp000011;rp000011;rp000011;rp000011;rp000111;");
    sixth.trial(2, 1);
    C.inMind("the sixth", sixth, x -> x.fits(63), 32);
    C.inMind("without ROOMS", new RoomsThatChange(), x -> x.fits(0), 0);
  }

  /** Promise 22; Terms: "the STATE of which most unlike ones come ..., of several the least; -9 fewer than two fit". */
  private static void nextAt() {
    C.inMind("\"-9 fewer than two fit\": none may be", tried(0), x -> x.next(0), -9);
    C.inMind("\"-9 fewer than two fit\": one may be", tried(0), x -> x.next(2), -9);
    C.inMind("\"-9 fewer than two fit\": one fits", tried(1), x -> x.next(3), -9);
    C.inMind("two fit", tried(0), x -> x.next(3), 0);
    C.inMind("\"of several the least\": none tells", Checks.house("rp012011;rp012012;"), x -> x.next(3), 0);
    C.inMind("the greatest MARKS tell", Checks.house("rp200011;rf000011;rp200111;"), x -> x.next(7), 18);
    C.inMind("\"most unlike ones\": two of 0, three of 1", Checks.house("rp010211;rp002211;rf000011;"), x -> x.next(7), 1);
    C.inMind("\"NIGHT 0\": DAY is as FREE", Checks.house("rd002211;rf000011;"), x -> x.next(3), 0);
    C.inMind("\"-9\" without ROOMS", new RoomsThatChange(), x -> x.next(0), -9);
  }

  /** Promise 23; Terms: "the fewest GUESTS' STATES (1 .. 2) ...; 0 fewer than two fit; -9". */
  private static void sureAt() {
    C.inMind("\"0 fewer than two fit\": none may be", tried(0), x -> x.sure(0), 0);
    C.inMind("\"0 fewer than two fit\": one may be", tried(0), x -> x.sure(1), 0);
    C.inMind("\"0 fewer than two fit\": one fits", tried(1), x -> x.sure(3), 0);
    C.inMind("\"(1\"", tried(0), x -> x.sure(3), 1);
    C.inMind("1 by the greatest STATE's MARK", Checks.house("rp200111;rp200011;"), x -> x.sure(3), 1);
    String three = "rf000011;rp011211;rp002211;rp001011;";
    C.inMind("\".. 2)\"", Checks.house(three), x -> x.sure(7), 2);
    C.inMind("3 are too many", Checks.house(three), x -> x.sure(15), -9);
    C.inMind("\"-9\": two are the same", Checks.house("rp012011;rt012029;rf000011;"), x -> x.sure(7), -9);
    C.inMind("\"NIGHT 0\": DAY is as FREE", Checks.house("rd012011;rf000011;"), x -> x.sure(3), -9);
    C.inMind("\"NIGHT 0\": FREE is as DAY", Checks.house("rf000011;rd012011;"), x -> x.sure(3), -9);
    C.inMind("STATE 0 alone tells", Checks.house("rp011211;rp111211;rp211211;rf000011;"), x -> x.sure(15), 1);
    C.inMind("STATE 26 alone tells", Checks.house("rp001011;rp101011;rp201011;rf000011;"), x -> x.sure(15), 1);
    RoomsThatChange same = Checks.house("rp012011;rt012029;rf000011;rf000011;");
    C.inMind("\"all that fit\": one of the same may not be", same, x -> x.sure(5), 1);
    C.inMind("\"all that fit\": the other may not be", same, x -> x.sure(10), 1);
    C.inMind("\"0\" without ROOMS", new RoomsThatChange(), x -> x.sure(0), 0);
    C.inMind("six by one", Checks.house("rf000011;rp012011;rp020111;rp112011;rp120111;rp212011;"), x -> x.sure(63), 1);
  }

  /** "-1 bits of ROOMS that there are not", "-1 likewise". */
  private static void bitsRefused() {
    for (int may : new int[] {8, 9, 15, 64, -1, LEAST, GREATEST}) {
      C.refused("fits \"-1 bits\" " + may, steps(), x -> x.fits(may), -1);
      C.refused("next \"-1 likewise\" " + may, steps(), x -> x.next(may), -1);
      C.refused("sure \"-1 likewise\" " + may, steps(), x -> x.sure(may), -1);
    }
    C.refused("fits \"-1 bits\" without ROOMS", new RoomsThatChange(), x -> x.fits(1), -1);
    C.refused("next \"-1 likewise\" without ROOMS", new RoomsThatChange(), x -> x.next(1), -1);
    C.refused("sure \"-1 likewise\" without ROOMS", new RoomsThatChange(), x -> x.sure(1), -1);
    String six = "rf000011;".repeat(6);
    C.inMind("63 of six", Checks.house(six), x -> x.fits(63), 63);
    C.refused("64 of six", Checks.house(six), x -> x.fits(64), -1);
  }

  /** Each wishes for MARK 0 what the one behind him in numbers has of it; GUEST 0 has the table's. */
  private static RoomsThatChange line() {
    return Checks.house("rh000013;rp000011;", "g100033;g200133;g000233;g111033;g222133;");
  }

  /** Promise 24; Terms: "(NIGHT 0 the first; nobody was LAST): how many of these have their WISH then". */
  private static void heirsAt() {
    C.inMind("none of none", line(), x -> x.heirs(0, 0, 0), 0);
    C.inMind("none, whatever the digits", line(), x -> x.heirs(0, 0, 99), 0);
    C.inMind("one", line(), x -> x.heirs(0, 1, 0), 1);
    C.inMind("one, the last", line(), x -> x.heirs(0, 1, 4), 0);
    C.inMind("\"the lowest first\"", line(), x -> x.heirs(0, 5, 43210), 5);
    C.inMind("the highest first", line(), x -> x.heirs(0, 5, 1234), 0);
    C.inMind("\"how many of these\": no others", Checks.house("rh022211;g000033;g000233;"), x -> x.heirs(0, 1, 0), 0);
    C.inMind("digits behind the n-th do not tell", line(), x -> x.heirs(0, 2, 910), 2);
    C.inMind("the greatest int", Checks.house("rh000011;", "g000333;".repeat(5)), x -> x.heirs(0, 0, GREATEST), 0);
    RoomsThatChange x = line();
    x.sleep(1, 0);
    x.night();
    C.inMind("\"nobody was LAST\"", x, y -> y.heirs(0, 1, 0), 1);
    RoomsThatChange had = Checks.house("rh022211;g000033;g222332;");
    C.inMind("a WISH that was had is had no more", had, y -> y.heirs(0, 2, 10), 1);
  }

  /** "-1 ROOM; -2 another KIND; -4 n; -6 5; -1 one that there is not, one twice." */
  private static void heirsRefused() {
    C.refused("heirs \"-1 ROOM\"", line(), x -> x.heirs(2, 1, 0), -1);
    C.refused("heirs \"-1 ROOM\", below", line(), x -> x.heirs(-1, 1, 0), -1);
    C.refused("heirs \"-2 another KIND\"", line(), x -> x.heirs(1, 1, 0), -2);
    C.refused("heirs \"-4 n\"", line(), x -> x.heirs(0, -1, 0), -4);
    C.refused("heirs \"-4 n\", the least int", line(), x -> x.heirs(0, LEAST, 0), -4);
    C.refused("heirs \"-6 5\"", line(), x -> x.heirs(0, 6, 43210), -6);
    C.refused("heirs \"-6 5\", the greatest int", line(), x -> x.heirs(0, GREATEST, 0), -6);
    C.refused("heirs \"one that there is not\"", line(), x -> x.heirs(0, 1, 5), -1);
    C.refused("heirs \"one that there is not\", the last", line(), x -> x.heirs(0, 5, 93210), -1);
    C.refused("heirs \"one that there is not\", below", line(), x -> x.heirs(0, 1, -1), -1);
    C.refused("heirs \"one twice\"", line(), x -> x.heirs(0, 2, 11), -1);
    C.refused("heirs \"one twice\", the last two", line(), x -> x.heirs(0, 5, 33210), -1);
    C.refused("heirs \"one twice\", the first and the last", line(), x -> x.heirs(0, 5, 3210), -1);
    C.refused("heirs \"one twice\": 0 by digits that lack", line(), x -> x.heirs(0, 4, 10), -1);
    C.refused("heirs of nobody", Checks.house("rh000011;"), x -> x.heirs(0, 1, 0), -1);
    C.refused("heirs: -1 ROOM is told ahead of -4", line(), x -> x.heirs(2, -1, 99), -1);
    C.refused("heirs: -2 is told ahead of -4", line(), x -> x.heirs(1, -1, 99), -2);
    C.refused("heirs: -2 is told ahead of -6", line(), x -> x.heirs(1, 6, 99), -2);
    C.refused("heirs: -4 is told ahead of -1", line(), x -> x.heirs(0, -1, 99), -4);
    C.refused("heirs: -6 is told ahead of -1", line(), x -> x.heirs(0, 6, 99), -6);
    String kinds = "ptdfsu";
    for (int i = 0; i < 6; i++) {
      String other = "r" + kinds.charAt(i) + "000011;g000333;";
      C.refused("heirs \"-2 another KIND\": " + kinds.charAt(i), Checks.house(other), x -> x.heirs(0, 1, 0), -2);
      C.refused("bestOrder \"-2 another KIND\": " + kinds.charAt(i), Checks.house(other), x -> x.bestOrder(0, 0), -2);
    }
  }

  /** Promise 25; Terms: "of all orders of all GUESTS that with most, of several the first by numbers". */
  private static void bestOrderAt() {
    order("all five", line(), 5, 0, 1, 2, 3, 4);
    order("nobody", Checks.house("rh000011;"), 0);
    order("one who has it", Checks.house("rh000011;g200033;"), 1, 0);
    order("one who has it not", Checks.house("rh000011;g200233;"), 0, 0);
    order("\"of several the first by numbers\"", Checks.house("rh000011;g000033;g000033;g000033;"), 3, 0, 1, 2);
    order("\"that with most\" is the last by numbers", Checks.house("rh000011;g000133;g100233;g200033;"), 3, 2, 1, 0);
    order("none of five has it", Checks.house("rh000011;g000310;g010320;", "g020301;g001302;g002300;"), 0, 0, 1, 2, 3, 4);
    RoomsThatChange x = Checks.house("rh000011;g200133;g100033;");
    x.sleep(0, 0);
    x.night();
    C.due("\"nobody was LAST\": GUEST 0 is 0 now", x.guest(0, 0), 0);
    order("as they are now", x, 2, 1, 0);
  }

  /** A line of five that has but one best order: each of the 120 is that one, if they are told so. */
  private static void bestOfEachOrder() {
    String[] line = {"g100033;", "g100133;", "g000133;", "g200033;", "g200233;"};
    for (int code = 0; code < 3125; code++) {
      int[] order = {code / 625, code / 125 % 5, code / 25 % 5, code / 5 % 5, code % 5};
      String[] told = new String[5];
      int seen = 0;
      for (int i = 0; i < 5; i++) {
        told[order[i]] = line[i];
        seen |= 1 << order[i];
      }
      if (seen == 31) order("one of 120", Checks.house("rh000011;", String.join("", told)), 5, order);
    }
  }

  private static void order(String name, RoomsThatChange x, int most, int... guests) {
    C.due(name + ": \"how many (i -1)\"", x.bestOrder(0, -1), most);
    for (int i = 0; i < guests.length; i++) C.due(name + ": its GUEST " + i, x.bestOrder(0, i), guests[i]);
    for (int i = guests.length; i <= 5; i++) C.due(name + ": \"-9 none such\" " + i, x.bestOrder(0, i), -9);
    C.inMind(name + ": \"-9 none such\"", x, y -> y.bestOrder(0, GREATEST), -9);
  }

  /** "-1; -2 another KIND; -4 i." */
  private static void bestOrderRefused() {
    C.refused("bestOrder \"-1\"", line(), x -> x.bestOrder(2, 0), -1);
    C.refused("bestOrder \"-1\", below", line(), x -> x.bestOrder(-1, 0), -1);
    C.refused("bestOrder \"-2 another KIND\"", line(), x -> x.bestOrder(1, 0), -2);
    C.refused("bestOrder \"-4 i\"", line(), x -> x.bestOrder(0, -2), -4);
    C.refused("bestOrder \"-4 i\", the least int", line(), x -> x.bestOrder(0, LEAST), -4);
    C.refused("bestOrder: -1 is told ahead of -4", line(), x -> x.bestOrder(2, -2), -1);
    C.refused("bestOrder: -2 is told ahead of -4", line(), x -> x.bestOrder(1, -2), -2);
    C.inMind("bestOrder: i -1 is no refusal", line(), x -> x.bestOrder(0, -1), 5);
  }
}
