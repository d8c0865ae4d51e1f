/**
 * Promises 1 to 9 and 26 to 31, and the Terms that they rest on, at their edges: each sentence of the document that
 * names a boundary case has a test of its own, which is named by that sentence.
 */
public final class HouseEdgesTest {
  private static final Checks C = new Checks("HouseEdgesTest");
  private static final int LEAST = Integer.MIN_VALUE;
  private static final int GREATEST = Integer.MAX_VALUE;
  private static final String DIGITS = "0123456789";

  public static void main(String[] args) {
    newObject();
    letterRefused();
    letterFull();
    letterAt();
    faultOfEveryLetter();
    faultOfEveryEnd();
    faultBehindGoodOnes();
    numbersOfRooms();
    numbersOfGuests();
    priceOfOneOrTwoDigits();
    noRoomForMore();
    faultsInOrder();
    innAndItsLetters();
    roomAt();
    guestAt();
    wishOfThree();
    sleepAt();
    bedsAreFree();
    stayAt();
    nightAt();
    numbersOfNights();
    lastAt();
    heirAt();
    twoAt();
    dayAt();
    freeAndSwitchAt();
    undoAt();
    makesAt();
    weekAt();
    weekDraws();
    rowAt();
    judgeAt();
    imageAt();
    imageOfEach();
    onWithoutImage();
    countAt();
    fiveHundredAndTwelve();
    C.end();
  }

  private static RoomsThatChange full() {
    return Checks.house("rp012011;rh112022;rt2120299;rd021013;rf100114;rs200015;",
        "g000222;g111333;g222012;g012210;g120333;");
  }

  /** Promise 1, "No ROOMS, nobody." */
  private static void newObject() {
    RoomsThatChange other = Checks.lived();
    other.image();
    RoomsThatChange x = new RoomsThatChange();
    for (int what = 0; what <= 7; what++) C.due("\"No ROOMS, nobody\": count " + what, x.count(what), 0);
    for (int refusals : Checks.refusals(x)) C.due("\"No ROOMS, nobody\": no refusals", refusals, 0);
    C.refused("\"No ROOMS\"", x, y -> y.room(0, 0), -1);
    C.refused("\"nobody\"", x, y -> y.guest(0, 0), -1);
    C.refused("no image of another object", x, RoomsThatChange::on, -3);
    C.due("no letters of another object", x.letter('r'), 1);
    C.due("no ROW of another object", x.row(0), 1);
    C.due("no TRIALS of another object", x.trial(0, 0), 1);
  }

  /** Promise 2, "A letter (0 .. 255) comes ... -4; -6 (255". */
  private static void letterRefused() {
    C.refused("letter \"-4\"", Checks.lived(), x -> x.letter(-1), -4);
    C.refused("letter \"-4\", the least int", Checks.lived(), x -> x.letter(LEAST), -4);
    C.refused("letter \"-6 (255\"", Checks.lived(), x -> x.letter(256), -6);
    C.refused("letter \"-6 (255\", the greatest int", Checks.lived(), x -> x.letter(GREATEST), -6);
  }

  /** Promise 2, "64, too)". */
  private static void letterFull() {
    C.refused("letter \"64, too\"", told64(), x -> x.letter('r'), -6);
    C.refused("letter \"64, too\", of 0", told64(), x -> x.letter(0), -6);
    C.refused("letter \"64, too\": -4 is told first", told64(), x -> x.letter(-1), -4);
    C.refused("letter \"64, too\" and above 255 is one refusal", told64(), x -> x.letter(256), -6);
    RoomsThatChange x = told64();
    x.inn();
    for (int i = 1; i <= 64; i++) C.due("64 come again behind inn", x.letter('r'), i);
    C.due("and no 65th", x.letter('r'), -6);
  }

  private static RoomsThatChange told64() {
    RoomsThatChange x = new RoomsThatChange();
    for (int i = 1; i <= 64; i++) C.due("\"64 at most\"", x.letter('g'), i);
    return x;
  }

  private static void letterAt() {
    RoomsThatChange x = new RoomsThatChange();
    C.due("\"A letter (0\"", x.letter(0), 1);
    C.due("\".. 255) comes\"", x.letter(255), 2);
    C.due("\"how many there are\"", x.count(6), 2);
    x.letter(-1);
    x.letter(256);
    C.due("a refused one does not come", x.letter(1), 3);
  }

  /** Terms: at each place each letter goes on, or is "the first letter with which no INN can go on". */
  private static void faultOfEveryLetter() {
    String text = "rp0120199;g012321;";
    String[] goOn = {"rg", "phtdfsu", DIGITS, DIGITS, DIGITS, DIGITS, DIGITS, DIGITS, DIGITS + ";", ";",
        "rg", DIGITS, DIGITS, DIGITS, DIGITS, DIGITS, DIGITS, ";"};
    for (int place = 0; place < text.length(); place++) {
      for (int c = 0; c <= 255; c++) {
        RoomsThatChange x = new RoomsThatChange();
        for (int i = 0; i < place; i++) x.letter(text.charAt(i));
        x.letter(c);
        boolean goesOn = goOn[place].indexOf(c) >= 0;
        int due = !goesOn ? -1000 - place : c != ';' ? -1001 - place : place < 10 ? 1 : 2;
        C.due("\"no INN can go on\": letter " + c + " at place " + place, x.inn(), due);
      }
    }
  }

  /** Terms: "(the end, if something lacks)". */
  private static void faultOfEveryEnd() {
    String text = "g012321;rs2210205;g222333;";
    for (int end = 0; end <= text.length(); end++) {
      int due = end == 8 ? 1 : end == 18 ? 2 : end == 26 ? 3 : -1000 - end;
      C.due("\"the end, if something lacks\": " + end, Checks.tell(new RoomsThatChange(), text.substring(0, end)), due);
    }
    String longest = "g000333;".repeat(7);
    for (int end = 56; end < 64; end++) {
      String lacks = longest + "g000333;".substring(0, end - 56);
      C.due("the end near 64: " + end, Checks.tell(new RoomsThatChange(), lacks), end == 56 ? -2040 : -1000 - end);
    }
    C.due("64 letters and something lacks", Checks.tell(new RoomsThatChange(), longest + "rp000011"), -1064);
    C.due("64 letters, the last is wrong", Checks.tell(new RoomsThatChange(), longest + "g0003333"), -1063);
    C.due("64 letters, and no room for more", Checks.tell(new RoomsThatChange(), longest + "g000333;"), -2040);
    C.due("64 letters are an INN", Checks.tell(new RoomsThatChange(),
        "g000333;g000333;g000333;rp0000110;rp0000110;rp0000110;rp0000110;"), 7);
  }

  /** Terms: "else kind 2": kind 1 goes ahead, wherever it stands. */
  private static void faultBehindGoodOnes() {
    fault("kind 1 behind a good STATEMENT", "rp000011;x", -1009);
    fault("kind 1 behind one of kind 2", "rp300011;x", -1009);
    fault("kind 1 in one of kind 2", "rp300x11;", -1005);
    fault("kind 1 at the end of one of kind 2", "g444444", -1007);
    fault("kind 1 behind no room for more", "g000333;".repeat(6) + "q", -1048);
    fault("\"At least one STATEMENT\"", "", -1000);
    fault("a \";\" more", "g000333;;", -1008);
    fault("a letter between", "g000333; g000333;", -1008);
  }

  /** "Without FAULT all of it comes to what there is, with one nothing"; "nothing is counted". */
  private static void fault(String name, String text, int want) {
    RoomsThatChange x = Checks.house("rp012013;g000133;");
    String before = Checks.seen(x);
    C.due(name, Checks.tell(x, text), want);
    C.holds(name + ": \"with one nothing\"", Checks.seen(x).equals(before));
    for (int refusals : Checks.refusals(x)) C.due(name + ": \"nothing is counted\"", refusals, 0);
    C.due(name + ": letters are no more", x.letter('r'), 1);
  }

  /** Terms: "a MARK (a digit, 0 .. 2), three digits (0 .. 2 ...), BEDS (a digit, 1 or 2)". */
  private static void numbersOfRooms() {
    int[] least = {0, 0, 0, 0, 1, 0, 0};
    int[] greatest = {2, 2, 2, 2, 2, 9, 9};
    for (int place = 2; place <= 8; place++) {
      for (int digit = 0; digit <= 9; digit++) {
        StringBuilder text = new StringBuilder("rp1210147;");
        text.setCharAt(place, (char) ('0' + digit));
        boolean fit = digit >= least[place - 2] && digit <= greatest[place - 2];
        String name = "a ROOM's number " + digit + " at place " + place;
        if (!fit) fault(name, text.toString(), -2000);
        if (!fit) fault(name + " behind a GUEST", "g000333;" + text, -2008);
        RoomsThatChange x = new RoomsThatChange();
        C.due(name, Checks.tell(x, text.toString()), fit ? 1 : -2000);
        C.due(name + " comes, or not", x.count(0), fit ? 1 : 0);
        if (fit && place < 7) C.due(name + " is what was told", x.room(0, place - 1), digit);
      }
    }
  }

  /** Terms: "three digits (0 .. 2: MARKS 0, 1, 2 now) and three (0 .. 3: those WISHED; 3: any)". */
  private static void numbersOfGuests() {
    int[] weight = {1, 3, 9};
    for (int place = 1; place <= 6; place++) {
      for (int digit = 0; digit <= 9; digit++) {
        StringBuilder text = new StringBuilder("g000333;");
        text.setCharAt(place, (char) ('0' + digit));
        boolean fit = digit <= (place < 4 ? 2 : 3);
        String name = "a GUEST's number " + digit + " at place " + place;
        if (!fit) fault(name, text.toString(), -2000);
        if (!fit) fault(name + " behind a ROOM", "rp0000110;" + text, -2010);
        RoomsThatChange x = new RoomsThatChange();
        C.due(name, Checks.tell(x, text.toString()), fit ? 1 : -2000);
        if (fit && place < 4) C.due(name + " is his MARK", x.guest(0, 0), digit * weight[place - 1]);
        if (fit && place > 3) C.due(name + " is WISHED", x.guest(0, place - 3), digit);
      }
    }
    C.due("the least STATE", Checks.house("g000333;").guest(0, 0), 0);
    C.due("the greatest STATE", Checks.house("g222333;").guest(0, 0), 26);
  }

  /** Terms: "PRICE (1 or 2 digits)", "Numbers may begin with 0". */
  private static void priceOfOneOrTwoDigits() {
    C.due("one digit, the least", Checks.house("rp000010;").room(0, 6), 0);
    C.due("one digit, the greatest", Checks.house("rp000019;").room(0, 6), 9);
    C.due("two digits, the least", Checks.house("rp0000100;").room(0, 6), 0);
    C.due("\"Numbers may begin with 0\"", Checks.house("rp0000109;").room(0, 6), 9);
    C.due("two digits, 10", Checks.house("rp0000110;").room(0, 6), 10);
    C.due("two digits, the greatest", Checks.house("rp0000199;").room(0, 6), 99);
    fault("no digit", "rp00001;", -1007);
    fault("three digits", "rp00001001;", -1009);
  }

  /** Terms: "a ROOM more (6 at most)", "a GUEST more (5 at most)", "no room for more". */
  private static void noRoomForMore() {
    String rooms = "rf000010;";
    String guests = "g000333;";
    C.due("six ROOMS", Checks.tell(new RoomsThatChange(), rooms.repeat(6)), 6);
    C.due("seven ROOMS", Checks.tell(new RoomsThatChange(), rooms.repeat(7)), -2054);
    C.due("five GUESTS", Checks.tell(new RoomsThatChange(), guests.repeat(5)), 5);
    C.due("six GUESTS", Checks.tell(new RoomsThatChange(), guests.repeat(6)), -2040);
    RoomsThatChange x = Checks.house(rooms.repeat(5), guests.repeat(4));
    C.due("two ROOMS for one", Checks.tell(x, rooms.repeat(2)), -2009);
    C.due("neither came", x.count(0), 5);
    C.due("two GUESTS for one", Checks.tell(x, guests.repeat(2)), -2008);
    C.due("neither came", x.count(1), 4);
    C.due("a GUEST does not come with a ROOM too many", Checks.tell(x, guests + rooms + rooms), -2017);
    C.due("so there are", x.count(1), 4);
    C.due("one of each", Checks.tell(x, rooms + guests), 2);
    C.due("the sixth ROOM", x.room(5, 0), 4);
    C.due("the fifth GUEST", x.guest(4, 0), 0);
    C.due("a seventh", Checks.tell(x, rooms), -2000);
    C.due("a sixth", Checks.tell(x, guests), -2000);
    C.due("ROOMS", x.count(0), 6);
    C.due("GUESTS", x.count(1), 5);
    for (int refusals : Checks.refusals(x)) C.due("\"nothing is counted\"", refusals, 0);
  }

  /** Terms: "the first STATEMENT that, behind all ahead of it in the text, is not as it must be". */
  private static void faultsInOrder() {
    C.due("the first of two", Checks.tell(new RoomsThatChange(), "g000333;rp300011;g400000;"), -2008);
    C.due("out of range ahead of no room", Checks.tell(new RoomsThatChange(), "g000338;" + "g000333;".repeat(6)), -2000);
    C.due("no room ahead of out of range", Checks.tell(new RoomsThatChange(), "g000333;".repeat(6) + "g000338;"), -2040);
    C.due("ROOMS take no room of GUESTS",
        Checks.tell(new RoomsThatChange(), "g000333;".repeat(5) + "rp000011;rp000011;"), 7);
  }

  /** Promise 3, "The letters become an INN, and are no more (with a FAULT neither)". */
  private static void innAndItsLetters() {
    RoomsThatChange x = new RoomsThatChange();
    C.due("\"how many STATEMENTS\"", Checks.tell(x, "rp000011;"), 1);
    C.due("\"and are no more\"", x.count(6), 0);
    C.due("none are no INN", x.inn(), -1000);
    C.due("a FAULT", Checks.tell(x, "rp00"), -1004);
    C.due("\"with a FAULT neither\"", x.count(6), 0);
    C.due("the next is told from its start", Checks.tell(x, "g000333;"), 1);
    C.due("\"all of it comes to what there is\": ROOMS", x.count(0), 1);
    C.due("\"all of it comes to what there is\": GUESTS", x.count(1), 1);
    RoomsThatChange y = Checks.lived();
    y.inn();
    Checks.tell(y, "rf000019;g012333;");
    C.due("what there is stays: LAST", y.room(0, 7), 0);
    C.due("what there is stays: who is to go", y.guest(1, 6), 0);
    C.due("what there is stays: paid", y.guest(1, 5), 5);
    C.due("what there is stays: the NIGHT", y.count(2), 1);
    C.due("who comes slept nowhere", y.guest(3, 7), -9);
    C.due("who comes is to go nowhere", y.guest(3, 6), -9);
    C.due("who comes paid nothing", y.guest(3, 5), 0);
    C.due("nobody slept in what comes", y.room(3, 7), -9);
  }

  /** Promise 4, "-1; -2." */
  private static void roomAt() {
    C.inMind("the last ROOM, what 0", full(), x -> x.room(5, 0), 5);
    C.inMind("the first ROOM, what 7: \"-9 none\"", full(), x -> x.room(0, 7), -9);
    C.refused("room \"-1\", behind the last", full(), x -> x.room(6, 0), -1);
    C.refused("room \"-1\", behind the last of three", Checks.lived(), x -> x.room(3, 0), -1);
    C.refused("room \"-1\", below", full(), x -> x.room(-1, 0), -1);
    C.refused("room \"-1\", the least int", full(), x -> x.room(LEAST, 0), -1);
    C.refused("room \"-1\", the greatest int", full(), x -> x.room(GREATEST, 0), -1);
    C.refused("room \"-2\", above", full(), x -> x.room(0, 8), -2);
    C.refused("room \"-2\", below", full(), x -> x.room(0, -1), -2);
    C.refused("room \"-2\", the least int", full(), x -> x.room(0, LEAST), -2);
    C.refused("room \"-2\", the greatest int", full(), x -> x.room(0, GREATEST), -2);
    C.refused("room: -1 is told first", full(), x -> x.room(6, 8), -1);
    String kinds = "phtdfsu";
    for (int kind = 0; kind < 7; kind++) {
      C.due("\"0 p .. 6 u\"", Checks.house("r" + kinds.charAt(kind) + "000010;").room(0, 0), kind);
    }
  }

  /** Promise 5, "-1; -2." */
  private static void guestAt() {
    C.inMind("the last GUEST, what 0", full(), x -> x.guest(4, 0), 1 + 2 * 3);
    C.inMind("what 6: \"-9 none\"", full(), x -> x.guest(0, 6), -9);
    C.inMind("what 7: \"-9 none\"", full(), x -> x.guest(0, 7), -9);
    C.refused("guest \"-1\", behind the last", full(), x -> x.guest(5, 0), -1);
    C.refused("guest \"-1\", behind the last of three", Checks.lived(), x -> x.guest(3, 0), -1);
    C.refused("guest \"-1\", below", full(), x -> x.guest(-1, 0), -1);
    C.refused("guest \"-1\", the least int", full(), x -> x.guest(LEAST, 0), -1);
    C.refused("guest \"-1\", the greatest int", full(), x -> x.guest(GREATEST, 0), -1);
    C.refused("guest \"-2\", above", full(), x -> x.guest(0, 8), -2);
    C.refused("guest \"-2\", below", full(), x -> x.guest(0, -1), -2);
    C.refused("guest \"-2\", the least int", full(), x -> x.guest(0, LEAST), -2);
    C.refused("guest \"-2\", the greatest int", full(), x -> x.guest(0, GREATEST), -2);
    C.refused("guest: -1 is told first", full(), x -> x.guest(5, 8), -1);
  }

  /** Terms: "A WISH is had, if all MARKS are as WISHED", "3: any". */
  private static void wishOfThree() {
    C.due("all MARKS", Checks.house("g012012;").guest(0, 4), 1);
    C.due("all but MARK 0", Checks.house("g112012;").guest(0, 4), 0);
    C.due("all but MARK 1", Checks.house("g002012;").guest(0, 4), 0);
    C.due("all but MARK 2", Checks.house("g011012;").guest(0, 4), 0);
    C.due("any MARK 0", Checks.house("g212312;").guest(0, 4), 1);
    C.due("any MARK 1", Checks.house("g022032;").guest(0, 4), 1);
    C.due("any MARK 2", Checks.house("g010013;").guest(0, 4), 1);
    C.due("any of all", Checks.house("g222333;").guest(0, 4), 1);
  }

  /** Promise 6, "-1 either; -3 none is free." */
  private static void sleepAt() {
    C.refused("sleep \"-1 either\": GUEST", Checks.lived(), x -> x.sleep(3, 0), -1);
    C.refused("sleep \"-1 either\": GUEST below", Checks.lived(), x -> x.sleep(-1, 0), -1);
    C.refused("sleep \"-1 either\": ROOM", Checks.lived(), x -> x.sleep(0, 3), -1);
    C.refused("sleep \"-1 either\": ROOM below", Checks.lived(), x -> x.sleep(0, -1), -1);
    C.refused("sleep: both are one refusal", Checks.lived(), x -> x.sleep(GREATEST, LEAST), -1);
    C.refused("sleep \"-3 none is free\"", Checks.lived(), x -> x.sleep(0, 1), -3);
    C.refused("sleep \"-3\": he leaves nothing", Checks.lived(), x -> x.sleep(1, 1), -3);
    C.refused("sleep: -1 is told first", Checks.lived(), x -> x.sleep(3, 1), -1);
    C.refused("sleep \"-3\": two BEDS", twoInTwo(), x -> x.sleep(2, 0), -3);
  }

  private static RoomsThatChange twoInTwo() {
    RoomsThatChange x = Checks.house("rp012021;rp012012;g000333;g000333;g000333;");
    C.due("\"how many BEDS are free there then\": 1", x.sleep(0, 0), 1);
    C.due("\"how many BEDS are free there then\": 0", x.sleep(1, 0), 0);
    return x;
  }

  /** Terms: "if a BED is free (his own there, if he was to go there, is)"; "(he leaves where he was to go)". */
  private static void bedsAreFree() {
    RoomsThatChange x = twoInTwo();
    C.due("\"his own there is\", of the first", x.sleep(0, 0), 0);
    C.due("\"his own there is\", of the second", x.sleep(1, 0), 0);
    C.due("the only one", x.sleep(2, 1), 0);
    C.due("\"his own there is\", the only one", x.sleep(2, 1), 0);
    C.due("none for another", x.sleep(0, 1), -3);
    C.due("he is to go where he was to", x.guest(0, 6), 0);
    x.stay(2);
    C.due("now it is free", x.sleep(0, 1), 0);
    C.due("\"he leaves where he was to go\"", x.sleep(2, 0), 0);
    x.stay(1);
    x.stay(2);
    C.due("all are free but his", x.sleep(2, 0), 1);
    x.night();
    C.due("free behind the NIGHT", x.sleep(1, 1), 0);
  }

  /** Promise 7, "the ROOM he was to go to; -9. -1." */
  private static void stayAt() {
    C.refused("stay \"-1\"", Checks.lived(), x -> x.stay(3), -1);
    C.refused("stay \"-1\", below", Checks.lived(), x -> x.stay(-1), -1);
    C.refused("stay \"-1\", the least int", Checks.lived(), x -> x.stay(LEAST), -1);
    C.inMind("stay \"-9\"", Checks.lived(), x -> x.stay(0), -9);
    RoomsThatChange x = Checks.lived();
    C.due("ROOM 0 is a ROOM", x.stay(1), 0);
    C.due("\"The GUEST goes nowhere\"", x.guest(1, 6), -9);
    C.due("then -9", x.stay(1), -9);
    C.due("the other goes", x.guest(2, 6), 1);
    C.due("he does not sleep", x.night(), 1);
    C.due("and was nowhere", x.guest(1, 7), -9);
  }

  /** Promise 8, "how many slept"; "others stay as they are, pay nothing". */
  private static void nightAt() {
    C.due("nobody there", new RoomsThatChange().night(), 0);
    C.due("none went", full().night(), 0);
    RoomsThatChange x = full();
    for (int guest = 0; guest < 5; guest++) x.sleep(guest, guest);
    C.due("all five", x.night(), 5);
    C.due("\"each pays the PRICE\"", x.count(7), 1 + 2 + 99 + 3 + 4);
    C.due("none again", x.night(), 0);
    C.due("nobody pays", x.count(7), 109);
    for (int guest = 0; guest < 5; guest++) C.due("who stayed was nowhere", x.guest(guest, 7), -9);
    RoomsThatChange y = Checks.lived();
    int state = y.guest(0, 0);
    C.due("two of three", y.night(), 2);
    C.due("\"others stay as they are\"", y.guest(0, 0), state);
    C.due("\"pay nothing\"", y.guest(0, 5), 3);
    C.due("who slept pays again", y.guest(1, 5), 5 + 3);
    RoomsThatChange z = Checks.house("rf000020;rf0000299;g000333;g000333;");
    z.sleep(0, 0);
    z.sleep(1, 0);
    z.night();
    C.due("a PRICE of 0", z.count(7), 0);
    z.sleep(0, 1);
    z.sleep(1, 1);
    z.night();
    C.due("two in one ROOM pay both", z.count(7), 198);
    C.due("\"all that was paid\" of one", z.guest(0, 5), 99);
  }

  /** Terms: "by its number, 0 at first", "the NIGHT's number is 1 more". */
  private static void numbersOfNights() {
    RoomsThatChange x = Checks.house("rd012011;g000333;");
    int[] due = {0, 1, 1, 2, 2, 0};
    C.due("\"0 at first\"", x.count(2), 0);
    for (int number = 0; number < 6; number++) {
      x.sleep(0, 0);
      x.night();
      C.due("\"1 more\"", x.count(2), number + 1);
      C.due("DAY in NIGHT " + number, x.guest(0, 0), due[number]);
    }
  }

  /** Terms: "the LAST who slept there", "in the evening of his NIGHT there", "of two who were LAST the lesser GUEST". */
  private static void lastAt() {
    RoomsThatChange x = Checks.house("rp012021;rf000021;g000333;g110333;g222333;");
    C.due("\"-9 none\"", x.room(0, 7), -9);
    x.sleep(2, 0);
    C.due("who is to go was not yet", x.room(0, 7), -9);
    x.night();
    C.due("as he was in the evening", x.room(0, 7), 26);
    C.due("of that ROOM alone", x.room(1, 7), -9);
    x.sleep(2, 0);
    x.sleep(1, 0);
    x.night();
    C.due("\"of two the lesser GUEST\", told second", x.room(0, 7), 4);
    x.sleep(0, 0);
    x.sleep(2, 0);
    x.night();
    C.due("\"of two the lesser GUEST\", told first", x.room(0, 7), 0);
    x.sleep(0, 1);
    x.night();
    x.night();
    C.due("still LAST, nights later", x.room(0, 7), 0);
    C.due("STATE 1 of the evening", x.room(1, 7), 1);
  }

  /** Terms: "h HEIR ... (the table's, if none did)". */
  private static void heirAt() {
    RoomsThatChange x = Checks.house("rh112021;g000333;g121333;g212333;");
    x.sleep(0, 0);
    x.night();
    C.due("\"the table's, if none did\"", x.guest(0, 0), 3);
    x.sleep(1, 0);
    x.night();
    C.due("LAST had MARK 0 in the evening, not 1", x.guest(1, 0), 1 + 0 + 9);
    x.sleep(1, 0);
    x.sleep(2, 0);
    x.night();
    C.due("both of the LAST: his own", x.guest(1, 0), 1 + 6 + 9);
    C.due("both of the LAST: another's", x.guest(2, 0), 2 + 6 + 18);
    x.night();
    x.sleep(0, 0);
    x.night();
    C.due("a NIGHT between, of two the lesser", x.guest(0, 0), 0);
    RoomsThatChange y = Checks.house("rh000021;g100333;g200333;");
    y.sleep(0, 0);
    y.sleep(1, 0);
    y.night();
    C.due("two when none did: the table's", y.guest(0, 0), 0);
    C.due("two when none did: the table's, both", y.guest(1, 0), 0);
  }

  /** Terms: "t TWO ... two in it have each the other's MARK; one alone is as by PLAIN". */
  private static void twoAt() {
    RoomsThatChange x = Checks.house("rt112021;rt112021;g012333;g120333;");
    x.sleep(0, 0);
    x.sleep(1, 0);
    x.night();
    C.due("\"each the other's MARK\", the lesser", x.guest(0, 0), 0 + 6 + 18);
    C.due("\"each the other's MARK\", the greater", x.guest(1, 0), 1 + 3 + 0);
    x.sleep(0, 0);
    x.sleep(1, 1);
    x.night();
    C.due("\"one alone is as by PLAIN\": 2 becomes 0", x.guest(0, 0), 18);
    C.due("\"one alone is as by PLAIN\": 1 becomes 2", x.guest(1, 0), 1 + 6);
    x.sleep(0, 0);
    x.night();
    C.due("alone, the other at home", x.guest(0, 0), 3 + 18);
    RoomsThatChange y = Checks.house("rt011121;g000333;g100333;");
    y.sleep(0, 0);
    y.sleep(1, 0);
    y.night();
    C.due("the other's MARK 1", y.guest(0, 0), 1);
    C.due("the other's MARK 0, of STATE 0", y.guest(1, 0), 0);
  }

  /** Terms: "d DAY ... as PLAIN in NIGHTS of odd number; else nothing". */
  private static void dayAt() {
    for (int number = 0; number <= 99; number++) {
      C.due("DAY in NIGHT " + number, Checks.house("rd212011;").makes(0, 26, number), number % 2 == 1 ? 8 : 26);
    }
  }

  /** Terms: "f FREE ... nothing", "s SWITCH ... its MARK and the next one (0 behind 2) change about". */
  private static void freeAndSwitchAt() {
    for (int state = 0; state < 27; state++) C.due("FREE", Checks.house("rf012011;").makes(0, state, 1), state);
    C.due("SWITCH 0 and 1", Checks.house("rs000011;").makes(0, 0 + 3 + 18, 0), 1 + 0 + 18);
    C.due("SWITCH 1 and 2", Checks.house("rs100011;").makes(0, 0 + 3 + 18, 0), 0 + 6 + 9);
    C.due("SWITCH 2 and 0, \"0 behind 2\"", Checks.house("rs200011;").makes(0, 0 + 3 + 18, 0), 2 + 3 + 0);
    C.due("SWITCH of the same two", Checks.house("rs000011;").makes(0, 2 + 6 + 9, 0), 2 + 6 + 9);
  }

  /** Terms: "u UNDO ... as PLAIN; if the GUEST slept in it in the NIGHT ahead, he becomes as he was in that evening". */
  private static void undoAt() {
    RoomsThatChange x = Checks.house("ru012021;ru012021;rs000011;g020333;g020333;");
    x.sleep(0, 0);
    x.night();
    C.due("\"as PLAIN\"", x.guest(0, 0), 1 + 6);
    x.sleep(0, 0);
    x.night();
    C.due("\"as he was in that evening\"", x.guest(0, 0), 6);
    x.sleep(0, 0);
    x.night();
    C.due("and again, of the evening ahead", x.guest(0, 0), 1 + 6);
    x.sleep(0, 1);
    x.sleep(1, 0);
    x.night();
    C.due("another UNDO is as PLAIN", x.guest(0, 0), 2 + 6);
    C.due("another GUEST is as PLAIN", x.guest(1, 0), 1 + 6);
    x.night();
    x.sleep(0, 1);
    x.sleep(1, 0);
    x.night();
    C.due("a NIGHT at home between", x.guest(0, 0), 0 + 6);
    C.due("a NIGHT at home between, the other", x.guest(1, 0), 2 + 6);
    x.sleep(1, 2);
    x.night();
    x.sleep(1, 0);
    x.night();
    C.due("a NIGHT elsewhere between", x.guest(1, 0), 0 + 6);
  }

  /** Promise 9, "-1 either; -4; -6 99." */
  private static void makesAt() {
    C.inMind("STATE 0", full(), x -> x.makes(0, 0, 0), 1);
    C.inMind("STATE 26, the last ROOM, NIGHT 99", full(), x -> x.makes(5, 26, 99), 26);
    C.refused("makes \"-1 either\": ROOM", full(), x -> x.makes(6, 0, 0), -1);
    C.refused("makes \"-1 either\": ROOM below", full(), x -> x.makes(-1, 0, 0), -1);
    C.refused("makes \"-1 either\": STATE", full(), x -> x.makes(0, 27, 0), -1);
    C.refused("makes \"-1 either\": STATE below", full(), x -> x.makes(0, -1, 0), -1);
    C.refused("makes \"-4\"", full(), x -> x.makes(0, 0, -1), -4);
    C.refused("makes \"-4\", the least int", full(), x -> x.makes(0, 0, LEAST), -4);
    C.refused("makes \"-6 99\"", full(), x -> x.makes(0, 0, 100), -6);
    C.refused("makes \"-6 99\", the greatest int", full(), x -> x.makes(0, 0, GREATEST), -6);
    C.refused("makes: -1 is told first, of a ROOM", full(), x -> x.makes(6, 0, -1), -1);
    C.refused("makes: -1 is told first, of a STATE", full(), x -> x.makes(0, 27, 100), -1);
    C.inMind("ALONE: \"nobody was LAST\"", Checks.lived(), x -> x.makes(0, 1, 0), 2);
    C.inMind("ALONE: nobody slept ahead", Checks.lived(), x -> x.makes(2, 26, 0), 8);
    RoomsThatChange two = twoInTwo();
    C.inMind("ALONE: \"nobody else there\"", two, x -> x.makes(0, 1, 0), 2);
  }

  /** Promise 26, "-4; -6 14; -3 there are no ROOMS"; Terms: "n NIGHTS (1 .. 14), in mind". */
  private static void weekAt() {
    RoomsThatChange dear = Checks.house("rp0000299;g000333;g000333;g000333;g000333;g000333;");
    C.due("one NIGHT", dear.week(1, 0), 198);
    C.due("fourteen NIGHTS", dear.week(14, 0), 2772);
    C.refused("week \"-4\"", Checks.lived(), x -> x.week(0, 0), -4);
    C.refused("week \"-4\", the least int", Checks.lived(), x -> x.week(LEAST, 0), -4);
    C.refused("week \"-6 14\"", Checks.lived(), x -> x.week(15, 0), -6);
    C.refused("week \"-6 14\", the greatest int", Checks.lived(), x -> x.week(GREATEST, 0), -6);
    C.refused("week \"-3 there are no ROOMS\"", Checks.house("g000333;"), x -> x.week(1, 0), -3);
    C.refused("week \"-3\" of a new object", new RoomsThatChange(), x -> x.week(14, 0), -3);
    C.refused("week: -4 is told first", new RoomsThatChange(), x -> x.week(0, 0), -4);
    C.refused("week: -6 is told first", new RoomsThatChange(), x -> x.week(15, 0), -6);
    C.inMind("nobody there", Checks.house("rp000019;"), x -> x.week(14, 7), 0);
    // The seed 3 draws 1 1 0: the second GUEST goes nowhere, though he was to go to ROOM 0.
    C.inMind("\"in mind\", \"who is to go where is forgotten\"", twoInTwo(), x -> x.week(1, 3), 3);
    RoomsThatChange few = Checks.house("rf000012;rf000011;g000333;g000333;g000333;");
    C.inMind("\"in each\" BEDS are free anew: 1 1 0, 1 0 0", few, x -> x.week(2, 3), 6);
  }

  /**
   * "a DRAW below ROOMS, if a BED is free there, else nowhere"; below 6 the seed 0 draws 5 3 0 5 1, 2 2 5 0 3; 1 draws
   * 3 3 3 0 1, 1 5 3 2 0; -1 draws 1 2 2 3 4, 5 4 1 1 5; a seed that is another by its sign alone draws the same.
   */
  private static void weekDraws() {
    int[][] due = {{0, 75, 120, 701}, {1, 19, 66, 598}, {-1, 30, 112, 650}, {GREATEST, 30, 112, 650}, {LEAST, 75, 120, 701}};
    for (int[] of : due) {
      RoomsThatChange x = Checks.house("rf000011;rf000012;rf000014;rf000028;rf0000216;rf0000232;",
          "g000333;g000333;g000333;g000333;g000333;");
      C.due("one NIGHT by " + of[0], x.week(1, of[0]), of[1]);
      C.due("two NIGHTS by " + of[0], x.week(2, of[0]), of[2]);
      C.due("fourteen NIGHTS by " + of[0], x.week(14, of[0]), of[3]);
      C.due("the same once more", x.week(14, of[0]), of[3]);
    }
  }

  /** Promise 27, "A byte (0 .. 9) more ... -4; -6 (9; 6, too)". */
  private static void rowAt() {
    RoomsThatChange x = new RoomsThatChange();
    C.due("\"A byte (0\"", x.row(0), 1);
    C.due("\".. 9) more\"", x.row(9), 2);
    C.refused("row \"-4\"", Checks.lived(), y -> y.row(-1), -4);
    C.refused("row \"-4\", the least int", Checks.lived(), y -> y.row(LEAST), -4);
    C.refused("row \"-6 (9\"", Checks.lived(), y -> y.row(10), -6);
    C.refused("row \"-6 (9\", the greatest int", Checks.lived(), y -> y.row(GREATEST), -6);
    C.refused("row \"6, too\"", told(6), y -> y.row(0), -6);
    C.refused("row \"6, too\": -4 is told first", told(6), y -> y.row(-1), -4);
    C.refused("row \"6, too\" and above 9 is one refusal", told(6), y -> y.row(10), -6);
    RoomsThatChange y = told(6);
    y.judge(0);
    for (int i = 1; i <= 6; i++) C.due("six come again behind judge", y.row(0), i);
  }

  private static RoomsThatChange told(int many) {
    RoomsThatChange x = Checks.house("rp012011;rd012011;rh112011;ru212011;", "g000133;g222033;");
    for (int i = 1; i <= many; i++) C.due("\"6 at most\"", x.row(0), i);
    return x;
  }

  /** Promise 28; Terms: "the place of the first that is no ROOM; else its length, if his WISH is not had then; else -9". */
  private static void judgeAt() {
    C.refused("judge \"-1 (it stays)\"", told(3), x -> x.judge(2), -1);
    C.refused("judge \"-1 (it stays)\", below", told(6), x -> x.judge(-1), -1);
    C.refused("judge \"-1\" of an empty ROW", told(0), x -> x.judge(2), -1);
    C.due("\"whichever it answers\": no ROOM at 0", judged(0, 0, 9), 0);
    C.due("no ROOM at the last of six", judged(0, 0, 0, 0, 0, 0, 0, 4), 5);
    C.due("\"the first that is no ROOM\"", judged(0, 0, 0, 5, 4), 1);
    C.due("no ROOM, though his WISH were had", judged(0, 0, 0, 4), 1);
    C.due("\"its length\": none", judged(0, 0), 0);
    C.due("\"its length\": one", judged(0, 0, 3), 1);
    C.due("\"its length\": six", judged(0, 0, 0, 0, 0, 0, 0, 0), 6);
    C.due("-9 by none", judged(1, 0, 0), -9);
    C.due("-9 by one", judged(0, 0, 0), -9);
    C.due("-9 by six", judged(0, 0, 0, 0, 0, 3, 3, 0), -9);
    C.due("-9, told in an odd NIGHT", judged(0, 1, 3, 1), -9);
    C.due("\"NIGHT 0\" is even", judged(0, 1, 1), 1);
    RoomsThatChange x = told(0);
    x.row(4);
    Checks.tell(x, "rp012011;");
    C.due("no ROOM when told, one when judged", x.judge(0), -9);
  }

  /** Once with as many NIGHTS behind as told; the ROW has none then. */
  private static int judged(int guest, int nights, int... row) {
    RoomsThatChange x = told(0);
    for (int i = 0; i < nights; i++) x.night();
    for (int v : row) x.row(v);
    int answer = x.judge(guest);
    C.due("\"the ROW has none then\"", x.count(5), 0);
    C.due("in mind", x.guest(guest, 0), guest == 0 ? 0 : 26);
    return answer;
  }

  /** Promise 29, "THE IMAGE is taken: the NIGHT." */
  private static void imageAt() {
    C.inMind("the NIGHT, 0", full(), RoomsThatChange::image, 0);
    C.inMind("the NIGHT, 1", Checks.lived(), RoomsThatChange::image, 1);
    RoomsThatChange x = Checks.lived();
    x.image();
    x.night();
    C.due("a later one", x.image(), 2);
    x.night();
    C.due("\"ON from it\": the later", x.on(), 2);
    C.due("the NIGHT", x.count(2), 2);
    x.night();
    C.due("as often as one likes", x.on(), 2);
    C.due("nothing between", x.on(), 2);
    RoomsThatChange empty = new RoomsThatChange();
    empty.image();
    Checks.tell(empty, "rp012011;g000133;");
    empty.sleep(0, 0);
    empty.night();
    C.due("ON from nothing", empty.on(), 0);
    for (int what = 0; what <= 7; what++) C.due("all is as then: count " + what, empty.count(what), 0);
    C.due("no ROOM", empty.room(0, 7), -1);
    Checks.tell(empty, "rf222229;g111333;");
    C.due("told anew: LAST", empty.room(0, 7), -9);
    C.due("told anew: paid", empty.guest(0, 5), 0);
    C.due("told anew: slept nowhere", empty.guest(0, 7), -9);
  }

  /** "THE IMAGE: ROOMS, GUESTS, NIGHT, LAST ones, what was paid, who went, TRIALS; ON from it all is as then." */
  private static void imageOfEach() {
    RoomsThatChange x = Checks.lived();
    String before = Checks.seen(x);
    x.image();
    x.night();
    x.sleep(0, 0);
    x.sleep(1, 2);
    x.night();
    x.sleep(0, 2);
    x.trial(26, 26);
    x.inn();
    Checks.tell(x, "rp000011;g000000;");
    x.letter('g');
    x.on();
    C.holds("\"ON from it all is as then\"", Checks.seen(x).equals(before));
    x.night();
    C.due("as by the evening ahead, HEIR of LAST", x.guest(1, 0), 0 + 6);
    C.due("as by the evening ahead, PLAIN", x.guest(2, 0), 2 + 0 + 0);
    RoomsThatChange undo = Checks.house("ru012011;rd112011;g000333;");
    undo.sleep(0, 0);
    undo.night();
    undo.image();
    undo.sleep(0, 1);
    undo.night();
    undo.on();
    undo.sleep(0, 0);
    undo.night();
    C.due("\"who went\": UNDO knows the evening", undo.guest(0, 0), 0);
    undo.on();
    undo.sleep(0, 1);
    undo.night();
    C.due("\"NIGHT\": DAY knows its number", undo.guest(0, 0), 1 + 3);
    RoomsThatChange tried = Checks.house("rp012011;rf000011;");
    tried.trial(0, 1);
    tried.image();
    for (int i = 2; i <= 6; i++) tried.trial(0, 0);
    tried.on();
    C.due("\"TRIALS\": which", tried.fits(3), 1);
    C.due("\"TRIALS\": room for more again", tried.trial(2, 0), 2);
  }

  /** Promise 30, "-3 there is none." */
  private static void onWithoutImage() {
    C.refused("on \"-3 there is none\"", Checks.lived(), RoomsThatChange::on, -3);
    C.refused("on \"-3\" of a new object", new RoomsThatChange(), RoomsThatChange::on, -3);
    RoomsThatChange x = Checks.lived();
    x.image();
    x.room(9, 0);
    x.row(2);
    x.on();
    C.due("not in THE IMAGE: refusals", x.count(11), 1);
    C.due("not in THE IMAGE: the told ROW", x.count(5), 2);
    C.due("not in THE IMAGE: letters", x.count(6), 1);
  }

  /** Promise 31, "-9 for another what". */
  private static void countAt() {
    for (int what : new int[] {LEAST, -9, -1, 8, 9, 10, 17, 18, GREATEST}) {
      C.inMind("\"-9 for another what\": " + what, Checks.lived(), x -> x.count(what), -9);
    }
    int[] due = {3, 3, 1, 2, 1, 1, 1, 9};
    for (int what = 0; what <= 7; what++) C.due("count " + what, Checks.lived().count(what), due[what]);
    C.due("no WISH is had", Checks.house("g000133;g000313;").count(3), 0);
    C.due("all WISHES are had", Checks.house("g000333;g000033;g222222;g012012;g100333;").count(3), 5);
    RoomsThatChange x = Checks.lived();
    x.on();
    x.on();
    C.due("11 .. 16: -1", x.count(11), 0);
    C.due("11 .. 16: -3", x.count(13), 2);
    C.due("11 .. 16: -5 is told by no call", x.count(15), 0);
    C.due("11 .. 16: -6", x.count(16), 0);
  }

  /** "An object is used for at most 512 calls": the last of these is as due. */
  private static void fiveHundredAndTwelve() {
    RoomsThatChange x = new RoomsThatChange();
    for (int i = 1; i < 512; i++) x.night();
    C.due("511 NIGHTS, and the 512th call", x.count(2), 511);
    RoomsThatChange y = new RoomsThatChange();
    for (int i = 1; i < 512; i++) y.on();
    C.due("511 refusals, and the 512th call", y.count(13), 511);
  }
}
