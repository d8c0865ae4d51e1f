import java.util.Arrays;

/** An inn whose rooms change who sleeps in them; ../shared/DOC.md tells what each call promises. */
public final class RoomsThatChange {
  private static final int NOBODY = -1;
  private static final int OTHER = -2;
  private static final int UNFIT = -3;
  private static final int BELOW = -4;
  private static final int ABOVE = -6;
  private static final int NONE = -9;

  private static final int MARKS = 3;
  private static final int VALUES = 3;
  private static final int STATES = 27;
  private static final int ANY = 3;
  private static final int MOST_ROOMS = 6;
  private static final int MOST_GUESTS = 5;
  private static final int MOST_BEDS = 2;
  private static final int MOST_LETTERS = 64;
  /** The shortest STATEMENT has 8 letters. */
  private static final int MOST_STATEMENTS = 8;
  private static final int MOST_TRIALS = 6;
  private static final int MOST_TOLD = 6;
  private static final int GREATEST_BYTE = 9;
  private static final int GREATEST_LETTER = 255;
  private static final int GREATEST_NUMBER = 99;
  private static final int SEARCHED_NIGHTS = 4;
  private static final int BECOMING_NIGHTS = 3;
  private static final int COMMON_NIGHTS = 2;
  private static final int LEVEL_NIGHTS = 3;
  private static final int CHANGING_NIGHTS = 2;
  private static final int LOOKED_BACK_NIGHTS = 3;
  private static final int WEEK_NIGHTS = 14;
  /** Rows of 0, 1 and 2 ROOMS: 1 and 6 and 36. */
  private static final int MOST_CHANGES = 43;
  private static final int REFUSAL_KINDS = 6;
  private static final int FIRST_REFUSAL_COUNT = 11;

  private static final int PLAIN = 0;
  private static final int HEIR = 1;
  private static final int TWO = 2;
  private static final int DAY = 3;
  private static final int SWITCH = 5;
  private static final int UNDO = 6;
  /** The place of each is its KIND; 4, FREE, changes nothing and so has no name above. */
  private static final String KIND_LETTERS = "phtdfsu";

  private static final int WITHOUT_SIGN = 0x7fffffff;
  private static final int[] WEIGHTS = {1, 3, 9};

  private final House house = new House();
  private final House kept = new House();
  private boolean imageTaken;
  private final Letters letters = new Letters();
  private final Walk walk = new Walk(house);
  private final Search search = new Search(walk);
  private final Pair pair = new Pair(house);
  private final Changes table = new Changes(walk);
  private final Orders orders = new Orders(house);
  private final int[] told = new int[MOST_TOLD];
  private int toldLength;
  private final int[] refusals = new int[REFUSAL_KINDS + 1];
  private final int[] bedsTaken = new int[MOST_ROOMS];
  private final int[] apart = new int[STATES];

  public RoomsThatChange() {
  }

  public int letter(int c) {
    if (c < 0) return refuse(BELOW);
    if (c > GREATEST_LETTER || letters.isFull()) return refuse(ABOVE);
    return letters.add(c);
  }

  public int inn() {
    int answer = letters.comeTo(house);
    letters.clear();
    return answer;
  }

  public int room(int room, int what) {
    if (!house.hasRoom(room)) return refuse(NOBODY);
    Room of = house.rooms[room];
    switch (what) {
      case 0: return of.kind;
      case 1: return of.mark;
      case 2: return of.made[0];
      case 3: return of.made[1];
      case 4: return of.made[2];
      case 5: return of.beds;
      case 6: return of.price;
      case 7: return of.last;
      default: return refuse(OTHER);
    }
  }

  public int guest(int guest, int what) {
    if (!house.hasGuest(guest)) return refuse(NOBODY);
    Guest of = house.guests[guest];
    switch (what) {
      case 0: return of.state;
      case 1: return of.wished[0];
      case 2: return of.wished[1];
      case 3: return of.wished[2];
      case 4: return of.wishes(of.state) ? 1 : 0;
      case 5: return of.paid;
      case 6: return of.going;
      case 7: return of.aheadRoom;
      default: return refuse(OTHER);
    }
  }

  public int sleep(int guest, int room) {
    if (!house.hasGuest(guest) || !house.hasRoom(room)) return refuse(NOBODY);
    int free = house.freeBeds(room, guest);
    if (free < 1) return refuse(UNFIT);
    house.guests[guest].going = room;
    return free - 1;
  }

  public int stay(int guest) {
    if (!house.hasGuest(guest)) return refuse(NOBODY);
    int room = house.guests[guest].going;
    house.guests[guest].going = NONE;
    return room;
  }

  public int night() {
    return house.passNight();
  }

  public int makes(int room, int state, int number) {
    if (!house.hasRoom(room) || !isState(state)) return refuse(NOBODY);
    if (number < 0) return refuse(BELOW);
    if (number > GREATEST_NUMBER) return refuse(ABOVE);
    return house.rooms[room].firstNight(state, number);
  }

  public int fewest(int state, int guest) {
    if (!isState(state) || !house.hasGuest(guest)) return refuse(NOBODY);
    search.shortest(state, house.guests[guest]);
    return search.foundLength;
  }

  public int cheapest(int state, int guest) {
    if (!isState(state) || !house.hasGuest(guest)) return refuse(NOBODY);
    search.leastPaid(state, house.guests[guest]);
    return search.foundPrice;
  }

  public int rowOf(int state, int guest, int what, int i) {
    if (!isState(state) || !house.hasGuest(guest)) return refuse(NOBODY);
    if (what < 0 || what > 1) return refuse(OTHER);
    if (i < 0) return refuse(BELOW);
    if (what == 0) search.shortest(state, house.guests[guest]);
    else search.leastPaid(state, house.guests[guest]);
    return i < search.foundLength ? search.found[i] : NONE;
  }

  public int becomes(int state, int n) {
    if (!isState(state)) return refuse(NOBODY);
    if (n < 0) return refuse(BELOW);
    if (n > BECOMING_NIGHTS) return refuse(ABOVE);
    int seen = 0;
    for (int length = 0; length <= n; length++) {
      int rows = walk.begin(state, length);
      for (int k = 0; k < rows; k++) {
        seen |= 1 << walk.end();
        walk.advance();
      }
    }
    return Integer.bitCount(seen);
  }

  public int both(int one, int other) {
    if (!house.hasGuest(one) || !house.hasGuest(other) || one == other) return refuse(NOBODY);
    return pair.leastNights(house.guests[Math.min(one, other)], house.guests[Math.max(one, other)]);
  }

  public int asWent() {
    return leastLevel(false);
  }

  public int alike() {
    return leastLevel(true);
  }

  private int leastLevel(boolean toOne) {
    for (int length = 1; length <= LEVEL_NIGHTS; length++) {
      int rows = walk.begin(0, length);
      for (int k = 0; k < rows; k++) {
        if (toOne ? walk.makesOneOfAll() : walk.keepsAll()) return length;
        walk.advance();
      }
    }
    return NONE;
  }

  public int changes(int n) {
    if (n < 0) return refuse(BELOW);
    if (n > CHANGING_NIGHTS) return refuse(ABOVE);
    table.gather(n);
    return table.unlike;
  }

  public int needed() {
    table.gather(CHANGING_NIGHTS);
    return table.roomsThatSomeNeeds();
  }

  public int was(int from, int to, int n, int what) {
    if (!isState(from) || !isState(to)) return refuse(NOBODY);
    if (what < 0 || what > 1) return refuse(OTHER);
    if (n < 1) return refuse(BELOW);
    if (n > LOOKED_BACK_NIGHTS) return refuse(ABOVE);
    int many = 0;
    int inAll = house.allRooms();
    int rows = walk.begin(from, n);
    for (int k = 0; k < rows; k++) {
      if (walk.end() == to) {
        many++;
        inAll &= walk.roomBits();
      }
      walk.advance();
    }
    if (what == 0) return many;
    return many == 0 ? 0 : inAll;
  }

  public int trial(int from, int to) {
    if (!isState(from) || !isState(to)) return refuse(NOBODY);
    if (house.trials >= MOST_TRIALS) return refuse(ABOVE);
    house.trialFrom[house.trials] = from;
    house.trialTo[house.trials] = to;
    house.trials++;
    return house.trials;
  }

  public int fits(int may) {
    if (!house.hasRooms(may)) return refuse(NOBODY);
    return house.fitting(may);
  }

  public int next(int may) {
    if (!house.hasRooms(may)) return refuse(NOBODY);
    int fitting = house.fitting(may);
    if (Integer.bitCount(fitting) < 2) return NONE;
    int best = 0;
    int most = 0;
    for (int state = 0; state < STATES; state++) {
      int unlike = house.unlikeOnes(fitting, state);
      if (unlike > most) {
        most = unlike;
        best = state;
      }
    }
    return best;
  }

  public int sure(int may) {
    if (!house.hasRooms(may)) return refuse(NOBODY);
    int fitting = house.fitting(may);
    if (Integer.bitCount(fitting) < 2) return 0;
    int all = house.pairsOf(fitting);
    for (int state = 0; state < STATES; state++) {
      apart[state] = all & house.pairsToldApart(state);
      if (apart[state] == all) return 1;
    }
    for (int one = 0; one < STATES; one++) {
      for (int other = one + 1; other < STATES; other++) {
        if ((apart[one] | apart[other]) == all) return 2;
      }
    }
    return NONE;
  }

  public int heirs(int room, int n, int order) {
    if (!house.hasRoom(room)) return refuse(NOBODY);
    if (house.rooms[room].kind != HEIR) return refuse(OTHER);
    if (n < 0) return refuse(BELOW);
    if (n > MOST_GUESTS) return refuse(ABOVE);
    if (!orders.read(n, order)) return refuse(NOBODY);
    return orders.wishesHad(house.rooms[room], n);
  }

  public int bestOrder(int room, int i) {
    if (!house.hasRoom(room)) return refuse(NOBODY);
    if (house.rooms[room].kind != HEIR) return refuse(OTHER);
    if (i < -1) return refuse(BELOW);
    orders.findBest(house.rooms[room]);
    if (i == -1) return orders.most;
    return i < house.guestCount ? orders.best[i] : NONE;
  }

  /** What is paid hangs on beds and prices alone, so nobody need be changed in mind. */
  public int week(int n, int z) {
    if (n < 1) return refuse(BELOW);
    if (n > WEEK_NIGHTS) return refuse(ABOVE);
    int below = house.roomCount;
    if (below == 0) return refuse(UNFIT);
    int seed = z;
    int paid = 0;
    for (int night = 0; night < n; night++) {
      Arrays.fill(bedsTaken, 0);
      for (int guest = 0; guest < house.guestCount; guest++) {
        seed = seed * 1664525 + 1013904223;
        int drawn = (seed & WITHOUT_SIGN) / 256 % below;
        if (bedsTaken[drawn] < house.rooms[drawn].beds) {
          bedsTaken[drawn]++;
          paid += house.rooms[drawn].price;
        }
      }
    }
    return paid;
  }

  public int row(int v) {
    if (v < 0) return refuse(BELOW);
    if (v > GREATEST_BYTE || toldLength >= MOST_TOLD) return refuse(ABOVE);
    told[toldLength] = v;
    toldLength++;
    return toldLength;
  }

  public int judge(int guest) {
    if (!house.hasGuest(guest)) return refuse(NOBODY);
    int length = toldLength;
    toldLength = 0;
    for (int i = 0; i < length; i++) {
      if (!house.hasRoom(told[i])) return i;
    }
    Guest judged = house.guests[guest];
    return judged.wishes(walk.endOfRow(judged.state, told, length)) ? NONE : length;
  }

  public int image() {
    kept.copyFrom(house);
    imageTaken = true;
    return house.nights;
  }

  public int on() {
    if (!imageTaken) return refuse(UNFIT);
    house.copyFrom(kept);
    return house.nights;
  }

  public int count(int what) {
    switch (what) {
      case 0: return house.roomCount;
      case 1: return house.guestCount;
      case 2: return house.nights;
      case 3: return house.wishesHad();
      case 4: return house.trials;
      case 5: return toldLength;
      case 6: return letters.length;
      case 7: return house.allPaid();
      default: return refusalsOf(what);
    }
  }

  private int refusalsOf(int what) {
    if (what < FIRST_REFUSAL_COUNT || what >= FIRST_REFUSAL_COUNT + REFUSAL_KINDS) return NONE;
    return refusals[what - FIRST_REFUSAL_COUNT + 1];
  }

  /** Called with the negative numbers of the REFUSALS alone. */
  private int refuse(int number) {
    refusals[-number]++;
    return number;
  }

  private static boolean isState(int state) {
    return state >= 0 && state < STATES;
  }

  private static int markOf(int state, int mark) {
    return state / WEIGHTS[mark] % VALUES;
  }

  private static int power(int base, int exponent) {
    int product = 1;
    for (int i = 0; i < exponent; i++) product *= base;
    return product;
  }

  /** The next row by numbers: the first place that is another one (-1, if it was the last row). */
  private static int advanceRow(int[] row, int length, int below) {
    int place = length - 1;
    while (place >= 0 && row[place] + 1 >= below) {
      row[place] = 0;
      place--;
    }
    if (place >= 0) row[place]++;
    return place;
  }

  /** One ROOM, and the STATE in which its LAST guest came in. */
  private static final class Room {
    int kind;
    int mark;
    final int[] made = new int[VALUES];
    int beds;
    int price;
    int last = NONE;

    void copyFrom(Room other) {
      kind = other.kind;
      mark = other.mark;
      System.arraycopy(other.made, 0, made, 0, VALUES);
      beds = other.beds;
      price = other.price;
      last = other.last;
    }

    /** Told as NONE: the LAST one's STATE, the other one's in it, his own of the NIGHT ahead in it. */
    int after(int state, int number, int lastState, int mateState, int aheadState) {
      switch (kind) {
        case PLAIN: return plain(state);
        case HEIR: return lastState < 0 ? plain(state) : marked(state, markOf(lastState, mark));
        case TWO: return mateState < 0 ? plain(state) : marked(state, markOf(mateState, mark));
        case DAY: return number % 2 == 1 ? plain(state) : state;
        case SWITCH: return switched(state);
        case UNDO: return aheadState < 0 ? plain(state) : aheadState;
        default: return state;
      }
    }

    int firstNight(int state, int number) {
      return after(state, number, NONE, NONE, NONE);
    }

    private int marked(int state, int value) {
      return state + (value - markOf(state, mark)) * WEIGHTS[mark];
    }

    private int plain(int state) {
      int value = markOf(state, mark);
      return state + (made[value] - value) * WEIGHTS[mark];
    }

    private int switched(int state) {
      int following = (mark + 1) % MARKS;
      int more = markOf(state, following) - markOf(state, mark);
      return state + more * (WEIGHTS[mark] - WEIGHTS[following]);
    }
  }

  /** One GUEST, and where and how he was in the NIGHT ahead. */
  private static final class Guest {
    int state;
    final int[] wished = new int[MARKS];
    int paid;
    int going = NONE;
    int aheadRoom = NONE;
    int aheadState = NONE;

    void copyFrom(Guest other) {
      state = other.state;
      System.arraycopy(other.wished, 0, wished, 0, MARKS);
      paid = other.paid;
      going = other.going;
      aheadRoom = other.aheadRoom;
      aheadState = other.aheadState;
    }

    boolean wishes(int asOne) {
      for (int mark = 0; mark < MARKS; mark++) {
        if (wished[mark] != ANY && wished[mark] != markOf(asOne, mark)) return false;
      }
      return true;
    }
  }

  /** All that THE IMAGE keeps. */
  private static final class House {
    final Room[] rooms = new Room[MOST_ROOMS];
    int roomCount;
    final Guest[] guests = new Guest[MOST_GUESTS];
    int guestCount;
    int nights;
    final int[] trialFrom = new int[MOST_TRIALS];
    final int[] trialTo = new int[MOST_TRIALS];
    int trials;
    private final int[] morning = new int[MOST_GUESTS];

    House() {
      for (int i = 0; i < MOST_ROOMS; i++) rooms[i] = new Room();
      for (int i = 0; i < MOST_GUESTS; i++) guests[i] = new Guest();
    }

    void copyFrom(House other) {
      for (int i = 0; i < MOST_ROOMS; i++) rooms[i].copyFrom(other.rooms[i]);
      roomCount = other.roomCount;
      for (int i = 0; i < MOST_GUESTS; i++) guests[i].copyFrom(other.guests[i]);
      guestCount = other.guestCount;
      nights = other.nights;
      System.arraycopy(other.trialFrom, 0, trialFrom, 0, MOST_TRIALS);
      System.arraycopy(other.trialTo, 0, trialTo, 0, MOST_TRIALS);
      trials = other.trials;
    }

    boolean hasRoom(int index) {
      return index >= 0 && index < roomCount;
    }

    boolean hasGuest(int index) {
      return index >= 0 && index < guestCount;
    }

    int allRooms() {
      return (1 << roomCount) - 1;
    }

    boolean hasRooms(int bits) {
      return (bits & ~allRooms()) == 0;
    }

    int freeBeds(int index, int butGuest) {
      int free = rooms[index].beds;
      for (int i = 0; i < guestCount; i++) {
        if (i != butGuest && guests[i].going == index) free--;
      }
      return free;
    }

    /** All mornings are told from the evenings before anybody is changed. */
    int passNight() {
      int slept = 0;
      for (int i = 0; i < guestCount; i++) morning[i] = morningOf(i);
      for (int i = guestCount - 1; i >= 0; i--) {
        if (wakeUp(i)) slept++;
      }
      nights++;
      return slept;
    }

    private int morningOf(int index) {
      Guest guest = guests[index];
      if (!hasRoom(guest.going)) return guest.state;
      Room room = rooms[guest.going];
      int ahead = guest.aheadRoom == guest.going ? guest.aheadState : NONE;
      return room.after(guest.state, nights, room.last, mateOf(index), ahead);
    }

    private int mateOf(int index) {
      for (int i = 0; i < guestCount; i++) {
        if (i != index && guests[i].going == guests[index].going) return guests[i].state;
      }
      return NONE;
    }

    /** From the greatest GUEST down to the least, so that of two the lesser stays as the LAST. */
    private boolean wakeUp(int index) {
      Guest guest = guests[index];
      boolean slept = hasRoom(guest.going);
      guest.aheadRoom = guest.going;
      guest.aheadState = guest.state;
      if (slept) {
        rooms[guest.going].last = guest.state;
        guest.paid += rooms[guest.going].price;
      }
      guest.state = morning[index];
      guest.going = NONE;
      return slept;
    }

    int wishesHad() {
      int had = 0;
      for (int i = 0; i < guestCount; i++) {
        if (guests[i].wishes(guests[i].state)) had++;
      }
      return had;
    }

    int allPaid() {
      int sum = 0;
      for (int i = 0; i < guestCount; i++) sum += guests[i].paid;
      return sum;
    }

    int fitting(int may) {
      int bits = 0;
      for (int i = 0; i < roomCount; i++) {
        if ((may >> i & 1) == 1 && isAsTried(rooms[i])) bits |= 1 << i;
      }
      return bits;
    }

    private boolean isAsTried(Room room) {
      for (int i = 0; i < trials; i++) {
        if (room.firstNight(trialFrom[i], 0) != trialTo[i]) return false;
      }
      return true;
    }

    int unlikeOnes(int roomBits, int state) {
      int seen = 0;
      for (int i = 0; i < roomCount; i++) {
        if ((roomBits >> i & 1) == 1) seen |= 1 << rooms[i].firstNight(state, 0);
      }
      return Integer.bitCount(seen);
    }

    /** A bit for each two ROOMS that are both among those of the bits. */
    int pairsOf(int roomBits) {
      int pairs = 0;
      int bit = 1;
      for (int i = 0; i < roomCount; i++) {
        for (int j = i + 1; j < roomCount; j++) {
          if ((roomBits >> i & roomBits >> j & 1) == 1) pairs |= bit;
          bit <<= 1;
        }
      }
      return pairs;
    }

    /** The bits of those two ROOMS that make unlike ones of a STATE. */
    int pairsToldApart(int state) {
      int pairs = 0;
      int bit = 1;
      for (int i = 0; i < roomCount; i++) {
        int made = rooms[i].firstNight(state, 0);
        for (int j = i + 1; j < roomCount; j++) {
          if (rooms[j].firstNight(state, 0) != made) pairs |= bit;
          bit <<= 1;
        }
      }
      return pairs;
    }
  }

  /** The letters of an INN that is being told. */
  private static final class Letters {
    private static final int KIND_1 = -1000;
    private static final int KIND_2 = -2000;
    private static final int END = -1;
    /** Those that each STATEMENT has at least, of either sort. */
    private static final int DIGITS = 6;

    private final int[] text = new int[MOST_LETTERS];
    int length;
    private final int[] starts = new int[MOST_STATEMENTS];
    private int statements;

    boolean isFull() {
      return length >= MOST_LETTERS;
    }

    int add(int c) {
      text[length] = c;
      length++;
      return length;
    }

    void clear() {
      length = 0;
    }

    /** How many STATEMENTS came to the house, or the FAULT with which none did. */
    int comeTo(House house) {
      int wrong = firstWrongLetter();
      if (wrong >= 0) return KIND_1 - wrong;
      int unfit = firstUnfitStatement(house);
      if (unfit >= 0) return KIND_2 - unfit;
      for (int i = 0; i < statements; i++) {
        if (at(starts[i]) == 'r') addRoom(house, starts[i]);
        else addGuest(house, starts[i]);
      }
      return statements;
    }

    /** Keeps where each STATEMENT starts. */
    private int firstWrongLetter() {
      statements = 0;
      if (length == 0) return 0;
      int place = 0;
      for (int i = 0; i < MOST_STATEMENTS && place < length; i++) {
        int wrong = wrongIn(place);
        if (wrong >= 0) return wrong;
        starts[i] = place;
        statements++;
        place = endOf(place) + 1;
      }
      return NONE;
    }

    private int wrongIn(int start) {
      int sign = at(start);
      if (sign != 'r' && sign != 'g') return start;
      if (sign == 'r' && kindOf(at(start + 1)) < 0) return start + 1;
      int digits = firstDigit(start);
      for (int place = digits; place < digits + DIGITS; place++) {
        if (!isDigit(at(place))) return place;
      }
      int end = endOf(start);
      return at(end) == ';' ? NONE : end;
    }

    private int firstDigit(int start) {
      return at(start) == 'r' ? start + 2 : start + 1;
    }

    /** Where the ";" must stand: a PRICE may have one digit more. */
    private int endOf(int start) {
      int end = firstDigit(start) + DIGITS;
      return at(start) == 'r' && isDigit(at(end)) ? end + 1 : end;
    }

    private int firstUnfitStatement(House house) {
      int rooms = house.roomCount;
      int guests = house.guestCount;
      for (int i = 0; i < statements; i++) {
        boolean fit;
        if (at(starts[i]) == 'r') {
          rooms++;
          fit = rooms <= MOST_ROOMS && isRoom(starts[i]);
        } else {
          guests++;
          fit = guests <= MOST_GUESTS && isGuest(starts[i]);
        }
        if (!fit) return starts[i];
      }
      return NONE;
    }

    private boolean isRoom(int start) {
      int beds = digit(start + 6);
      return noneAbove(start + 2, 1, MARKS - 1) && noneAbove(start + 3, VALUES, VALUES - 1)
          && beds >= 1 && beds <= MOST_BEDS;
    }

    private boolean isGuest(int start) {
      return noneAbove(start + 1, MARKS, VALUES - 1) && noneAbove(start + 4, MARKS, ANY);
    }

    private boolean noneAbove(int start, int many, int greatest) {
      for (int i = 0; i < many; i++) {
        if (digit(start + i) > greatest) return false;
      }
      return true;
    }

    private void addRoom(House house, int start) {
      if (house.roomCount >= MOST_ROOMS) return;
      Room room = house.rooms[house.roomCount];
      house.roomCount++;
      room.kind = kindOf(at(start + 1));
      room.mark = digit(start + 2);
      for (int i = 0; i < VALUES; i++) room.made[i] = digit(start + 3 + i);
      room.beds = digit(start + 6);
      room.price = digit(start + 7);
      if (isDigit(at(start + 8))) room.price = room.price * 10 + digit(start + 8);
      room.last = NONE;
    }

    private void addGuest(House house, int start) {
      if (house.guestCount >= MOST_GUESTS) return;
      Guest guest = house.guests[house.guestCount];
      house.guestCount++;
      guest.state = digit(start + 1) + digit(start + 2) * 3 + digit(start + 3) * 9;
      for (int i = 0; i < MARKS; i++) guest.wished[i] = digit(start + 4 + i);
      guest.paid = 0;
      guest.going = NONE;
      guest.aheadRoom = NONE;
      guest.aheadState = NONE;
    }

    private int at(int place) {
      return place >= 0 && place < length ? text[place] : END;
    }

    private int digit(int place) {
      return at(place) - '0';
    }

    private static boolean isDigit(int sign) {
      return sign >= '0' && sign <= '9';
    }

    private static int kindOf(int sign) {
      for (int i = 0; i < KIND_LETTERS.length(); i++) {
        if (KIND_LETTERS.charAt(i) == sign) return i;
      }
      return NONE;
    }
  }

  /** One guest ALONE through a row of ROOMS, and through all rows of a length in their order. */
  private static final class Walk {
    private final House house;
    private final int[] row = new int[MOST_TOLD];
    private final int[] evening = new int[MOST_TOLD + 1];
    private int length;

    Walk(House house) {
      this.house = house;
    }

    /** Walks the first row of a length: how many such rows there are. */
    int begin(int state, int nights) {
      length = nights;
      Arrays.fill(row, 0);
      evening[0] = state;
      sleepFrom(0);
      return power(house.roomCount, nights);
    }

    /** Only the NIGHTS from the first ROOM that is another one are slept anew. */
    void advance() {
      int place = advanceRow(row, length, house.roomCount);
      if (place >= 0) sleepFrom(place);
    }

    int end() {
      return evening[length];
    }

    int endOf(int state) {
      evening[0] = state;
      sleepFrom(0);
      return evening[length];
    }

    int endOfRow(int state, int[] given, int nights) {
      length = nights;
      System.arraycopy(given, 0, row, 0, nights);
      return endOf(state);
    }

    int roomBits() {
      int bits = 0;
      for (int i = 0; i < length; i++) bits |= 1 << row[i];
      return bits;
    }

    int price() {
      int sum = 0;
      for (int i = 0; i < length; i++) sum += house.rooms[row[i]].price;
      return sum;
    }

    void copyRow(int[] into) {
      System.arraycopy(row, 0, into, 0, length);
    }

    boolean keepsAll() {
      for (int state = 0; state < STATES; state++) {
        if (endOf(state) != state) return false;
      }
      return true;
    }

    boolean makesOneOfAll() {
      int one = endOf(0);
      for (int state = 1; state < STATES; state++) {
        if (endOf(state) != one) return false;
      }
      return true;
    }

    private void sleepFrom(int first) {
      for (int number = first; number < length; number++) {
        Room room = house.rooms[row[number]];
        int ahead = number > 0 && row[number - 1] == row[number] ? evening[number - 1] : NONE;
        evening[number + 1] = room.after(evening[number], number, lastBefore(number), NONE, ahead);
      }
    }

    private int lastBefore(int number) {
      for (int i = number - 1; i >= 0; i--) {
        if (row[i] == row[number]) return evening[i];
      }
      return NONE;
    }
  }

  /** The ROWS of FEWEST and of CHEAPEST. */
  private static final class Search {
    private final Walk walk;
    final int[] found = new int[MOST_TOLD];
    int foundLength;
    int foundPrice;

    Search(Walk walk) {
      this.walk = walk;
    }

    void shortest(int state, Guest guest) {
      forget();
      for (int length = 0; length <= SEARCHED_NIGHTS && foundLength < 0; length++) {
        int rows = walk.begin(state, length);
        for (int k = 0; k < rows && foundLength < 0; k++) {
          if (guest.wishes(walk.end())) keep(length);
          walk.advance();
        }
      }
    }

    /** Rows come by length, then by numbers, so a later one is kept only if it is cheaper. */
    void leastPaid(int state, Guest guest) {
      forget();
      for (int length = 0; length <= SEARCHED_NIGHTS; length++) {
        int rows = walk.begin(state, length);
        for (int k = 0; k < rows; k++) {
          boolean had = guest.wishes(walk.end());
          if (had && (foundLength < 0 || walk.price() < foundPrice)) keep(length);
          walk.advance();
        }
      }
    }

    private void forget() {
      foundLength = NONE;
      foundPrice = NONE;
    }

    private void keep(int length) {
      foundLength = length;
      foundPrice = walk.price();
      walk.copyRow(found);
    }
  }

  /** Two GUESTS at once, the lesser first: by turns his and the other's ROOMS and evenings. */
  private static final class Pair {
    private final House house;
    private final int[] slept = new int[2 * COMMON_NIGHTS];
    private final int[] evening = new int[2 * COMMON_NIGHTS + 2];

    Pair(House house) {
      this.house = house;
    }

    int leastNights(Guest lesser, Guest greater) {
      evening[0] = lesser.state;
      evening[1] = greater.state;
      for (int nights = 0; nights <= COMMON_NIGHTS; nights++) {
        Arrays.fill(slept, 0);
        int rows = power(house.roomCount, 2 * nights);
        for (int k = 0; k < rows; k++) {
          if (haveBeds(nights) && endAsWished(nights, lesser, greater)) return nights;
          advanceRow(slept, 2 * nights, house.roomCount);
        }
      }
      return NONE;
    }

    private boolean haveBeds(int nights) {
      for (int i = 0; i < nights; i++) {
        if (slept[2 * i] == slept[2 * i + 1] && house.rooms[slept[2 * i]].beds < 2) return false;
      }
      return true;
    }

    private boolean endAsWished(int nights, Guest lesser, Guest greater) {
      for (int number = 0; number < nights; number++) {
        pass(number, 0);
        pass(number, 1);
      }
      return lesser.wishes(evening[2 * nights]) && greater.wishes(evening[2 * nights + 1]);
    }

    private void pass(int number, int who) {
      int now = 2 * number + who;
      int mate = slept[2 * number] == slept[2 * number + 1] ? evening[2 * number + 1 - who] : NONE;
      int ahead = number > 0 && slept[now - 2] == slept[now] ? evening[now - 2] : NONE;
      Room room = house.rooms[slept[now]];
      evening[now + 2] = room.after(evening[now], number, lastBefore(number, slept[now]), mate, ahead);
    }

    private int lastBefore(int number, int room) {
      for (int i = number - 1; i >= 0; i--) {
        if (slept[2 * i] == room) return evening[2 * i];
        if (slept[2 * i + 1] == room) return evening[2 * i + 1];
      }
      return NONE;
    }
  }

  /** The unlike CHANGES that rows make, and for each the ROOMS that are in every row that makes it. */
  private static final class Changes {
    private final Walk walk;
    private final int[] made = new int[MOST_CHANGES * STATES];
    private final int[] inEvery = new int[MOST_CHANGES];
    int unlike;

    Changes(Walk walk) {
      this.walk = walk;
    }

    void gather(int longest) {
      unlike = 0;
      for (int length = 0; length <= longest; length++) {
        int rows = walk.begin(0, length);
        for (int k = 0; k < rows; k++) {
          addRow();
          walk.advance();
        }
      }
    }

    /** A CHANGE is lost without a ROOM just if that ROOM is in every row that makes it. */
    int roomsThatSomeNeeds() {
      int bits = 0;
      for (int i = 0; i < unlike; i++) bits |= inEvery[i];
      return bits;
    }

    private void addRow() {
      if (unlike >= MOST_CHANGES) return;
      for (int state = 0; state < STATES; state++) made[unlike * STATES + state] = walk.endOf(state);
      for (int i = 0; i < unlike; i++) {
        if (isLike(i, unlike)) {
          inEvery[i] &= walk.roomBits();
          return;
        }
      }
      inEvery[unlike] = walk.roomBits();
      unlike++;
    }

    private boolean isLike(int one, int other) {
      for (int state = 0; state < STATES; state++) {
        if (made[one * STATES + state] != made[other * STATES + state]) return false;
      }
      return true;
    }
  }

  /** Orders of GUESTS, each one NIGHT behind the other in one ROOM of HEIRS. */
  private static final class Orders {
    private final House house;
    private final int[] order = new int[MOST_GUESTS];
    final int[] best = new int[MOST_GUESTS];
    int most;

    Orders(House house) {
      this.house = house;
    }

    /** The lowest digit is the first GUEST; false, if one is nobody or comes twice. */
    boolean read(int many, int digits) {
      int seen = 0;
      int rest = digits;
      for (int i = 0; i < many; i++) {
        int guest = rest % 10;
        rest /= 10;
        if (!house.hasGuest(guest) || (seen >> guest & 1) == 1) return false;
        seen |= 1 << guest;
        order[i] = guest;
      }
      return true;
    }

    int wishesHad(Room room, int many) {
      int had = 0;
      int last = NONE;
      for (int i = 0; i < many; i++) {
        Guest guest = house.guests[order[i]];
        if (guest.wishes(room.after(guest.state, i, last, NONE, NONE))) had++;
        last = guest.state;
      }
      return had;
    }

    void findBest(Room room) {
      int many = house.guestCount;
      int all = 1;
      for (int i = 0; i < many; i++) {
        order[i] = i;
        all *= i + 1;
      }
      most = NONE;
      for (int k = 0; k < all; k++) {
        int had = wishesHad(room, many);
        if (had > most) {
          most = had;
          System.arraycopy(order, 0, best, 0, many);
        }
        advance(many);
      }
    }

    /** The next order by numbers; behind the last one nothing changes. */
    private void advance(int many) {
      int place = many - 2;
      while (place >= 0 && order[place] > order[place + 1]) place--;
      if (place < 0) return;
      int with = many - 1;
      while (with > place && order[with] < order[place]) with--;
      swap(place, with);
      for (int i = place + 1, j = many - 1; i < j; i++, j--) swap(i, j);
    }

    private void swap(int i, int j) {
      int held = order[i];
      order[i] = order[j];
      order[j] = held;
    }
  }
}
