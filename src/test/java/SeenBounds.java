/** The boundary cases of the Terms' third part from SEEN on, and of promises 27 to 33. */
final class SeenBounds extends Bounds {
  /** Turn 0 in minute 0, by 1 .. 5 on top 1 .. 3, then 1, 1 (idle). */
  private static final String THREE = "maid m 1;" + pile("p", "1 2 3") + pile("q", "") + "turn m p 1 0;";
  private static final String FIVE = "maid m 1;" + pile("p", "1 2 3 4 5") + "turn m p 1 0;";

  static void all() {
    behindMinutes();
    size();
    nothingByCall();
    strikes();
    deeds();
    seeing();
    striking();
    knowing();
    deep();
    asking();
    chance();
    tried();
    triedEdges();
  }

  // ---- Terms 3 ----

  private static void behindMinutes() {
    of("Terms 3, promises 27, 30", "SEEN, at most 24, numbered from 0 on: behind so many MINUTES 1 .. 60 (as it goes from the TEXT on, nothing done by call)");
    String pile = "maid m 1;" + pile("p", "1 2 3");
    PlatePiles early = Check.of(pile + "turn m p 1 0;turn m p 1 1;");
    early.see(1, 0, 2, true);
    due("behind 1: the turn of minute 0", early.deep(0), 2);
    due("behind 1: not that of minute 1", early.deep(1), 0);
    PlatePiles last = Check.of(pile + "turn m p 1 59;turn m p 1 60;");
    last.see(60, 0, 2, true);
    due("behind 60: the turn of minute 59", last.deep(0), 2);
    due("behind 60: not that of minute 60", last.deep(1), 0);
    PlatePiles before = Check.of(pile + "turn m p 1 59;turn m p 1 60;");
    before.see(59, 0, 1, true);
    due("behind 59: not yet", before.deep(0), 31);
    before.see(60, 0, 3, false);
    due("behind 60: not by 3", before.deep(0), 1 + 2 + 8 + 16);
    PlatePiles both = Check.of(pile + "turn m p 2 0;turn m p 1 1;");
    both.see(1, 0, 2, true);
    both.see(2, 0, 3, true);
    due("one behind each: by 2, as told", both.deep(0), 0);
    due("one behind each: then by 3", both.deep(1), 4);
  }

  private static void size() {
    of("Terms 3, promises 27, 30", "the PLATE on top of a PILE was so big in SIZE 1 .. 99, or wasn't (of none it wasn't).");
    PlatePiles x = Check.of(THREE);
    x.see(1, 0, 3, true);
    due("was 3", x.deep(0), 4);
    PlatePiles y = Check.of(THREE);
    y.see(1, 0, 3, false);
    due("wasn't 3", y.deep(0), 31 - 4);
    PlatePiles most = Check.of("maid m 1;" + pile("p", "1 99") + "turn m p 1 0;");
    most.see(1, 0, 99, true);
    due("99", most.deep(0), 2);
    PlatePiles other = Check.of(THREE);
    other.see(1, 0, 4, true);
    due("none is 4", other.deep(0), 0);
    PlatePiles none = Check.of(THREE);
    none.see(1, 1, 1, false);
    none.see(60, 1, 99, false);
    due("of none it wasn't", none.deep(0), 31);
    none.see(1, 1, 1, true);
    due("of none it never was", none.deep(0), 0);
  }

  private static void nothingByCall() {
    of("Terms 3, promises 27, 30, 31", "(as it goes from the TEXT on, nothing done by call)");
    PlatePiles x = Check.of(THREE + "law crack 50;");
    x.turn(0, 3);
    x.crack(0, 1);
    x.move(0, 1);
    x.go(3);
    x.see(1, 0, 2, true);
    due("as the text tells it", x.deep(0), 2);
    due("as the text tells it", x.ask(0, 1, 1), 1);
    x.keep();
    x.back();
    due("behind an image, too", x.deep(0), 2);
    PlatePiles known = Check.of(THREE);
    due("all at first", known.count(14), 0);
    known.see(1, 0, 1, true);
    due("all at first", known.count(14), 1);
  }

  private static PlatePiles withSeen(int more) {
    PlatePiles x = Check.of(THREE);
    x.see(1, 0, 2, true);
    for (int i = 1; i <= more; i++) {
      x.strike(i - 1);
    }
    return x;
  }

  private static void strikes() {
    of("Terms 3, promises 28, 29", "KNOWN by n (all at first): the first n that aren't STRUCK by one of these (a STRIKE may be STRUCK: then it doesn't count; "
        + "asked from the last one on).");
    for (int strikes = 0; strikes <= 23; strikes++) {
      PlatePiles x = withSeen(strikes);
      due(strikes + " strikes, each of the one ahead", x.deep(0), strikes % 2 == 0 ? 2 : 31);
    }
    PlatePiles all = withSeen(23);
    for (int n = 24; n >= 0; n--) {
      due("known by " + n, all.known(n), true);
      due("known by " + n, all.deep(0), n % 2 == 1 ? 2 : 31);
    }
    PlatePiles twice = withSeen(1);
    twice.strike(0);
    due("struck twice", twice.deep(0), 31);
    twice.strike(1);
    due("one of the two is struck", twice.deep(0), 31);
    twice.strike(2);
    due("both are", twice.deep(0), 2);
    twice.strike(4);
    due("the second one counts again", twice.deep(0), 31);
    PlatePiles two = Check.of(THREE);
    two.see(1, 0, 2, true);
    two.see(1, 0, 3, true);
    due("can't both be", two.deep(0), 0);
    two.strike(0);
    due("only the second", two.deep(0), 4);
    two.strike(1);
    due("none", two.deep(0), 31);
    due("by two", two.known(2), true);
    due("not struck by one of these", two.deep(0), 0);
  }

  private static void deeds() {
    of("Terms 3, promise 30", "DEEP of a TURN told: 1 .. 5 (bits 0 .. 4) in place of its DEPTH (more than HIGH is IDLE), by which all KNOWN ones are so.");
    PlatePiles five = Check.of(FIVE);
    due("nothing known", five.deep(0), 31);
    for (int size = 1; size <= 5; size++) {
      PlatePiles x = Check.of(FIVE);
      x.see(1, 0, size, true);
      due("on top " + size, x.deep(0), 1 << size - 1);
    }
    PlatePiles x = Check.of("maid m 1;" + pile("p", "1 2") + "turn m p 5 0;");
    x.see(1, 0, 1, true);
    due("by 3 and more idle", x.deep(0), 31 - 2);
    due("ask: by 3 and more idle", x.ask(0, 1, 1), 4);
    PlatePiles none = Check.of("maid m 1;pile p;turn m p 5 0;");
    due("of none all idle", none.deep(0), 31);
    none.see(1, 0, 1, true);
    due("none left", none.deep(0), 0);
    PlatePiles law = Check.of(FIVE + "law heed depth<>5;");
    law.see(1, 0, 1, true);
    due("heeded by that depth", law.deep(0), 1 + 16);
    PlatePiles tired = Check.of(FIVE + "turn m p 2 1;law effort depth*10;law heed tired<50;");
    tired.see(2, 0, 4, true);
    due("tired by that depth", tired.deep(0), 0);
    PlatePiles late = Check.of(FIVE + "turn m p 2 1;law effort depth*10;law heed tired<50;");
    late.see(2, 0, 5, true);
    due("tired by 5, then idle", late.deep(0), 16);
  }

  // ---- promises 27 to 29 ----

  private static void seeing() {
    of("Promise 27", "SEEN (size 1 .. 99): its number; NONE: no such ones, or there are 24.");
    PlatePiles x = piles("1", "1", "1", "1");
    due("minutes 1", x.see(1, 0, 1, true), 0);
    due("minutes 60", x.see(60, 0, 1, true), 1);
    due("size 99", x.see(1, 0, 99, false), 2);
    due("the last pile", x.see(1, 3, 1, false), 3);
    for (int minutes : new int[] {0, -1, LOWEST, 61, MOST}) {
      due("minutes " + minutes, x.see(minutes, 0, 1, true), -1);
      refused("minutes " + minutes, y -> y.see(minutes, 0, 1, true), -1);
    }
    for (int pile : new int[] {4, MOST, -1, LOWEST}) {
      due("pile " + pile, x.see(1, pile, 1, true), -1);
      refused("pile " + pile, y -> y.see(1, pile, 1, true), -1);
    }
    for (int size : new int[] {0, -1, LOWEST, 100, MOST}) {
      due("size " + size, x.see(1, 0, size, true), -1);
      refused("size " + size, y -> y.see(1, 0, size, false), -1);
    }
    for (int i = 4; i < 24; i++) {
      due("number " + i, x.see(1, 0, 1, true), i);
    }
    due("a 25th", x.see(1, 0, 1, true), -1);
    due("24", x.count(13), 24);
    refused("a 25th", SeenBounds::full, y -> y.see(1, 0, 1, true), -1);
    due("new", new PlatePiles().see(1, 0, 1, true), -1);
    due("the second of one", piles("1").see(1, 1, 1, true), -1);
  }

  private static PlatePiles full() {
    PlatePiles x = Check.of(THREE);
    for (int i = 0; i < 24; i++) {
      x.see(1 + i, 0, 1 + i, false);
    }
    return x;
  }

  private static void striking() {
    of("Promise 28", "A STRIKE: its number; NONE: no such one SEEN, or there are 24.");
    PlatePiles x = Check.of(THREE);
    due("nothing seen", x.strike(0), -1);
    x.see(1, 0, 1, true);
    due("the only one", x.strike(0), 1);
    due("a strike", x.strike(1), 2);
    due("itself isn't there yet", x.strike(3), -1);
    for (int seen : new int[] {-1, LOWEST, 3, 24, MOST}) {
      due("strike of " + seen, x.strike(seen), -1);
      refused("strike of " + (seen == 3 ? 4 : seen), y -> y.strike(seen == 3 ? 4 : seen), -1);
    }
    for (int i = 3; i < 24; i++) {
      due("number " + i, x.strike(i - 1), i);
    }
    due("a 25th", x.strike(0), -1);
    due("a 25th", x.strike(23), -1);
    due("a 25th, seen", x.see(1, 0, 1, true), -1);
    due("24", x.count(13), 24);
    refused("a 25th", SeenBounds::full, y -> y.strike(0), -1);
    due("new", new PlatePiles().strike(0), -1);
  }

  private static void knowing() {
    of("Promise 29", "KNOWN by n from now on (-1: by all, also those to come): true; false: no such n.");
    PlatePiles x = Check.of(THREE);
    due("by 0 of none", x.known(0), true);
    due("by 1 of none", x.known(1), false);
    x.see(1, 0, 2, true);
    due("still by 0", x.deep(0), 31);
    due("still by 0", x.count(14), 0);
    due("by 1 of 1", x.known(1), true);
    due("by 1", x.deep(0), 2);
    x.see(1, 0, 3, true);
    due("not by the one that came", x.deep(0), 2);
    due("by -1", x.known(-1), true);
    due("by both", x.deep(0), 0);
    x.strike(0);
    due("also by what came", x.deep(0), 4);
    due("by 3", x.count(14), 3);
    for (int n : new int[] {4, 24, 25, MOST, -2, LOWEST}) {
      due("by " + n + " of 3", x.known(n), false);
      due("still by 3", x.count(14), 3);
      refused("known by " + (n == 4 ? 5 : n), y -> y.known(n == 4 ? 5 : n) ? 1 : 0, 0);
    }
    PlatePiles full = full();
    due("by 24 of 24", full.known(24), true);
    due("by 25 of 24", full.known(25), false);
    due("new, by 0", new PlatePiles().known(0), true);
    due("new, by all", new PlatePiles().known(-1), true);
    due("new, by 1", new PlatePiles().known(1), false);
  }

  // ---- promises 30, 31 ----

  private static void deep() {
    of("Promise 30", "DEEP (bits); NONE: no such TURN told.");
    PlatePiles x = Check.of("maid m 1;" + pile("p", "1 2") + times(14, "turn m p 1 99;"));
    due("the first", x.deep(0), 31);
    due("the fourteenth", x.deep(13), 31);
    for (int turn : new int[] {-1, LOWEST, 14, MOST}) {
      due("turn " + turn, x.deep(turn), -1);
      refused("turn " + turn, y -> y.deep(turn), -1);
    }
    due("the second of one", Check.of(THREE).deep(1), -1);
    due("new", new PlatePiles().deep(0), -1);
    PlatePiles fewer = Check.of(THREE + "turn m p 1 1;");
    Check.tell(fewer, THREE);
    due("told before, no more", fewer.deep(1), -1);
    refused("asked", y -> y.deep(0), 2);
  }

  private static void asking() {
    of("Terms 3, promise 31", "as few of DEEP as may be are left at worst, the first of several.");
    PlatePiles five = Check.of(FIVE + "turn m p 5 1;");
    due("all apart on top", five.ask(0, 1, 0), 0);
    due("one left", five.ask(0, 1, 1), 1);
    due("all apart in the lowest place", five.ask(0, 2, 0), 4);
    due("one left", five.ask(0, 2, 1), 1);
    for (int depth = 1; depth <= 5; depth++) {
      PlatePiles x = Check.of(FIVE + "turn m p " + depth + " 1;");
      due("all apart where the top comes by " + depth, x.ask(0, 2, 0), depth - 1);
      due("one left", x.ask(0, 2, 1), 1);
    }
    PlatePiles later = Check.of("maid m 1;" + pile("p", "1 2 3 4 5") + "turn m p 1 1;");
    due("not yet turned: the first of all", later.ask(0, 1, 0), 0);
    due("not yet turned: all left", later.ask(0, 1, 1), 5);

    of("Terms 3, promise 31", "(that there is none is an answer, too),");
    PlatePiles none = Check.of("maid m 1;pile p;turn m p 1 0;");
    due("none: the first", none.ask(0, 1, 0), 0);
    due("none: all left", none.ask(0, 1, 1), 5);
    PlatePiles one = Check.of("maid m 1;" + pile("p", "1") + "turn m p 1 0;");
    due("one", one.ask(0, 60, 0), 0);
    due("one", one.ask(0, 60, 1), 5);

    of("Promise 31", "ASK (n 1 .. 60), what 0: the place, 1: how many are left at worst (0 and 0, if there are none).");
    PlatePiles last = Check.of("maid m 1;" + pile("p", "1 2 3 4 5") + "turn m p 1 59;turn m p 1 60;");
    due("behind 59", last.ask(0, 59, 1), 5);
    due("behind 60", last.ask(0, 60, 1), 1);
    due("behind 60, not that of minute 60", last.ask(1, 60, 1), 5);
    PlatePiles empty = Check.of(FIVE + "turn m p 5 1;");
    empty.see(1, 0, 99, true);
    due("none are left: the place", empty.ask(0, 2, 0), 0);
    due("none are left: how many", empty.ask(0, 2, 1), 0);
    PlatePiles single = Check.of(FIVE + "turn m p 5 1;");
    single.see(1, 0, 3, true);
    due("one is left: the first place", single.ask(0, 2, 0), 0);
    due("one is left", single.ask(0, 2, 1), 1);

    of("Promise 31", "NONE: no such ones.");
    for (int turn : new int[] {-1, LOWEST, 1, 14, MOST}) {
      due("turn " + turn, Check.of(FIVE).ask(turn, 1, 0), -1);
      refused("turn " + (turn == 1 ? 6 : turn), y -> y.ask(turn == 1 ? 6 : turn, 1, 0), -1);
    }
    for (int n : new int[] {0, -1, LOWEST, 61, MOST}) {
      due("n of " + n, Check.of(FIVE).ask(0, n, 0), -1);
      refused("n of " + n, y -> y.ask(0, n, 1), -1);
    }
    for (int what : new int[] {-1, LOWEST, 2, MOST}) {
      due("what " + what, Check.of(FIVE).ask(0, 1, what), -1);
      refused("what " + what, y -> y.ask(0, 1, what), -1);
    }
    due("the fourteenth", Check.of("maid m 1;pile p;" + times(14, "turn m p 1 0;")).ask(13, 1, 1), 5);
    due("the fifteenth", Check.of("maid m 1;pile p;" + times(14, "turn m p 1 0;")).ask(14, 1, 1), -1);
    due("new", new PlatePiles().ask(0, 1, 0), -1);
    refused("asked", y -> y.ask(0, 1, 1), 1);
  }

  // ---- promise 32 ----

  private static int drawn(long seed, int numbersEach, int odds) {
    int times = 0;
    for (int i = 0; i < 10; i++) {
      boolean any = false;
      for (int k = 1; k <= numbersEach; k++) {
        any |= number(seed, i * numbersEach + k) % 100 < odds;
      }
      times += any ? 1 : 0;
    }
    return times;
  }

  private static void chance() {
    of("Promise 32", "In how many of ten times drawn (numbers from a seed 0 .. 2147483647 on, one behind another; n 1 .. 99 MINUTES from now) "
        + "so many PLATES 0 .. 20 at least, those of now with, are CHIPPED then;");
    PlatePiles x = Check.of("maid m 1;" + pile("p", "1") + "turn m p 1 0;turn m p 1 1;turn m p 1 98;turn m p 1 99;law crack 17;");
    for (int seed : new int[] {0, 1, 4711, 99999, 100000, MOST - 1, MOST}) {
      due("one number each, seed " + seed, x.chance(seed, 1, 1), drawn(seed, 1, 17));
      due("two numbers each, seed " + seed, x.chance(seed, 2, 1), drawn(seed, 2, 17));
      due("still two, seed " + seed, x.chance(seed, 98, 1), drawn(seed, 2, 17));
      due("three in 99 minutes, seed " + seed, x.chance(seed, 99, 1), drawn(seed, 3, 17));
    }
    PlatePiles late = Check.of("maid m 1;" + pile("p", "1") + "turn m p 1 99;chip 100;");
    due("not in 99 minutes from 0", late.chance(0, 99, 1), 0);
    late.go(1);
    due("in 99 minutes from 1", late.chance(0, 99, 1), 10);
    due("not in 98", late.chance(0, 98, 1), 0);
    due("0 at least", late.chance(0, 1, 0), 10);
    due("20 at least", late.chance(0, 1, 20), 0);
    PlatePiles all = piles("1 2 3 4 5", "1 2 3 4 5", "1 2 3 4 5", "1 2 3 4 5");
    for (int i = 0; i < 20; i++) {
      due("20 at least, with " + i, all.chance(MOST, 99, 20), 0);
      due(i + " at least, with " + i, all.chance(MOST, 99, i), 10);
      all.crack(i / 5, i % 5);
    }
    due("20 at least, those of now with", all.chance(MOST, 99, 20), 10);

    of("Promise 32", "NONE: no such ones.");
    for (int seed : new int[] {-1, LOWEST}) {
      due("seed " + seed, x.chance(seed, 1, 0), -1);
      refused("seed " + seed, y -> y.chance(seed, 1, 0), -1);
    }
    for (int n : new int[] {0, -1, LOWEST, 100, MOST}) {
      due("n of " + n, x.chance(0, n, 0), -1);
      refused("n of " + n, y -> y.chance(0, n, 0), -1);
    }
    for (int chipped : new int[] {-1, LOWEST, 21, MOST}) {
      due("chipped " + chipped, x.chance(0, 1, chipped), -1);
      refused("chipped " + chipped, y -> y.chance(0, 1, chipped), -1);
    }
    due("new", new PlatePiles().chance(0, 1, 0), 10);
    due("new, 1 at least", new PlatePiles().chance(0, 1, 1), 0);
    refused("asked", y -> y.chance(MOST, 99, 0), 10);
  }

  // ---- promise 33 ----

  /** Two by a turn of 1: GAPS 0 as they lie, 1 turned by 2. */
  private static final String TWO = "maid m 1;maid n 1;" + pile("p", "1 2");

  private static int tried(String rest, int what) {
    return Check.of(TWO + rest).tried(what, 0, 1);
  }

  private static void tried() {
    of("Terms 3, promise 33", "0 nothing is IDLE by E of heed,");
    due("heed of 0", tried("turn m p 2 0;law heed 0;", 0), 1);
    due("else it is", Check.of(TWO + "turn m p 2 0;law heed 0;").ahead(1, 5, 0), 0);
    due("by its depth it is", tried("turn m p 3 0;law heed 0;", 0), 0);
    due("without, too", tried("turn m p 2 0;", 0), 1);

    of("Terms 3, promise 33", "1 each TURN told is by 1 more (6, too: IDLE),");
    due("1: by 2", tried("turn m p 1 0;", 1), 1);
    due("2 of two: idle", tried("turn m p 2 0;", 1), 0);
    due("5 of five: 6, idle", Check.of("maid m 1;" + pile("p", "1 2 3 4 5") + "turn m p 5 0;").tried(1, 0, 1), 0);
    due("4 of five: 5", Check.of("maid m 1;" + pile("p", "1 2 3 4 5") + "turn m p 4 0;").tried(1, 0, 1), 1);
    due("heeded by that depth", tried("turn m p 1 0;law heed depth=2;", 1), 1);
    due("not heeded by that depth", tried("turn m p 1 0;law heed depth=1;", 1), 0);

    of("Terms 3, promise 33", "2 MAID i does nothing (not IDLE),");
    PlatePiles x = Check.of(TWO + "turn m p 2 0;turn n p 2 1;turn m p 2 2;");
    due("without m", x.tried(2, 0, 3), 1);
    due("without n", x.tried(2, 1, 3), 0);
    due("of the third turn, m not tired", Check.of(TWO + "turn m p 2 0;law heed tired=0;").tried(2, 0, 1), 0);

    of("Terms 3, promise 33", "3 each TURN told is done twice, one time behind the other, with all that comes of it,");
    due("there and back", tried("turn m p 2 0;", 3), 0);
    due("the second time isn't heeded", tried("turn m p 2 0;law heed tired=0;", 3), 1);
    due("the second time is heeded by its gaps", tried("turn m p 2 0;law heed gaps=0;", 3), 1);
    due("one time behind the other", tried("turn m p 2 0;turn n p 2 0;law heed minute=0 and tired=0;", 3), 0);
    due("each by its own maid, tired by both", tried("turn m p 2 0;turn m p 2 0;law heed tired<6;law effort 2;", 3), 1);

    of("Terms 3, promise 33", "4 each is by all that is there (IDLE, if nothing is).");
    due("1: by 2", tried("turn m p 1 0;", 4), 1);
    due("5: by 2", tried("turn m p 5 0;", 4), 1);
    due("nothing is", Check.of("maid m 1;pile p;turn m p 1 0;").tried(4, 0, 1), 0);
    due("heeded by that depth", tried("turn m p 5 0;law heed depth=2;", 4), 1);
    due("not heeded by its own", tried("turn m p 5 0;law heed depth=5;", 4), 0);
    due("one by one", Check.of("maid m 1;" + pile("p", "1") + "turn m p 5 0;").tried(4, 0, 1), 0);
    due("five by five", Check.of("maid m 1;" + pile("p", "1 2 3 4 5") + "turn m p 1 0;").tried(4, 0, 1), 1);

    of("Terms 3, promise 33", "TRIED for n MINUTES as it goes: GAPS of all PILES in sum then:");
    PlatePiles sum = Check.of("maid m 1;" + pile("p", "3 1 5 2 4") + pile("q", "2 1") + pile("r", "") + pile("s", "7"));
    for (int what = 0; what <= 4; what++) {
      due("6, what " + what, sum.tried(what, 0, 0), 6);
    }
    due("all of twenty", piles("3 1 5 2 4", "3 1 5 2 4", "3 1 5 2 4", "3 1 5 2 4").tried(0, 0, 200), 20);
  }

  private static void triedEdges() {
    of("Promise 33", "TRIED (n 0 .. 200);");
    PlatePiles x = Check.of(TWO + "turn m p 2 0;turn m p 2 99;");
    due("0", x.tried(0, 0, 0), 0);
    due("1", x.tried(0, 0, 1), 1);
    due("99", x.tried(0, 0, 99), 1);
    due("100", x.tried(0, 0, 100), 0);
    due("200", x.tried(0, 0, 200), 0);
    due("new", new PlatePiles().tried(0, 0, 200), 0);

    of("Promise 33", "NONE: no such ones (i 0 of all but 2).");
    for (int n : new int[] {-1, LOWEST, 201, MOST}) {
      for (int what = 0; what <= 4; what++) {
        due("what " + what + " for " + n, x.tried(what, 0, n), -1);
      }
      refused("for " + n, y -> y.tried(0, 0, n), -1);
    }
    for (int what : new int[] {-1, LOWEST, 5, MOST}) {
      due("what " + what, x.tried(what, 0, 0), -1);
      refused("what " + what, y -> y.tried(what, 0, 1), -1);
    }
    for (int i : new int[] {-1, LOWEST, 1, 3, MOST}) {
      for (int what : new int[] {0, 1, 3, 4}) {
        due("what " + what + " of " + i, x.tried(what, i, 0), -1);
      }
      due("maid " + i, x.tried(2, i, 0), i == 1 ? 0 : -1);
      refused("what 0 of " + i, y -> y.tried(0, i, 1), -1);
    }
    due("maid 2 of two", x.tried(2, 2, 0), -1);
    due("maid 3 of four", Check.of("maid a 1;maid b 1;maid c 1;maid d 1;").tried(2, 3, 0), 0);
    due("maid 4 of four", Check.of("maid a 1;maid b 1;maid c 1;maid d 1;").tried(2, 4, 0), -1);
    due("new, no maid", new PlatePiles().tried(2, 0, 0), -1);
    for (int what = 0; what <= 4; what++) {
      int asked = what;
      PlatePiles y = busy();
      int gaps = y.tried(what, 0, 200);
      refused("asked, what " + what, z -> z.tried(asked, 0, 200), gaps);
    }
  }
}
