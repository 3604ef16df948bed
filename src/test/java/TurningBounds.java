import java.util.ArrayList;
import java.util.List;

/** The boundary cases of the Terms' third part up to HOLDS, and of promises 16 to 26. */
final class TurningBounds extends Bounds {
  static void all() {
    ahead();
    anyDepth();
    fewest();
    first();
    ways();
    apart();
    furthest();
    howMany();
    could();
    greedy();
    game();
    gameEdges();
    match();
    holds();
    everyPile();
    onlyAsked();
  }

  // ---- Terms 3 ----

  private static void ahead() {
    of("Terms 3, promise 14", "AHEAD for n MINUTES as it goes: how many PILES are RIGHT, PROPER then, TIRED of a MAID then, "
        + "how many PLATES are CHIPPED then, IDLE more, GAPS of a PILE then.");
    PlatePiles x = Check.of("maid m 1;" + pile("p", "2 1'") + "turn m p 3 0;turn m p 2 1;turn m p 1 2;turn m p 4 3;law effort 400;chip 50;");
    int[][] due = {{0, 0, 0, 0, 0, 1}, {0, 0, 0, 0, 1, 1}, {1, 0, 400, 1, 1, 0}, {1, 0, 800, 1, 1, 0}, {1, 0, 800, 1, 2, 0}};
    for (int n = 0; n < due.length; n++) {
      for (int what = 0; what <= 5; what++) {
        due("for " + n + ", what " + what, x.ahead(n, what, 0), due[n][what]);
      }
    }
    x.go(1);
    x.go(0);
    due("one was idle", x.count(10), 1);
    due("idle more", x.ahead(200, 4, 0), 1);
    due("no pile is right of none", new PlatePiles().ahead(0, 0, 0), 0);
    due("an empty one is right", piles("").ahead(0, 0, 0), 1);
    due("an empty one is proper", piles("").ahead(0, 1, 0), 1);
  }

  private static void anyDepth() {
    of("Terms 3, promises 16 to 24", "All that follows goes by TURNED alone, any DEPTH 1 .. HIGH each time, whatever laws (a PILE of none can't be TURNED).");
    PlatePiles x = Check.of("maid m 9;" + pile("p", "2 1") + pile("q", "") + "law heed 0;law effort 999;chip 100;turn m p 2 0;");
    due("whatever heed", x.fewest(0, 0), 1);
    due("by all", x.first(0, 0), 2);
    due("by one, too", piles("1'").first(0, 1), 1);
    due("by two from two orders", x.could(0, 0, 1), 2);
    due("none of none", x.could(1, 0, 1), 0);
    due("none of none, faces", x.could(1, 1, 1), 0);
    due("five from five", piles("1 2 3 4 5").could(0, 0, 1), 5);
    due("five from five, faces", piles("1 2 3 4 5").could(0, 1, 1), 5);
    due("by five", piles("5' 4' 3' 2' 1'").fewest(0, 1), 1);
    due("by five", piles("5' 4' 3' 2' 1'").first(0, 1), 5);
  }

  private static void noSuchPiles(String what, Look look) {
    PlatePiles four = piles("2 1", "2 1", "2 1", "2' 1");
    for (int pile : new int[] {4, 5, MOST, -1, LOWEST}) {
      due(what + " of pile " + pile, look.at(four, pile, 0), -1);
      due(what + " of pile " + pile, look.at(four, pile, 1), -1);
      refused(what + " of pile " + pile, y -> look.at(y, pile, 0), -1);
    }
    due(what + " of the last pile", look.at(four, 3, 1) >= 0, true);
    due(what + " of the first of none", look.at(new PlatePiles(), 0, 0), -1);
    due(what + " of the second of one", look.at(piles("1"), 1, 0), -1);
  }

  private static void noSuchWhich(String what, Look look) {
    PlatePiles one = piles("2 1'");
    for (int which : new int[] {2, 3, MOST, -1, LOWEST}) {
      due(what + ", which " + which, look.at(one, 0, which), -1);
      refused(what + ", which " + which, y -> look.at(y, 0, which), -1);
    }
  }

  /** An answer of a pile, by which. */
  interface Look {
    long at(PlatePiles x, int pile, int which);
  }

  private static void fewest() {
    of("Terms 3, promise 16", "FEWEST of a PILE: how few times it must be TURNED to be RIGHT (0) or PROPER (1);");
    PlatePiles x = piles("", "1'", "2 1", "1' 2'");
    int[] right = {0, 0, 1, 0};
    int[] proper = {0, 1, 3, 4};
    for (int pile = 0; pile < 4; pile++) {
      due("right, pile " + pile, x.fewest(pile, 0), right[pile]);
      due("proper, pile " + pile, x.fewest(pile, 1), proper[pile]);
    }
    PlatePiles five = piles("1 2 3 4 5", "1' 2' 3' 4' 5'", "3 2 1 4' 5'", "3 1 4 2 5");
    int[] rightFive = {0, 0, 1, 4};
    int[] properFive = {0, 10, 10, 5};
    for (int pile = 0; pile < 4; pile++) {
      due("right, five, pile " + pile, five.fewest(pile, 0), rightFive[pile]);
      due("proper, five, pile " + pile, five.fewest(pile, 1), properFive[pile]);
    }
    due("as right, far from proper", piles("1 2 3 4 5'").fewest(0, 0), 0);

    of("Promise 16", "FEWEST to be RIGHT (which 0), PROPER (1); NONE: no such ones.");
    noSuchPiles("fewest", PlatePiles::fewest);
    noSuchWhich("fewest", PlatePiles::fewest);
  }

  private static void first() {
    of("Promise 17", "FIRST; -2: it is so; NONE: no such ones.");
    PlatePiles x = piles("", "1'", "1 2", "1' 2");
    int[] right = {-2, -2, -2, -2};
    int[] proper = {-2, 1, -2, 1};
    for (int pile = 0; pile < 4; pile++) {
      due("right, pile " + pile, x.first(pile, 0), right[pile]);
      due("proper, pile " + pile, x.first(pile, 1), proper[pile]);
    }
    noSuchPiles("first", (y, pile, which) -> y.first(pile, which));
    due("five right, one down", piles("1 2 3 4 5'").first(0, 0), -2);
    noSuchWhich("first", PlatePiles::first);

    of("Terms 3, promise 17", "FIRST: the least DEPTH by which it can begin;");
    // Of 1' 2' both 1 2 1 2 and 2 1 2 1 do it; of 1 3 2 both 2 3 2 and 3 2 3.
    due("1 rather than 2", piles("1' 2'").first(0, 1), 1);
    due("2 rather than 3", piles("1 3 2").first(0, 0), 2);
    due("1 has no use for the order alone", piles("2 1").first(0, 0), 2);
    due("the most", piles("5 4 3 2 1").first(0, 0), 5);
    due("the least", piles("1' 2 3 4 5").first(0, 1), 1);
  }

  private static void ways() {
    of("Terms 3, promise 18", "WAYS: in how many rows of just that many DEPTHS.");
    due("two", piles("1' 2'").ways(0, 1), 2);
    due("two", piles("1 3 2").ways(0, 0), 2);
    due("one", piles("5 4 3 2 1").ways(0, 0), 1);

    of("Promise 18", "WAYS (1 of one that is so); NONE: no such ones.");
    PlatePiles x = piles("", "1'", "1 2", "1 2 3 4 5");
    for (int pile = 0; pile < 4; pile++) {
      due("right, pile " + pile, x.ways(pile, 0), 1);
      due("proper, pile " + pile, x.ways(pile, 1), 1);
    }
    noSuchPiles("ways", PlatePiles::ways);
    noSuchWhich("ways", PlatePiles::ways);
  }

  private static void apart() {
    of("Terms 3, promise 19", "how few times the one must be TURNED so that its SIZES, by which is greater, lie as the other one's, "
        + "and (1) FACES are as there, place by place.");
    PlatePiles x = piles("", "", "99'", "1");
    due("none", x.apart(0, 1, 0), 0);
    due("none, faces", x.apart(0, 1, 1), 0);
    due("one, orders", x.apart(2, 3, 0), 0);
    due("one, faces", x.apart(2, 3, 1), 1);
    due("one, itself", x.apart(2, 2, 1), 0);
    PlatePiles y = piles("10 20 30 40 50", "1' 2' 3' 4' 5'", "5 4 3 2 1", "1 2 3 4 99");
    due("the furthest of five", y.apart(0, 1, 1), 10);
    due("and back", y.apart(1, 0, 1), 10);
    due("orders", y.apart(0, 1, 0), 0);
    due("by all", y.apart(0, 2, 0), 1);
    due("by which is greater alone", y.apart(0, 3, 1), 0);
    // 1 2 3 to 3' 1 2: 3' 2' 1' by 3, then 2 3 1' by 2, and so on: its like is 1 2 3 seen from 3' 1 2.
    PlatePiles z = piles("1 2", "2' 1", "2' 1'", "1' 2");
    due("1 2 to 2' 1' by 2", z.apart(0, 2, 1), 1);
    due("1 2 to 1' 2 by 1", z.apart(0, 3, 1), 1);
    due("1 2 to 2' 1 by 1, 2", z.apart(0, 1, 1), 2);
    due("2' 1' to 2' 1: round by 2, 1, 2", z.apart(2, 1, 1), 3);

    of("Promise 19", "APART (which 0: FACES not looked at, 1: FACES alike); -2: they aren't as HIGH; NONE: no such ones.");
    PlatePiles high = piles("", "1", "1 2 3 4", "1 2 3 4 5");
    for (int one = 0; one < 4; one++) {
      for (int other = 0; other < 4; other++) {
        due(one + " and " + other, high.apart(one, other, 0), one == other ? 0 : -2);
        due(one + " and " + other + ", faces", high.apart(one, other, 1), one == other ? 0 : -2);
      }
    }
    for (int n : new int[] {4, MOST, -1, LOWEST}) {
      due("one " + n, high.apart(n, 0, 0), -1);
      due("other " + n, high.apart(0, n, 0), -1);
      refused("other " + n, q -> q.apart(0, n, 1), -1);
    }
    for (int n : new int[] {2, MOST, -1, LOWEST}) {
      due("which " + n, high.apart(0, 0, n), -1);
      due("which " + n + ", not as high", high.apart(0, 1, n), -1);
      refused("which " + n, q -> q.apart(0, 0, n), -1);
    }
    refused("not as high", q -> q.apart(0, 3, 0), -2);
    due("new", new PlatePiles().apart(0, 0, 0), -1);
  }

  private static final int[] FURTHEST_RIGHT = {0, 0, 1, 3, 4, 5};
  private static final int[] FURTHEST_PROPER = {0, 1, 4, 6, 8, 10};

  private static void furthest() {
    of("Promise 20", "FURTHEST for so many PLATES 0 .. 5; NONE: no such ones.");
    PlatePiles x = new PlatePiles();
    for (int plates = 0; plates <= 5; plates++) {
      due("right, " + plates, x.furthest(plates, 0), FURTHEST_RIGHT[plates]);
      due("proper, " + plates, x.furthest(plates, 1), FURTHEST_PROPER[plates]);
    }
    for (int n : new int[] {-1, 6, MOST, LOWEST}) {
      due("plates " + n, x.furthest(n, 0), -1);
      due("plates " + n, x.furthest(n, 1), -1);
      refused("plates " + n, y -> y.furthest(n, 0), -1);
    }
    for (int n : new int[] {-1, 2, MOST, LOWEST}) {
      due("which " + n, x.furthest(0, n), -1);
      due("which " + n, x.furthest(5, n), -1);
      refused("which " + n, y -> y.furthest(5, n), -1);
    }
  }

  private static void howMany() {
    of("Promise 21", "HOW MANY have a FEWEST of 0 .. 20; NONE: no such ones.");
    PlatePiles x = new PlatePiles();
    int[] least = {1, 1, 1, 1, 1, 1};
    int[] farRight = {1, 1, 1, 1, 3, 20};
    int[] farProper = {1, 1, 1, 2, 3, 4};
    for (int plates = 0; plates <= 5; plates++) {
      due("right, 0 of " + plates, x.howMany(plates, 0, 0), least[plates]);
      due("proper, 0 of " + plates, x.howMany(plates, 1, 0), least[plates]);
      due("right, the furthest of " + plates, x.howMany(plates, 0, FURTHEST_RIGHT[plates]), farRight[plates]);
      due("proper, the furthest of " + plates, x.howMany(plates, 1, FURTHEST_PROPER[plates]), farProper[plates]);
      for (int fewest = FURTHEST_RIGHT[plates] + 1; fewest <= 20; fewest++) {
        due("right, " + fewest + " of " + plates, x.howMany(plates, 0, fewest), 0);
      }
      for (int fewest = FURTHEST_PROPER[plates] + 1; fewest <= 20; fewest++) {
        due("proper, " + fewest + " of " + plates, x.howMany(plates, 1, fewest), 0);
      }
    }
    for (int n : new int[] {-1, 21, MOST, LOWEST}) {
      due("fewest " + n, x.howMany(5, 1, n), -1);
      refused("fewest " + n, y -> y.howMany(0, 0, n), -1);
    }
    for (int n : new int[] {-1, 6, MOST, LOWEST}) {
      due("plates " + n, x.howMany(n, 0, 0), -1);
      refused("plates " + n, y -> y.howMany(n, 1, 0), -1);
    }
    for (int n : new int[] {-1, 2, MOST, LOWEST}) {
      due("which " + n, x.howMany(5, n, 0), -1);
      refused("which " + n, y -> y.howMany(5, n, 0), -1);
    }

    of("Terms 3, promise 21", "(orders, and FACES of 1)");
    int[] five = {1, 4, 12, 35, 48, 20};
    int[] fiveFaced = {1, 5, 20, 80, 280, 680, 1214, 1127, 389, 40, 4};
    for (int fewest = 0; fewest < five.length; fewest++) {
      due("right, " + fewest + " of 5", x.howMany(5, 0, fewest), five[fewest]);
    }
    for (int fewest = 0; fewest < fiveFaced.length; fewest++) {
      due("proper, " + fewest + " of 5", x.howMany(5, 1, fewest), fiveFaced[fewest]);
    }
  }

  private static void could() {
    of("Terms 3, promise 22", "can come of one by being TURNED just so many times (each once, by however many rows).");
    int[] three = {1, 3, 5, 6, 6, 6, 6, 6, 6, 6};
    int[] threeFaced = {1, 3, 7, 15, 25, 35, 43, 47, 48, 48};
    int[] five = {1, 5, 17, 52, 100, 120, 120, 120, 120, 120};
    int[] fiveFaced = {1, 5, 21, 85, 301, 901, 2086, 3343, 3793, 3836};
    PlatePiles x = piles("1 2 3", "1 2 3 4 5", "3' 1 2", "5 2 4' 1 3");
    for (int times = 0; times <= 9; times++) {
      due("three, " + times, x.could(0, 0, times), three[times]);
      due("three, faces, " + times, x.could(0, 1, times), threeFaced[times]);
      due("five, " + times, x.could(1, 0, times), five[times]);
      due("five, faces, " + times, x.could(1, 1, times), fiveFaced[times]);
      due("from elsewhere, " + times, x.could(2, 1, times), threeFaced[times]);
      due("from elsewhere, " + times, x.could(3, 0, times), five[times]);
    }
    PlatePiles small = piles("", "1'", "2 1", "2 1'");
    int[] twoFaced = {1, 2, 3, 4, 4, 4, 4, 4, 4, 4};
    for (int times = 0; times <= 9; times++) {
      due("none, " + times, small.could(0, 0, times), times == 0 ? 1 : 0);
      due("none, faces, " + times, small.could(0, 1, times), times == 0 ? 1 : 0);
      due("one, " + times, small.could(1, 0, times), 1);
      due("one, faces, " + times, small.could(1, 1, times), 1);
      due("two, " + times, small.could(2, 0, times), times == 0 ? 1 : 2);
      due("two, faces, " + times, small.could(3, 1, times), twoFaced[times]);
    }

    of("Promise 22", "COULD (times 0 .. 9); NONE: no such ones.");
    for (int n : new int[] {-1, 10, MOST, LOWEST}) {
      due("times " + n, x.could(0, 0, n), -1);
      due("times " + n + " of none", small.could(0, 1, n), -1);
      refused("times " + n, y -> y.could(0, 0, n), -1);
    }
    noSuchPiles("could", (y, pile, which) -> y.could(pile, which, 0));
    noSuchWhich("could", (y, pile, which) -> y.could(pile, which, 9));
  }

  private static void greedy() {
    of("Terms 3, promise 23", "TURNED by its place (from the top, 1 the first), if it isn't on top, then by the place where it belongs (each counts).");
    due("none", piles("").greedy(0), 0);
    due("one, down", piles("1'").greedy(0), 0);
    due("right", piles("1 2 3 4 5").greedy(0), 0);
    due("on top: one turn", piles("2 1").greedy(0), 1);
    due("not on top: two, then 1 2", piles("1 3 2").greedy(0), 3);
    due("on top, then not", piles("3 1 2").greedy(0), 2);
    due("two lie right from below", piles("2 1 3").greedy(0), 1);
    due("five on top", piles("5 4 3 2 1").greedy(0), 1);
    // 1 3 5 4 2: 5 3 1 4 2, 2 4 1 3 5, 4 2 1 3 5, 3 1 2 4 5, 2 1 3 4 5, right.
    due("five", piles("1 3 5 4 2").greedy(0), 6);
    // 2 4 1 3 with 5 below: by 2 4 2 1 3, by 4 3 1 2 4, by 3 2 1 3 4, by 2 right.
    due("the greatest of those above and itself", piles("2 4 1 3 5").greedy(0), 4);

    of("Promise 23", "GREEDY; NONE: no such PILE.");
    noSuchPiles("greedy", (y, pile, which) -> y.greedy(pile));
    refused("asked", () -> piles("1 3 5 4 2"), y -> y.greedy(0), 6);
  }

  private static void game() {
    of("Terms 3, promise 24", "two by turns TURN it, by 2 at least (for RIGHT) or by any DEPTH (for PROPER),");
    PlatePiles two = piles("2 1", "1'", "2' 1'", "1' 2");
    due("by 2", two.game(0, 0, 1), 2);
    due("by 1", two.game(1, 1, 1), 1);
    due("by 2 to be proper: 1 loses", two.game(2, 1, 0), 0);
    due("by 1 to be proper", two.game(3, 1, 1), 1);
    // 3 1 2: by 2 comes 1 3 2, which 3 doesn't win; by 1 nothing could be put off.
    due("not by 1 for right", piles("3 1 2").game(0, 0, 0), 1);
    due("not by 1 for right", piles("3 1 2").game(0, 0, 1), 2);

    of("Terms 3, promise 24", "but never by the DEPTH by which it was TURNED just ahead of that in the GAME (the first one by any);");
    PlatePiles turned = piles("1 2");
    turned.turn(0, 2);
    due("by the depth of a call", turned.game(0, 0, 0), 0);
    due("by 2 again", turned.game(0, 0, 1), 2);
    PlatePiles gone = Check.of("maid m 1;" + pile("p", "1 2") + "turn m p 2 0;");
    gone.go(1);
    due("by the depth of a turn told", gone.game(0, 0, 1), 2);
    due("by the depth of a turn told, proper", gone.game(0, 1, 0), 0);
    // Each turn of two with faces but the first is known: the row goes on round eight.
    PlatePiles round = piles("2 1", "1 2'", "2 1'", "2' 1");
    due("three away", round.game(0, 1, 0), 0);
    due("three away", round.game(1, 1, 0), 0);
    due("two away", round.game(2, 1, 0), 1);
    due("two away", round.game(3, 1, 0), 1);
    due("four away", piles("1' 2'").game(0, 1, 0), 1);

    of("Terms 3, promise 24", "nobody wins, if both can always put it off, or if it is so already.");
    due("put off", piles("3 1' 2 5 4'").game(0, 1, 0), 2);
    // Of 2 3 1 4 the other one wins behind 2 (3 2 1 4), of 2 1' 3 behind 1 (2' 1' 3).
    due("put off", piles("2 3 1 4").game(0, 0, 0), 2);
    due("put off, not by 2", piles("2 3 1 4").game(0, 0, 1), 3);
    due("put off", piles("2 1' 3").game(0, 1, 0), 2);
    due("put off, not by 1", piles("2 1' 3").game(0, 1, 1), 2);
    PlatePiles so = piles("", "1", "1' 2", "1 2 3 4 5");
    int[] proper = {2, 2, 0, 2};
    for (int pile = 0; pile < 4; pile++) {
      due("right already, pile " + pile, so.game(pile, 0, 0), 2);
      due("proper already, pile " + pile, so.game(pile, 1, 0), proper[pile]);
    }
  }

  private static void gameEdges() {
    of("Promise 24", "GAME, what 0: who wins (0: who begins, 1: the other one, 2: nobody),");
    due("who begins", piles("2 1").game(0, 0, 0), 0);
    due("the other one", piles("3 1 2").game(0, 0, 0), 1);
    due("nobody", piles("").game(0, 0, 0), 2);

    of("Promise 24", "the least by which it comes to that, the other one's winning, too (-2: it is so already, the PILE is empty).");
    PlatePiles so = piles("", "1'", "1 2", "1 2 3 4 5'");
    int[] proper = {-2, 1, -2};
    for (int pile = 0; pile < 3; pile++) {
      due("right already, pile " + pile, so.game(pile, 0, 1), -2);
      due("proper already or not, pile " + pile, so.game(pile, 1, 1), proper[pile]);
    }
    due("right already, five", so.game(3, 0, 1), -2);
    due("nobody: the least to put it off", piles("3 1' 2 5 4'").game(0, 1, 1), 1);
    due("the other one's: the least of all", piles("2 1'").game(0, 1, 1), 1);
    due("wins by 2 alone", piles("2 1").game(0, 0, 1), 2);
    due("wins by 5 alone", piles("5 4 3 2 1").game(0, 0, 1), 5);

    of("Promise 24", "NONE: no such ones.");
    noSuchPiles("who wins", (y, pile, which) -> y.game(pile, which, 0));
    noSuchWhich("who wins", (y, pile, which) -> y.game(pile, which, 0));
    noSuchWhich("the first depth", (y, pile, which) -> y.game(pile, which, 1));
    for (int what : new int[] {2, 3, MOST, -1, LOWEST}) {
      due("what " + what, so.game(1, 1, what), -1);
      due("what " + what + " of none", so.game(0, 0, what), -1);
      refused("what " + what, y -> y.game(0, 0, what), -1);
    }
  }

  // ---- matches ----

  private static void match() {
    of("Terms 3, promise 25", "for each MAID a PILE that isn't PROPER now, or none, none for two, of which FEWEST to be PROPER is SKILL at most,");
    for (int skill = 0; skill <= 9; skill++) {
      due("3 by skill " + skill, matched("maid m " + skill + ";" + pile("p", "2 1")), skill >= 3 ? "0" : "-2");
      due("1 by skill " + skill, matched("maid m " + skill + ";" + pile("p", "1'")), skill >= 1 ? "0" : "-2");
      due("proper by skill " + skill, matched("maid m " + skill + ";" + pile("p", "1 2")), "-2");
      due("10 by skill " + skill, matched("maid m " + skill + ";" + pile("p", "1' 2' 3' 4' 5'")), "-2");
    }
    due("none for two", matched("maid m 9;maid n 9;" + pile("p", "1'")), "0 -2");
    due("an empty one is proper", matched("maid m 9;pile p;"), "-2");
    String proper = pile("p", "1") + pile("q", "1") + pile("r", "1") + pile("s", "1");
    due("four proper ones", matched("maid m 9;" + proper), "-2");
    due("four proper ones", matched("maid m 9;maid n 9;maid o 9;maid u 9;" + proper), "-2 -2 -2 -2");
    due("nobody may", matched("maid m 0;maid n 0;" + pile("p", "1'") + pile("q", "1'") + pile("r", "1'") + pile("s", "1'")), "-2 -2");
    PlatePiles now = Check.of("maid m 1;" + pile("p", "1"));
    due("proper now", now.match(0), -2);
    now.turn(0, 1);
    due("not proper now", now.match(0), 0);

    of("Terms 3, promise 25", "so that as many as may be have one, then so that these FEWEST in sum are least, of several the first by MAIDS "
        + "(PILES by numbers, none is last).");
    String wrong = pile("p", "2 1") + pile("q", "1'");
    due("both, though q by m is less", matched("maid m 3;maid n 1;" + wrong), "0 1");
    due("one: the least", matched("maid m 9;" + wrong), "1");
    due("the first maid, the first pile", matched("maid m 9;maid n 9;" + pile("p", "1'") + pile("q", "1'") + pile("r", "1'")), "0 1");
    due("none is last", matched("maid a 9;maid b 9;maid c 9;" + pile("p", "1'") + pile("q", "1'")), "0 1 -2");
    due("the first who may", matched("maid a 0;maid b 9;maid c 9;" + pile("p", "1'")), "-2 0 -2");
    due("less in sum first", matched("maid a 9;maid b 1;" + pile("p", "1'") + pile("q", "2 1'") + pile("r", "1'")), "0 2");
    due("all four", matched("maid a 9;maid b 9;maid c 9;maid d 9;" + pile("p", "1'") + pile("q", "2 1") + pile("r", "1' 2") + pile("s", "2' 1'")),
        "0 1 2 3");
    due("all four, crosswise", matched("maid a 4;maid b 3;maid c 2;maid d 1;" + pile("p", "1'") + pile("q", "2 1'") + pile("r", "2 1")
        + pile("s", "1' 2'")), "3 2 1 0");

    String[] rows = {"1", "1'", "2 1'", "2 1", "1' 2'"};
    for (int k = 0; k < 625; k += 3) {
      for (int s = 0; s < 64; s += 7) {
        int maids = 1 + (k + s) % 4;
        StringBuilder text = new StringBuilder();
        for (int i = 0; i < 4; i++) {
          text.append(i < maids ? "maid " + (char) ('a' + i) + " " + (1 + (s >> i & 3)) + ";" : "");
          text.append(i < 1 + k % 4 ? pile("" + (char) ('p' + i), rows[k / (i == 0 ? 1 : i == 1 ? 5 : i == 2 ? 25 : 125) % 5]) : "");
        }
        Model model = new Model();
        model.tell(text.toString());
        PlatePiles x = Check.of(text.toString());
        for (int what = 0; what <= 5; what++) {
          due("what " + what + " of " + text, x.match(what), model.match(what));
        }
      }
    }

    of("Promise 25", "MATCH, what 0 .. 3: the PILE of that MAID (-2: none, there are not so many), 4: how many have one, 5: FEWEST in sum.");
    PlatePiles four = Check.of("maid a 4;maid b 3;maid c 2;maid d 1;" + pile("p", "1'") + pile("q", "2 1'") + pile("r", "2 1")
        + pile("s", "1' 2'"));
    int[] due = {3, 2, 1, 0, 4, 10};
    PlatePiles one = Check.of("maid a 9;" + pile("p", "2 1"));
    int[] dueOne = {0, -2, -2, -2, 1, 3};
    int[] dueNone = {-2, -2, -2, -2, 0, 0};
    for (int what = 0; what <= 5; what++) {
      due("four, what " + what, four.match(what), due[what]);
      due("one, what " + what, one.match(what), dueOne[what]);
      due("new, what " + what, new PlatePiles().match(what), dueNone[what]);
      due("no piles, what " + what, Check.of("maid a 9;").match(what), dueNone[what]);
      due("no maids, what " + what, Check.of(pile("p", "2 1")).match(what), dueNone[what]);
    }

    of("Promise 25", "NONE for another what.");
    for (int what : new int[] {-1, 6, MOST, LOWEST}) {
      due("what " + what, four.match(what), -1);
      due("what " + what, new PlatePiles().match(what), -1);
      refused("what " + what, y -> y.match(what), -1);
    }
  }

  private static String matched(String text) {
    PlatePiles x = Check.of(text);
    StringBuilder made = new StringBuilder();
    for (int maid = 0; maid < x.count(0); maid++) {
      made.append(maid == 0 ? "" : " ").append(x.match(maid));
    }
    return made.toString();
  }

  private static void due(String what, String got, String want) {
    Bounds.due(what + ": " + got + ", due is " + want, got.equals(want), true);
  }

  // ---- holds ----

  private static void holds() {
    of("Promise 26", "HOLDS (n 0 .. 6) in least terms, what 0: the number above, 1: the one below.");
    PlatePiles never = Check.of("chip 0;");
    PlatePiles sure = Check.of("chip 100;");
    PlatePiles one = Check.of("chip 1;");
    PlatePiles half = Check.of("chip 50;");
    PlatePiles most = Check.of("chip 99;");
    for (int n = 0; n <= 6; n++) {
      due("0, above, " + n, never.holds(n, 0), 1);
      due("0, below, " + n, never.holds(n, 1), 1);
      due("100, above, " + n, sure.holds(n, 0), n == 0 ? 1 : 0);
      due("100, below, " + n, sure.holds(n, 1), 1);
      due("50, above, " + n, half.holds(n, 0), 1);
      due("50, below, " + n, half.holds(n, 1), 1L << n);
      due("99, above, " + n, most.holds(n, 0), 1);
      due("1, below, " + n, one.holds(n, 1), (long) Math.pow(100, n));
      due("99, below, " + n, most.holds(n, 1), (long) Math.pow(100, n));
      due("not told, below, " + n, new PlatePiles().holds(n, 1), 1);
    }
    due("1, above, 6", one.holds(6, 0), 941480149401L);
    due("36 is 9 of 25", Check.of("chip 64;").holds(2, 0), 81);
    due("36 is 9 of 25", Check.of("chip 64;").holds(2, 1), 625);
    due("98 is 49 of 50", Check.of("chip 2;").holds(6, 0), 13841287201L);
    due("98 is 49 of 50", Check.of("chip 2;").holds(6, 1), 15625000000L);

    of("Promise 26", "NONE: no such ones.");
    for (int n : new int[] {-1, 7, MOST, LOWEST}) {
      due("n of " + n, one.holds(n, 0), -1);
      due("n of " + n, one.holds(n, 1), -1);
      refused("n of " + n, y -> y.holds(n, 0), -1);
    }
    for (int what : new int[] {-1, 2, MOST, LOWEST}) {
      due("what " + what, one.holds(0, what), -1);
      due("what " + what, one.holds(6, what), -1);
      refused("what " + what, y -> y.holds(1, what), -1);
    }

    of("Terms 3, promise 26", "how likely n TURNS chip nothing by chip told, as a fraction.");
    due("whatever law", Check.of("chip 50;law crack 0;").holds(1, 1), 2);
    due("whatever law", Check.of("law crack 50;").holds(1, 1), 1);
  }

  /** All piles up to four by FACES, those of five by orders, against the model. */
  private static void everyPile() {
    of("Terms 3, promises 16, 17, 18, 23, 24", "any DEPTH 1 .. HIGH each time,");
    for (int high = 0; high <= 5; high++) {
      List<String> rows = new ArrayList<>();
      allRows("", high, rows);
      for (String row : rows) {
        PlatePiles x = piles(row);
        Model model = new Model();
        model.tell("maid m 9;" + pile("p", row));
        for (int which = 0; which <= (high < 5 ? 1 : 0); which++) {
          String what = " of " + row + ", which " + which;
          due("fewest" + what, x.fewest(0, which), model.fewest(0, which));
          due("first" + what, x.first(0, which), model.first(0, which));
          due("ways" + what, x.ways(0, which), model.ways(0, which));
          due("who wins" + what, x.game(0, which, 0), model.game(0, which, 0));
          due("the first depth" + what, x.game(0, which, 1), model.game(0, which, 1));
        }
        due("greedy of " + row, x.greedy(0), model.greedy(0));
      }
    }
  }

  private static void allRows(String begun, int high, List<String> rows) {
    int told = begun.isEmpty() ? 0 : begun.split(" ").length;
    if (told == high) {
      rows.add(begun);
      return;
    }
    for (int size = 1; size <= high; size++) {
      if (!begun.contains("" + size)) {
        for (int face = 0; face <= (high < 5 ? 1 : 0); face++) {
          allRows(begun + (told == 0 ? "" : " ") + size + (face == 1 ? "'" : ""), high, rows);
        }
      }
    }
  }

  /** What is only asked changes nothing. */
  private static void onlyAsked() {
    of("Terms 3, promises 16 to 26", "All that follows goes by TURNED alone,");
    refused("fewest", y -> y.fewest(0, 1), 4);
    refused("first", y -> y.first(0, 0), 3);
    refused("ways", y -> y.ways(0, 0), 1);
    refused("apart", y -> y.apart(0, 0, 1), 0);
    refused("furthest", y -> y.furthest(5, 1), 10);
    refused("howMany", y -> y.howMany(5, 1, 10), 4);
    refused("could", y -> y.could(0, 1, 9), 48);
    refused("greedy", y -> y.greedy(0), 2);
    refused("game", y -> y.game(0, 0, 1), 2);
    refused("match", y -> y.match(4), 2);
    refused("holds", y -> y.holds(6, 1), 1000000);
  }
}
