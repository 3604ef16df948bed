import java.util.ArrayList;
import java.util.List;

/** The boundary cases of the Terms' fourth part (what can be undone, the image) and of promises 34 to 37. */
final class UndoBounds extends Bounds {
  static void all() {
    latestFirst();
    twentyAtMost();
    noMinuteSince();
    undoing();
    image();
    keeping();
    goingBack();
    counts();
    manyCalls();
  }

  private static List<String> lying(PlatePiles x) {
    List<String> made = new ArrayList<>();
    for (int pile = 0; pile < x.count(1); pile++) {
      made.add(row(x, pile) + " turned " + x.pile(pile, 4));
      for (int place = 0; place < x.pile(pile, 0); place++) {
        made.add(x.plate(pile, place, 0) + " " + x.plate(pile, place, 3));
      }
    }
    return made;
  }

  private static void same(String what, List<String> got, List<String> want) {
    due(what + ": " + got + ", due is " + want, got.equals(want), true);
  }

  // ---- Terms 4 ----

  private static void latestFirst() {
    of("Terms 4, promise 34", "Turning, moving, chipping by call (PILES, FACES, what is CHIPPED, how often TURNED) can be undone, the latest first");
    PlatePiles x = piles("1 2' 3 4 5", "9'", "", "7 8");
    List<List<String>> before = new ArrayList<>();
    for (int i = 0; i < 9; i++) {
      before.add(lying(x));
      switch (i) {
        case 0: due("by 5", x.turn(0, 5) >= 0, true); break;
        case 1: due("by 1", x.turn(0, 1) >= 0, true); break;
        case 2: due("the only one", x.move(1, 2), 1); break;
        case 3: due("onto two", x.move(2, 3), 3); break;
        case 4: due("what was moved", x.crack(3, 0), true); break;
        case 5: due("the lowest", x.crack(0, 4), true); break;
        case 6: due("what is chipped", x.turn(3, 3) >= 0, true); break;
        case 7: due("from five", x.move(0, 3), 4); break;
        default: due("onto five", x.move(0, 3), 5); break;
      }
    }
    for (int i = 8; i >= 0; i--) {
      due("undo " + i, x.undo(), i);
      same("as before " + i, lying(x), before.get(i));
    }
    due("none", x.undo(), -1);
    PlatePiles chipped = piles("1 2 3", "4 5");
    for (int i = 0; i < 5; i++) {
      chipped.crack(i / 3, i % 3);
    }
    chipped.turn(0, 1);
    chipped.turn(0, 3);
    chipped.move(0, 1);
    chipped.move(1, 0);
    for (int i = 8; i >= 5; i--) {
      due("undo " + i, chipped.undo(), i);
      due("chipped all the same", chipped.count(9), 5);
    }
    due("the last one chipped", chipped.undo(), 4);
    due("not chipped", chipped.plate(1, 1, 3), 0);
    due("by 1, undone", x.turn(0, 1), 0);
    due("turned once", x.pile(0, 4), 1);
    x.undo();
    due("never turned", x.pile(0, 4), 0);
  }

  private static void twentyAtMost() {
    of("Terms 4, promise 34", "(20 at most),");
    for (int deeds : new int[] {0, 1, 19, 20, 21, 22, 39, 40, 41, 60}) {
      PlatePiles x = piles("1 2 3 4 5", "6");
      List<List<String>> before = new ArrayList<>();
      for (int i = 0; i < deeds; i++) {
        before.add(lying(x));
        if (i % 7 == 3) {
          x.move(x.pile(0, 0) > 1 ? 0 : 1, x.pile(0, 0) > 1 ? 1 : 0);
        } else {
          x.turn(0, 1 + i % x.pile(0, 0));
        }
      }
      int left = Math.min(deeds, 20);
      due("of " + deeds, x.count(15), left);
      for (int i = 1; i <= left; i++) {
        due("of " + deeds + ", undo " + i, x.undo(), left - i);
        same("of " + deeds + ", undo " + i, lying(x), before.get(deeds - i));
      }
      due("of " + deeds + ", no more", x.undo(), -1);
    }
    PlatePiles all = piles("1 2 3 4 5", "1 2 3 4 5", "1 2 3 4 5", "1 2 3 4 5");
    for (int i = 0; i < 20; i++) {
      all.crack(i / 5, i % 5);
    }
    due("twenty are chipped", all.count(9), 20);
    for (int i = 19; i >= 0; i--) {
      due("the latest first", all.undo(), i);
      due("the latest first", all.plate(i / 5, i % 5, 3), 0);
      due("those ahead stay", all.count(9), i);
    }
    PlatePiles again = piles("1 2");
    for (int i = 0; i < 20; i++) {
      again.turn(0, 2);
    }
    again.undo();
    again.turn(0, 1);
    due("twenty again", again.count(15), 20);
    again.turn(0, 1);
    due("twenty still", again.count(15), 20);
  }

  private static void noMinuteSince() {
    of("Terms 4, promise 34", "if no MINUTE went by since.");
    PlatePiles x = piles("1 2 3");
    x.turn(0, 2);
    x.go(0);
    due("none went by", x.count(15), 1);
    x.go(201);
    x.go(-1);
    due("none went by by what is refused", x.count(15), 1);
    x.ahead(200, 0, 0);
    x.tried(0, 0, 200);
    x.chance(0, 99, 0);
    x.rightWhen(0);
    due("none went by by what is asked", x.count(15), 1);
    x.go(1);
    due("one went by", x.count(15), 0);
    due("one went by", x.undo(), -1);
    row("it stays", x, 0, "2' 1' 3");
    x.turn(0, 2);
    due("the one since", x.undo(), 0);
    due("not that ahead", x.undo(), -1);
    row("it stays", x, 0, "2' 1' 3");
    PlatePiles chipped = Check.of("maid m 1;" + pile("p", "1 2") + "turn m p 2 0;chip 100;");
    chipped.go(1);
    due("no minute is undone", chipped.undo(), -1);
    due("chipped in it", chipped.count(9), 1);
  }

  private static void undoing() {
    of("Promise 34", "The latest is undone: how many are left; NONE: none.");
    due("new", new PlatePiles().undo(), -1);
    PlatePiles x = piles("1 2", "3", "", "1");
    due("none yet", x.undo(), -1);
    x.turn(0, 3);
    x.turn(0, 0);
    x.move(2, 0);
    x.move(0, 0);
    x.move(0, 3);
    x.move(0, 4);
    x.crack(2, 0);
    due("none by what is refused", x.count(15), 0);
    x.crack(0, 0);
    x.crack(0, 0);
    due("one", x.count(15), 1);
    due("none left", x.undo(), 0);
    due("none", x.undo(), -1);
    due("not below none", x.count(15), 0);
    refused("none", () -> Check.of(BUSY), y -> y.undo(), -1);
    PlatePiles twin = busy();
    twin.turn(0, 3);
    twin.undo();
    due("as if it never was", trace(twin).equals(trace(busy())), true);
    PlatePiles moved = busy();
    moved.move(0, 3);
    moved.crack(3, 0);
    moved.turn(3, 1);
    moved.undo();
    moved.undo();
    moved.undo();
    due("as if they never were", trace(moved).equals(trace(busy())), true);
  }

  private static void image() {
    of("Terms 4, promises 35, 36", "An IMAGE keeps all but what was SEEN.");
    String text = "maid m 1;maid n 2;" + pile("p", "1 2 3 4 5") + pile("q", "9 8") + "turn m p 5 0;turn n p 3 1;turn m q 5 1;turn n q 2 2;"
        + "turn m p 4 3;turn n p 2 4;turn m q 1 5;turn n p 5 6;law crack 50;law effort 7;seed 5;";
    PlatePiles x = Check.of(text);
    x.go(2);
    x.turn(0, 2);
    x.move(1, 0);
    x.crack(1, 0);
    x.see(1, 0, 5, true);
    List<String> lying = lying(x);
    int[] counts = counted(x);
    due("kept in minute 2", x.keep(), 2);
    x.go(3);
    x.turn(1, 1);
    x.crack(0, 3);
    x.see(2, 0, 3, true);
    x.strike(0);
    due("back in minute 2", x.back(), 2);
    same("piles, faces, what is chipped, how often turned", lying(x), lying);
    int[] then = counted(x);
    for (int what = 0; what <= 12; what++) {
      due("count " + what, then[what], counts[what]);
    }
    due("not what was seen", x.count(13), 3);
    due("not what was seen: 3 behind 2 by 1, 2, 5", x.deep(0), 1 + 2 + 16);
    PlatePiles twin = Check.of(text);
    twin.go(2);
    twin.turn(0, 2);
    twin.move(1, 0);
    twin.crack(1, 0);
    x.go(8);
    twin.go(8);
    same("the numbers go on from there", lying(x), lying(twin));
    due("tired from there", x.count(11), twin.count(11));
    due("idle from there", x.count(10), twin.count(10));
  }

  private static int[] counted(PlatePiles x) {
    int[] made = new int[16];
    for (int what = 0; what < 16; what++) {
      made[what] = x.count(what);
    }
    return made;
  }

  // ---- promises 35, 36 ----

  private static void keeping() {
    of("Promise 35", "An IMAGE is kept (in place of one ahead): which MINUTE it is.");
    due("new", new PlatePiles().keep(), 0);
    PlatePiles x = piles("1 2 3");
    due("0", x.keep(), 0);
    x.go(5);
    x.turn(0, 3);
    due("5", x.keep(), 5);
    due("5 again", x.keep(), 5);
    due("what can be undone still can", x.count(15), 1);
    x.go(1);
    due("the later one", x.back(), 5);
    row("the later one", x, 0, "3' 2' 1'");
    due("that ahead is no more", x.back(), 5);
    for (int i = 0; i < 44; i++) {
      x.go(200);
    }
    x.go(195);
    due("9000", x.keep(), 9000);
    due("9000", x.back(), 9000);
    PlatePiles undone = busy();
    undone.keep();
    undone.undo();
    due("kept, then undone", undone.count(15), 2);
  }

  private static void goingBack() {
    of("Promise 36", "All (but what was SEEN) is as in the IMAGE (nothing to undo then): which MINUTE it is;");
    PlatePiles x = piles("1 2 3", "");
    x.turn(0, 2);
    x.keep();
    due("to be undone", x.count(15), 1);
    due("at once", x.back(), 0);
    due("nothing to undo", x.count(15), 0);
    due("nothing to undo", x.undo(), -1);
    row("as kept", x, 0, "2' 1' 3");
    x.turn(0, 1);
    x.move(0, 1);
    due("again", x.back(), 0);
    due("nothing to undo", x.undo(), -1);
    row("as kept", x, 0, "2' 1' 3");
    row("as kept", x, 1, "");
    x.turn(0, 1);
    due("what came since", x.undo(), 0);
    x.go(200);
    due("from 200", x.back(), 0);
    due("0", x.count(5), 0);

    of("Promise 36", "NONE: there is none.");
    due("new", new PlatePiles().back(), -1);
    due("none kept", piles("1").back(), -1);
    refused("none kept", UndoBounds::withoutImage, y -> y.back(), -1);
    PlatePiles told = busy();
    told.text(0);
    due("none behind a text", told.back(), -1);
    PlatePiles fault = busy();
    fault.text(1);
    due("still there behind a fault", fault.back(), 2);
    PlatePiles none = busy();
    none.text(-1);
    due("still there behind -2", none.back(), 2);
  }

  private static PlatePiles withoutImage() {
    PlatePiles x = Check.of(BUSY);
    x.go(1);
    x.turn(0, 3);
    x.see(1, 0, 3, true);
    return x;
  }

  // ---- promise 37 ----

  private static void counts() {
    of("Promise 37", "0 MAIDS, 1 PILES, 2 PLATES, 3 TURNS told, 4 KNOTS, 5 the MINUTE, 6 RIGHT PILES, 7 PROPER ones, 8 GAPS of all, 9 CHIPPED, "
        + "10 IDLE so far, 11 TIRED of all MAIDS, 12 FACES down of all PLATES, 13 SEEN, 14 by how many it is KNOWN, 15 what can be undone.");
    for (int what = 0; what <= 15; what++) {
      due("new, what " + what, new PlatePiles().count(what), 0);
    }
    PlatePiles full = Check.of("maid a 0;maid b 0;maid c 0;maid d 0;" + pile("a", "3' 1' 5' 2' 4'") + pile("b", "3' 1' 5' 2' 4'")
        + pile("c", "3' 1' 5' 2' 4'") + pile("d", "3' 1' 5' 2' 4'") + times(10, "turn a a 5 0;") + "law effort 999;law heed 1" + times(30, "+0")
        + ";");
    int[] due = {4, 4, 20, 10, 62, 0, 0, 0, 20, 0, 0, 0, 20, 0, 0, 0};
    for (int what = 0; what <= 15; what++) {
      due("full, what " + what, full.count(what), due[what]);
    }
    for (int i = 0; i < 20; i++) {
      full.crack(i / 5, i % 5);
    }
    for (int i = 0; i < 24; i++) {
      full.see(1, 0, 1, true);
    }
    due("all are chipped", full.count(9), 20);
    due("all can be undone", full.count(15), 20);
    due("all that can be seen", full.count(13), 24);
    due("known by all", full.count(14), 24);
    full.known(0);
    due("known by none", full.count(14), 0);
    due("still seen", full.count(13), 24);
    full.go(1);
    due("tired by ten turns", full.count(11), 9990);
    due("nothing was idle", full.count(10), 0);
    due("nothing can be undone", full.count(15), 0);
    PlatePiles right = Check.of("maid m 1;maid n 1;" + pile("p", "1 2") + pile("q", "") + pile("r", "1'") + pile("s", "1 2'")
        + "turn m q 1 0;turn n s 3 0;turn m p 1 1;turn n r 1 1;");
    due("right are all", right.count(6), 4);
    due("proper are two", right.count(7), 2);
    due("two are down", right.count(12), 2);
    right.ahead(200, 4, 0);
    due("none was idle so far", right.count(10), 0);
    right.go(1);
    due("two were", right.count(10), 2);
    due("none is tired", right.count(11), 0);
    right.go(1);
    due("both are tired", right.count(11), 2);
    due("two are down", right.count(12), 2);

    of("Promise 37", "NONE for another what.");
    for (int what : new int[] {-1, 16, 17, MOST, LOWEST}) {
      due("what " + what, full.count(what), -1);
      refused("what " + what, y -> y.count(what), -1);
    }
  }

  private static void manyCalls() {
    of("What it is", "An object is used for at most 512 calls after it has been made;");
    PlatePiles x = new PlatePiles();
    int calls = Check.ints(Check.bytes(BUSY)).length / 5 + 1;
    Check.tell(x, BUSY);
    boolean down = false;
    for (; calls < 508; calls++) {
      due("call " + (calls + 1), x.turn(0, 1), 2);
      down = !down;
    }
    // 3 1' 2 is first turned by 1.
    due("call 509", x.fewest(0, 1), down ? 3 : 4);
    due("call 510", x.keep(), 0);
    due("call 511", x.go(200), 200);
    due("call 512", x.back(), 0);
  }
}
