import java.util.ArrayList;
import java.util.Arrays;
import java.util.HashMap;
import java.util.HashSet;
import java.util.List;
import java.util.Map;
import java.util.Set;

/**
 * The sentences of the document that name no boundary case and that the other parts leave, each by itself, in the
 * document's order. What is due is worked out from the words once more, by rows of plates as piles() takes them.
 */
final class PlainSentences extends Bounds {
  static void all() {
    namesOfLaws();
    platesAndTurns();
    tooMuch();
    aPile();
    aGap();
    aMinute();
    whatNamesMean();
    apart();
    furthest();
    could();
    greedy();
    game();
    gameChoice();
    match();
    holds();
    strike();
    ask();
    laws();
  }

  // ---- Terms 1 ----

  private static void namesOfLaws() {
    of("Terms 1, promises 3, 4, 9", "NAME: size depth high skill tired gaps minute.");
    String[] names = {"size", "depth", "high", "skill", "tired", "gaps", "minute"};
    long[] values = {4, 2, 3, 7, 0, 2, 0};
    for (int i = 0; i < names.length; i++) {
      value(names[i], values[i]);
      value("1+" + names[i] + "*2", 1 + 2 * values[i]);
      fine("law effort " + names[i] + ";law crack " + names[i] + ";law heed " + names[i] + ";", 3);
      fault("law heed " + names[i] + " " + names[i] + ";", 1, 10 + names[i].length());
      fault("law heed " + names[i] + "s;", 1, 9);
    }
    for (String other : new String[] {"maid", "pile", "plate", "turn", "chip", "seed", "law", "effort", "crack", "heed", "m", "face"}) {
      fault("maid m 1;law heed " + other + ";", 1, 18);
      fault("maid m 1;law heed 1+" + other + ";", 1, 20);
    }

    of("Terms 1, promises 3, 4, 9", "A = (or > behind <) right behind < or > belongs to it.");
    value("4<=size", 1);
    value("size>=5", 0);
    value("size<>4", 0);
    fine("law heed size<=depth or size>=high and size<>1;", 1);
  }

  private static void platesAndTurns() {
    of("Terms 1, promises 3, 7", "PLATES (plate): in a PILE below those told ahead,");
    PlatePiles x = Check.of("pile p;plate p 5 1;pile q;plate p 2 0;plate q 2 1;plate p 9 0;");
    row("the first told is on top", x, 0, "5' 2 9");
    row("of another pile", x, 1, "2'");

    of("Terms 1, promises 3, 13", "a MAID, a PILE, DEPTH 1 .. 5, a MINUTE 0 .. 99.");
    PlatePiles y = Check.of("maid a 1;maid b 1;pile a;pile b;plate a 1 0;plate b 1 0;plate b 2 0;turn b a 1 3;turn a b 2 4;");
    int[][] due = {{0, 0, 0, 0}, {0, 1, 1, 0}, {2, 1, 1, 1}};
    for (int i = 0; i < due.length; i++) {
      y.go(i == 0 ? 3 : 1);
      int[] is = {y.maid(0, 1), y.maid(1, 1), y.pile(0, 4), y.pile(1, 4)};
      due("behind " + y.count(5) + " minutes: " + Arrays.toString(is), Arrays.equals(is, due[i]), true);
    }
  }

  private static void tooMuch() {
    of("Terms 1, promise 4", "2 too much (at it): a number beyond what is said,");
    String both = "maid m 1;pile p;";
    String[] ahead = {"maid n ", both + "plate p ", both + "plate p ", both + "plate p 1 ", both + "turn m p ", both + "turn m p ",
        both + "turn m p 1 ", "chip ", "seed ", "law heed ", "law heed (1+"};
    String[] beyond = {"10", "0", "100", "2", "0", "6", "100", "101", "100000", "10000", "10000"};
    String[] behind = {"", " 0", " 0", "", " 0", " 0", "", "", "", "", ")"};
    for (int i = 0; i < ahead.length; i++) {
      fault(ahead[i] + beyond[i] + behind[i] + ";", 2, ahead[i].length());
      fault(ahead[i] + "0" + beyond[i] + behind[i] + ";", 2, ahead[i].length());
      fault(ahead[i] + beyond[i] + " and nothing right behind it", 2, ahead[i].length());
    }
  }

  // ---- Terms 2 ----

  private static void aPile() {
    of("Terms 2, promises 6, 7", "A PILE is a row of PLATES from the top down, HIGH: how many.");
    String[] rows = {"", "7", "3 9'", "9 1' 5 2' 4"};
    PlatePiles x = piles(rows);
    for (int pile = 0; pile < rows.length; pile++) {
      List<String> plates = plates(rows[pile]);
      due("how many, pile " + pile, x.pile(pile, 0), plates.size());
      for (int place = 0; place < plates.size(); place++) {
        due("pile " + pile + ", place " + place, x.plate(pile, place, 1), size(plates.get(place)));
        due("its face", x.plate(pile, place, 2), plates.get(place).endsWith("'") ? 1 : 0);
      }
    }
  }

  private static void aGap() {
    of("Terms 2, promise 6", "A GAP: a PLATE that doesn't lie right next to the one of those in the PILE that is next greater (above it or below);");
    for (int high = 0; high <= 5; high++) {
      for (String row : orders(high)) {
        int due = 0;
        List<String> plates = plates(row);
        for (int size = 1; size < high; size++) {
          due += Math.abs(plates.indexOf("" + size) - plates.indexOf("" + (size + 1))) == 1 ? 0 : 1;
        }
        due += high > 0 && !plates.get(high - 1).equals("" + high) ? 1 : 0;
        due("gaps of " + row, piles(row).pile(0, 3), due);
        // The same order with sizes far from one another: "next" is among those in the pile.
        due("gaps of " + row + " by nineteens", piles(row.replaceAll("(\\d)", "$19")).pile(0, 3), due);
      }
    }
  }

  private static void aMinute() {
    of("Terms 2, promise 13", "A MINUTE: its TURNS, by their numbers:");
    String text = "maid m 1;maid n 2;" + pile("p", "1 2 3 4") + "turn m p 3 1;turn n p 2 0;turn m p 4 0;turn n p 1 1;chip 100;";
    PlatePiles x = Check.of(text);
    x.go(1);
    row("by 2, then by 4", x, 0, "4' 3' 1 2");
    x.go(1);
    row("by 3, then by 1", x, 0, "1 3 4 2");

    of("Terms 2, promise 13", "else the PILE is TURNED,");
    due("each is told", x.pile(0, 4), 4);
    due("m's", x.maid(0, 1), 7);
    due("n's", x.maid(1, 1), 3);
    due("chipped: 2, then 4, then 1, and 1 again", x.count(9), 3);
    due("not 3", x.plate(0, 1, 3), 0);

    of("Terms 2, promise 13", "and if a number modulo 100 (no number, if E is 0 or 100) is below E of crack");
    for (int seed : new int[] {0, 1, 7, 4711, 99999}) {
      long first = number(seed, 1) % 100;
      for (long e = Math.max(1, first - 1); e <= Math.min(99, first + 2); e++) {
        PlatePiles y = Check.of("maid m 1;pile p;plate p 1 0;turn m p 1 0;law crack " + e + ";seed " + seed + ";");
        y.go(1);
        due("the number " + first + " and E " + e, y.count(9), first < e ? 1 : 0);
      }
    }
  }

  private static void whatNamesMean() {
    of("Terms 2, promises 9, 13", "depth: DEPTH; high: how HIGH the PILE is; skill: SKILL of the MAID; tired: how TIRED that one is; "
        + "gaps: how many GAPS the PILE has; minute: the MINUTE;");
    String head = "maid m 3;maid n 8;" + pile("p", "2 3 1") + pile("q", "1 2") + pile("r", "") + "turn m p 2 0;turn n q 1 0;turn n p 3 1;";
    String[] names = {"depth", "high", "skill", "tired", "gaps", "minute"};
    for (int k = 0; k < names.length; k++) {
      for (int what = 0; what < 3; what++) {
        PlatePiles x = Check.of(head + "law " + (what == 0 ? "effort " : what == 1 ? "crack " : "heed 1+") + names[k] + ";");
        for (int minute = 0; minute < 4; minute++) {
          for (int depth = 1; depth <= 5; depth++) {
            for (int maid = 0; maid < 2; maid++) {
              for (int pile = 0; pile < 3; pile++) {
                int[] is = {depth, x.pile(pile, 0), x.maid(maid, 0), x.maid(maid, 1), x.pile(pile, 3), minute};
                due(names[k] + " of law " + what, x.law(what, maid, pile, depth), what == 2 ? is[k] + 1 : is[k]);
              }
            }
          }
          x.go(1);
        }
      }
    }
    PlatePiles z = Check.of(head + "law effort depth*100+gaps*10+minute;");
    z.go(3);
    // p: 2 3 1 has two gaps, 3 2 1 has one.
    due("m", z.maid(0, 1), 220);
    due("n", z.maid(1, 1), 100 + 311);
  }

  // ---- Terms 3 ----

  private static void apart() {
    of("Terms 3, promise 19", "APART of two PILES as HIGH: how few times the one must be TURNED so that its SIZES, by which is greater, "
        + "lie as the other one's, and (1) FACES are as there, place by place.");
    for (String one : faced(3)) {
      for (String other : faced(3)) {
        if ((one.hashCode() + 31 * other.hashCode()) % 4 == 0) {
          for (int which = 0; which < 2; which++) {
            // Sizes of the other one are twice as great: it goes by which is greater.
            PlatePiles x = piles(one, other.replace("3", "6").replace("2", "4"));
            due(one + " and " + other + ", which " + which, x.apart(0, 1, which), howFar(one, other, which));
            due("and back", x.apart(1, 0, which), howFar(one, other, which));
          }
        }
      }
    }
    for (String row : faced(2)) {
      PlatePiles x = piles(row, "1 2");
      due("from " + row + " to what is proper", x.apart(0, 1, 1), x.fewest(0, 1));
      due("from " + row + " to what is right", x.apart(0, 1, 0), x.fewest(0, 0));
    }
  }

  private static void furthest() {
    of("Terms 3, promises 20, 21", "FURTHEST for so many PLATES: the most that FEWEST of any PILE of so many is; HOW MANY PILES "
        + "(orders, and FACES of 1) have just a FEWEST.");
    for (int plates = 0; plates <= 5; plates++) {
      for (int which = 0; which <= (plates < 5 ? 1 : 0); which++) {
        int[] many = new int[21];
        int most = 0;
        for (String row : which == 1 ? faced(plates) : orders(plates)) {
          int fewest = piles(row).fewest(0, which);
          many[fewest]++;
          most = Math.max(most, fewest);
        }
        PlatePiles x = new PlatePiles();
        due("furthest for " + plates + ", which " + which, x.furthest(plates, which), most);
        for (int fewest = 0; fewest <= 20; fewest++) {
          due("how many of " + plates + ", which " + which + ", have " + fewest, x.howMany(plates, which, fewest), many[fewest]);
        }
      }
    }
  }

  private static void could() {
    of("Terms 3, promise 22", "COULD: how many PILES, FACES as well (1) or orders alone (0), can come of one by being TURNED just so many times "
        + "(each once, by however many rows).");
    for (String row : new String[] {"", "4", "4'", "1 2", "2' 1", "3 1' 2", "2 4' 1 3", "5 1' 4 2 3'"}) {
      PlatePiles x = piles(row);
      for (int which = 0; which < 2; which++) {
        Set<String> come = new HashSet<>(Set.of(which == 1 ? row : row.replace("'", "")));
        for (int times = 0; times <= 9; times++) {
          due("of '" + row + "', which " + which + ", by " + times, x.could(0, which, times), come.size());
          Set<String> next = new HashSet<>();
          for (String one : come) {
            for (int depth = 1; depth <= plates(one).size(); depth++) {
              next.add(turned(one, depth, which));
            }
          }
          come = next;
        }
      }
    }
  }

  private static void greedy() {
    of("Terms 3, promise 23", "GREEDY of a PILE: how many times it is TURNED by one who does this till it is RIGHT: of PLATES that don't lie RIGHT "
        + "from the lowest of all upwards (each the greatest of those above it and itself) the greatest: TURNED by its place");
    for (int high = 0; high <= 5; high++) {
      for (String order : orders(high)) {
        due("greedy of " + order, piles(order).greedy(0), greedy(order));
        due("faces don't matter", piles(order.replace("1", "1'").replace("4", "4'")).greedy(0), greedy(order));
      }
    }
  }

  private static int greedy(String order) {
    String row = order;
    int turns = 0;
    for (int lowest = plates(order).size(); lowest > 0; lowest--) {
      List<String> above = plates(row).subList(0, lowest);
      int place = 1 + above.indexOf(above.stream().max(String::compareTo).get());
      if (place < lowest) {
        turns += place > 1 ? 2 : 1;
        row = turned(turned(row, place, 0), lowest, 0);
      }
    }
    return turns;
  }

  /** Of each pile of so many, and the depth just ahead (0: none), that who is to turn can bring to an end: 1 won, -1 lost. */
  private static Map<String, Integer> ends(int high, int which) {
    List<String> rows = which == 1 ? faced(high) : orders(high);
    Map<String, Integer> ends = new HashMap<>();
    for (boolean more = true; more;) {
      Map<String, Integer> next = new HashMap<>(ends);
      for (String row : rows) {
        for (int last = 0; last <= high && !row.equals(rows.get(0)); last++) {
          int best = -1;
          for (int depth = 2 - which; depth <= high; depth++) {
            best = depth == last ? best : Math.max(best, comesTo(ends, row, depth, which, rows.get(0)));
          }
          next.put(row + " by " + last, best);
        }
      }
      more = !next.equals(ends);
      ends = next;
    }
    return ends;
  }

  private static int comesTo(Map<String, Integer> ends, String row, int depth, int which, String right) {
    String next = turned(row, depth, which);
    return next.equals(right) ? 1 : -ends.getOrDefault(next + " by " + depth, 0);
  }

  private static void game() {
    of("Terms 3, promise 24", "GAME on a PILE: two by turns TURN it,");
    for (int high = 1; high <= 5; high++) {
      for (int which = 0; which <= (high < 4 ? 1 : 0); which++) {
        List<String> rows = which == 1 ? faced(high) : orders(high);
        Map<String, Integer> ends = ends(high, which);
        for (String row : rows) {
          boolean so = row.equals(rows.get(0));
          int end = so ? 0 : ends.get(row + " by 0");
          int first = 2 - which;
          while (!so && comesTo(ends, row, first, which, rows.get(0)) != end) {
            first++;
          }
          PlatePiles x = piles(row);
          due("who wins, " + row + ", which " + which, x.game(0, which, 0), end == 1 ? 0 : end == -1 ? 1 : 2);
          due("by which depth, " + row + ", which " + which, x.game(0, which, 1), so ? -2 : first);
        }
      }
    }

    of("Terms 3, promise 24", "who makes it RIGHT (0) or PROPER (1) first, wins; who can't TURN it, loses;");
    // Nobody ever stands before a pile that can't be turned: of a pile of one (0) or an empty one it is so already, and
    // of two orders, or of one with its face, who begins has won by the only depth.
    for (int depth = 1; depth <= 5; depth++) {
      PlatePiles one = piles("1 2 3 4 5");
      one.turn(0, depth);
      due("right again by " + depth, one.game(0, 0, 0), depth == 1 ? 2 : 0);
      due("by that depth", one.game(0, 0, 1), depth == 1 ? -2 : depth);
      due("proper again by " + depth, one.game(0, 1, 0), 0);
    }
    due("one, face down", piles("1'").game(0, 1, 0), 0);
    due("two, wrong", piles("2 1").game(0, 0, 0), 0);
    due("one, whatever face, is right", piles("1'").game(0, 0, 0), 2);
  }

  private static void gameChoice() {
    of("Terms 3, promise 24", "Each would rather win than that nobody does, rather that than that the other one does.");
    Map<String, Integer> ends = ends(4, 0);
    int winRather = 0;
    int nobodyRather = 0;
    for (String row : orders(4).subList(1, 24)) {
      PlatePiles x = piles(row);
      Set<Integer> kinds = new HashSet<>();
      for (int depth = 2; depth <= 4; depth++) {
        kinds.add(comesTo(ends, row, depth, 0, "1 2 3 4"));
      }
      if (kinds.contains(1)) {
        winRather += kinds.size() > 1 ? 1 : 0;
        due("wins, " + row, x.game(0, 0, 0), 0);
      } else if (kinds.contains(0)) {
        nobodyRather += kinds.contains(-1) ? 1 : 0;
        due("puts it off, " + row, x.game(0, 0, 0), 2);
      }
    }
    due("there are choices of the first kind", winRather > 0, true);
    due("there are choices of the second kind", nobodyRather > 0, true);

    of("Promise 24", "1: the DEPTH that who begins turns first,");
    due("3 of 3 2 1 4", piles("3 2 1 4").game(0, 0, 1), 3);
    due("4 of 4 3 2 1", piles("4 3 2 1").game(0, 0, 1), 4);
    due("2 of 2 1 3 4", piles("2 1 3 4").game(0, 0, 1), 2);
  }

  private static void match() {
    of("Terms 3, promise 25", "MATCH: for each MAID a PILE that isn't PROPER now, or none,");
    PlatePiles x = Check.of("maid a 9;maid b 9;" + pile("p", "1 2") + pile("q", "2 1") + pile("r", "1'"));
    due("a", x.match(0), 1);
    due("b", x.match(1), 2);
    due("both", x.match(4), 2);
    due("3 and 1", x.match(5), 4);
    x.turn(2, 1);
    x.turn(0, 1);
    due("a, r is proper now, p isn't", x.match(0), 0);
    due("b", x.match(1), 1);
    due("1 and 3", x.match(5), 4);
  }

  private static void holds() {
    of("Terms 3, promise 26", "HOLDS for n: how likely n TURNS chip nothing by chip told,");
    for (int chip = 0; chip <= 100; chip++) {
      PlatePiles x = Check.of("chip " + chip + ";");
      for (int n = 0; n <= 6; n++) {
        long above = 1;
        long below = 1;
        for (int i = 0; i < n; i++) {
          above *= 100 - chip;
          below *= 100;
        }
        long a = x.holds(n, 0);
        long b = x.holds(n, 1);
        due("by " + chip + ", " + n + " turns: " + a + " of " + b, b > 0 && above % Math.max(a, 1) == 0 && below % b == 0
            && (a == 0 ? above == 0 && b == 1 : above / a == below / b), true);
        due("in least terms", gcd(a, b), 1);
      }
    }
  }

  private static long gcd(long a, long b) {
    return b == 0 ? a : gcd(b, a % b);
  }

  private static void strike() {
    of("Terms 3, promises 27, 28", "A STRIKE of one.");
    PlatePiles x = Check.of("maid m 1;" + pile("p", "1 2 3") + "turn m p 1 0;");
    due("seen", x.see(1, 0, 2, true), 0);
    due("so by 2", x.deep(0), 2);
    due("seen, too", x.see(1, 0, 3, false), 1);
    due("the first one", x.strike(0), 2);
    due("not by 3", x.deep(0), 1 + 2 + 8 + 16);
    due("the second one", x.strike(1), 3);
    due("by any", x.deep(0), 31);
    due("all are numbered", x.count(13), 4);
  }

  private static void ask() {
    of("Terms 3, promise 31", "ASK of a TURN for n MINUTES: the place 0 .. 4 of its PILE (0: the top) of which, if one asks how big the PLATE there is "
        + "behind n MINUTES as above (that there is none is an answer, too), as few of DEEP as may be are left at worst, the first of several.");
    String[] rows = {"1 2 3", "3' 1 2", "1 2 3 4", "5 1' 4 2 3", "1", ""};
    for (String row : rows) {
      for (int then = 0; then <= 5; then++) {
        PlatePiles x = Check.of("maid m 1;pile o;" + pile("p", row) + "turn m p 2 1;" + (then > 0 ? "turn m p " + then + " 2;" : ""));
        for (int n = 1; n <= 4; n++) {
          int best = 0;
          int fewest = 6;
          for (int place = 0; place <= 4; place++) {
            Map<String, Integer> left = new HashMap<>();
            for (int depth = 1; depth <= 5; depth++) {
              List<String> lies = plates(told(told(row, n > 1 ? depth : 0), n > 2 ? then : 0));
              left.merge(place < lies.size() ? lies.get(place).replace("'", "") : "none", 1, Integer::sum);
            }
            int worst = left.values().stream().max(Integer::compare).get();
            if (worst < fewest) {
              fewest = worst;
              best = place;
            }
          }
          due("place of '" + row + "', then " + then + ", for " + n, x.ask(0, n, 0), best);
          due("how many are left", x.ask(0, n, 1), fewest);
        }
      }
    }
  }

  /** What is deeper than the row, or 0, does nothing. */
  private static String told(String row, int depth) {
    return depth == 0 || depth > plates(row).size() ? row : turned(row, depth, 1);
  }

  // ---- Promise 9 ----

  private static void laws() {
    PlatePiles x = Check.of("maid m 1;" + pile("p", "3 1 2") + "law effort 1000+size;law crack 2000+size;law heed 3000+size;");
    long[][] due = {{1003, 1001, 1002, 1000, 1000}, {2003, 2003, 2003, 2003, 2003}, {3003, 3001, 3002, 3000, 3000}};
    of("Promise 9", "(what 0 effort, 1 crack, by the PLATE on top and all as it is now, size 0 if it is empty, 2 heed).");
    for (int what = 0; what < 3; what++) {
      for (int depth = 1; depth <= 5; depth++) {
        due("law " + what + " by " + depth, x.law(what, 0, 0, depth), due[what][depth - 1]);
      }
    }
  }

  // ---- rows ----

  private static List<String> plates(String row) {
    return row.isEmpty() ? List.of() : Arrays.asList(row.split(" "));
  }

  private static int size(String plate) {
    return Integer.parseInt(plate.replace("'", ""));
  }

  private static String turned(String row, int depth, int which) {
    List<String> made = new ArrayList<>(plates(row));
    for (int place = 0; place < depth; place++) {
      String plate = plates(row).get(depth - 1 - place);
      made.set(place, which == 0 ? plate : plate.endsWith("'") ? plate.replace("'", "") : plate + "'");
    }
    return String.join(" ", made);
  }

  /** By how few turns the one row becomes the other. */
  private static int howFar(String one, String other, int which) {
    String due = which == 1 ? other : other.replace("'", "");
    Set<String> come = new HashSet<>(Set.of(which == 1 ? one : one.replace("'", "")));
    int turns = 0;
    while (!come.contains(due)) {
      Set<String> next = new HashSet<>();
      for (String row : come) {
        for (int depth = 1; depth <= plates(row).size(); depth++) {
          next.add(turned(row, depth, which));
        }
      }
      come = next;
      turns++;
    }
    return turns;
  }

  /** All orders of so many, the right one first. */
  private static List<String> orders(int high) {
    return rows(high, false);
  }

  /** All orders of so many with all their faces, the proper one first. */
  private static List<String> faced(int high) {
    return rows(high, true);
  }

  private static List<String> rows(int high, boolean faces) {
    List<String> made = new ArrayList<>();
    addRows(high, faces, new ArrayList<>(), made);
    return made;
  }

  private static void addRows(int high, boolean faces, List<String> begun, List<String> made) {
    if (begun.size() == high) {
      made.add(String.join(" ", begun));
      return;
    }
    for (int size = 1; size <= high; size++) {
      for (int face = 0; face <= (faces ? 1 : 0); face++) {
        if (!begun.contains("" + size) && !begun.contains(size + "'")) {
          begun.add(size + (face == 1 ? "'" : ""));
          addRows(high, faces, begun, made);
          begun.remove(begun.size() - 1);
        }
      }
    }
  }
}
