import java.util.ArrayList;
import java.util.List;
import java.util.Random;

/** Many runs of calls, drawn from a fixed seed, each answered by the class and by the model. An argument: how many runs. */
public final class ModelTest {
  private static final String[] WORDS = {"maid", "pile", "plate", "turn", "chip", "seed", "law", "effort", "crack", "heed",
      "or", "and", "not", "size", "depth", "high", "skill", "tired", "gaps", "minute", "a", "b", "zz", "sixsix", "sevenxx",
      "0", "1", "5", "7", "99", "100", "9999", "10000", "00012", ";", "(", ")", "<", "<=", "=", "<>", ">=", ">", "+", "-", "*",
      "/", "< =", "> <", "=<", "!", "A", "\t", "\n", "\u00e9", ";;"};
  private static final String[] MAIDS = {"m", "n", "ann", "berta"};
  private static final String[] PILES = {"p", "q", "m", "tower"};

  private final Random random;
  private final Check check = new Check("ModelTest");

  private ModelTest(long seed) {
    random = new Random(seed);
  }

  public static void main(String[] args) {
    ModelTest test = new ModelTest(20261118L);
    int runs = args.length > 0 ? Integer.parseInt(args[0]) : 400;
    for (int run = 0; run < runs && test.check.wrong() == 0; run++) {
      test.texts(run);
      test.run(run);
    }
    test.check.end();
  }

  private int below(int n) {
    return random.nextInt(n);
  }

  private int near(int least, int most) {
    return least - 1 + below(most - least + 3);
  }

  private String pick(String... ones) {
    return ones[below(ones.length)];
  }

  private String blank() {
    return below(8) == 0 ? pick("\n", "  ", " \n ") : " ";
  }

  // ---- texts ----

  private String formula(int depth) {
    int kind = depth <= 0 ? below(3) : below(14);
    switch (kind) {
      case 0: return "" + (below(4) == 0 ? below(10000) : below(12));
      case 1:
      case 2: return pick("size", "depth", "high", "skill", "tired", "gaps", "minute");
      case 3: return "(" + formula(depth - 1) + ")";
      case 4: return "(not " + formula(depth - 1) + ")";
      case 5: return "(" + formula(depth - 1) + pick("<", "<=", "=", "<>", ">=", ">") + formula(depth - 1) + ")";
      case 6: return formula(depth - 1) + " " + pick("and", "or") + " " + formula(depth - 1);
      case 7: return formula(depth - 1) + pick("<", "<=", "=", "<>", ">=", ">") + formula(0);
      case 8: return "not " + formula(depth - 1);
      default: return formula(depth - 1) + blank() + pick("+", "-", "*", "/") + blank() + formula(depth - 1);
    }
  }

  private String tame(String law) {
    if (law.equals("heed")) {
      return pick("depth > 1", "gaps <> 0", "tired < 9", "minute/2*2 = minute or skill > 4", "not tired > 20 and size > 3", "1", "0",
          "1/(depth-2)", "tired - depth");
    }
    if (law.equals("crack")) {
      return pick("size", "high*10+gaps", "50", "49", "100", "tired*3-minute", "1/0", "100-minute*5", "0-5", "size*2", "skill*9", "200");
    }
    return pick("size", "depth*depth", "tired/2+1", "0-1", "9999", "1/gaps", "skill+minute", "size*(high-gaps)", "999", "500");
  }

  private String text() {
    List<String> lines = new ArrayList<>();
    int maids = below(6) == 0 ? below(3) : 1 + below(4);
    int piles = below(6) == 0 ? below(3) : 1 + below(4);
    for (int i = 0; i < maids; i++) {
      lines.add("maid" + blank() + MAIDS[i] + blank() + (below(3) == 0 ? 9 : below(10)));
    }
    for (int i = 0; i < piles; i++) {
      lines.add("pile " + PILES[i]);
      List<Integer> sizes = new ArrayList<>();
      int most = below(3) == 0 ? 99 : 7;
      for (int k = below(3) == 0 ? below(6) : 3 + below(3); k > 0; k--) {
        int size = 1 + below(most);
        if (!sizes.contains(size)) {
          sizes.add(size);
          lines.add("plate " + PILES[i] + " " + size + blank() + (below(3) == 0 ? 1 : 0));
        }
      }
    }
    if (maids > 0 && piles > 0) {
      int span = below(5) == 0 ? 100 : 1 + below(12);
      for (int k = below(15); k > 0; k--) {
        lines.add("turn " + MAIDS[below(maids)] + " " + PILES[below(piles)] + " " + (1 + below(5)) + " " + below(span));
      }
    }
    for (String law : new String[] {"effort", "crack", "heed"}) {
      if (below(2) == 0) {
        lines.add(below(lines.size() + 1), "law " + law + " " + (below(3) == 0 ? formula(3) : tame(law)));
      }
    }
    if (below(2) == 0) {
      lines.add("chip " + pick("0", "100", "" + below(101)));
    }
    if (below(2) == 0) {
      lines.add("seed " + below(100000));
    }
    StringBuilder made = new StringBuilder();
    for (String line : lines) {
      if (made.length() + line.length() < 690) {
        made.append(line).append(below(10) == 0 ? " ;\n" : ";");
      }
    }
    return made.toString();
  }

  private String spoiled(String text) {
    StringBuilder made = new StringBuilder(text);
    for (int k = 1 + below(2); k > 0 && made.length() > 0; k--) {
      int at = below(made.length());
      switch (below(5)) {
        case 0: made.deleteCharAt(at); break;
        case 1: made.insert(at, pick(WORDS)); break;
        case 2: made.insert(at, " " + pick(WORDS) + " "); break;
        case 3: made.setCharAt(at, (char) below(256)); break;
        default: made.setLength(at); break;
      }
    }
    if (made.length() > 700) {
      made.setLength(700);
    }
    return made.toString();
  }

  private String babble() {
    StringBuilder made = new StringBuilder(pick("law heed ", "law effort ", "pile p;", "maid m 1;pile p;turn ", ""));
    for (int k = below(90); k > 0 && made.length() < 680; k--) {
      made.append(pick("", " ")).append(below(4) == 0 ? pick(WORDS) : pick("(", "not ", "1", " and ", "+", " size ", ")", "<"));
    }
    return made.toString();
  }

  private void texts(int run) {
    PlatePiles x = new PlatePiles();
    Model m = new Model();
    for (int k = 0; k < 20; k++) {
      String text;
      switch (below(4)) {
        case 0: text = babble(); break;
        case 1: text = "law crack " + formula(4) + ";law heed " + formula(5) + ";"; break;
        default: text = spoiled(text()); break;
      }
      tell(run, x, m, text.length() > 700 ? text.substring(0, 700) : text);
      for (int what = 0; what <= 4; what++) {
        check.due(run + " count of " + text, x.count(what), m.count(what));
      }
    }
  }

  private void tell(int run, PlatePiles x, Model m, String text) {
    byte[] bytes = Check.bytes(text);
    int[] ints = Check.ints(bytes);
    for (int i = 0; i < ints.length; i += 5) {
      check.due(run + " feed", x.feed(ints[i], ints[i + 1], ints[i + 2], ints[i + 3], ints[i + 4]),
          m.feed(ints[i], ints[i + 1], ints[i + 2], ints[i + 3], ints[i + 4]));
    }
    check.due(run + " text " + text, x.text(bytes.length), m.text(bytes.length));
    check.due(run + " fault of " + text, x.fault(0), m.fault(0));
    check.due(run + " place of " + text, x.fault(1), m.fault(1));
  }

  // ---- runs ----

  private void run(int run) {
    PlatePiles x = new PlatePiles();
    Model m = new Model();
    String text = text();
    tell(run, x, m, text);
    for (int call = 0; call < 300 && check.wrong() == 0; call++) {
      if (below(150) == 0) {
        text = text();
        tell(run, x, m, text);
      }
      String where = "run " + run + " call " + call + " of " + text + ": ";
      if (below(3) == 0) {
        change(where, x, m);
      } else if (below(2) == 0) {
        look(where, x, m);
      } else {
        reckon(where, x, m);
      }
    }
  }

  private void change(String where, PlatePiles x, Model m) {
    int a = near(0, 3);
    int b = near(0, 4);
    int n = below(5) == 0 ? near(0, 200) : below(4);
    int minutes = below(3) == 0 ? near(1, 60) : 1 + below(12);
    boolean is = below(2) == 0;
    switch (below(13)) {
      case 0:
      case 1:
      case 2: check.due(where + "turn " + a + " " + b, x.turn(a, b + 1), m.turn(a, b + 1)); break;
      case 3:
      case 4: check.due(where + "move " + a + " " + b, x.move(a, b), m.move(a, b)); break;
      case 5: check.due(where + "crack " + a + " " + b, x.crack(a, b), m.crack(a, b)); break;
      case 6: check.due(where + "go " + n, x.go(n), m.go(n)); break;
      case 7: check.due(where + "undo", x.undo(), m.undo()); break;
      case 8: check.due(where + "keep", x.keep(), m.keep()); break;
      case 9: check.due(where + "back", x.back(), m.back()); break;
      case 10:
        int size = below(2) == 0 ? near(1, 99) : 1 + below(7);
        check.due(where + "see " + minutes + " " + a + " " + size + " " + is, x.see(minutes, a, size, is), m.see(minutes, a, size, is));
        break;
      case 11:
        int k = near(0, Math.max(0, m.count(13)));
        check.due(where + "strike " + k, x.strike(k), m.strike(k));
        break;
      default:
        int by = below(2) == 0 ? -1 : near(-1, m.count(13));
        check.due(where + "known " + by, x.known(by), m.known(by));
        break;
    }
  }

  private void look(String where, PlatePiles x, Model m) {
    int a = near(0, 3);
    int b = near(0, 4);
    int w = near(0, 4);
    int n = below(3) == 0 ? near(0, 200) : below(15);
    int name = Check.letters(pick(below(2) == 0 ? MAIDS : PILES));
    switch (below(10)) {
      case 0:
        check.due(where + "pile " + a + " " + w, pileOf(x, a, w), m.pile(a, w));
        break;
      case 1: check.due(where + "plate " + a + " " + b + " " + w, x.plate(a, b, w), m.plate(a, b, w)); break;
      case 2: check.due(where + "maid " + a + " " + w, x.maid(a, w % 3), m.maid(a, w % 3)); break;
      case 3:
        int depth = near(1, 5);
        check.due(where + "law " + w % 4 + " " + a + " " + b + " " + depth, x.law(w % 4, a, b, depth), m.law(w % 4, a, b, depth));
        break;
      case 4: check.due(where + "ahead " + n + " " + w + " " + a, x.ahead(n, w + 1, a), m.ahead(n, w + 1, a)); break;
      case 5: check.due(where + "rightWhen " + a, x.rightWhen(a), m.rightWhen(a)); break;
      case 6: check.due(where + "named", x.named(w % 3, name), m.named(w % 3, name)); break;
      case 7: check.due(where + "tried " + w + " " + a + " " + n, x.tried(w, w == 2 ? a : a / 3, n), m.tried(w, w == 2 ? a : a / 3, n)); break;
      default:
        int what = near(0, 15);
        check.due(where + "count " + what, x.count(what), m.count(what));
        break;
    }
  }

  private static int pileOf(PlatePiles x, int pile, int what) {
    int thrown = Check.thrownByPile(x, pile, what);
    return thrown == 0 ? x.pile(pile, what) : thrown * 1000000;
  }

  private void reckon(String where, PlatePiles x, Model m) {
    int a = near(0, 3);
    int b = near(0, 3);
    int w = below(12) == 0 ? near(0, 1) : below(2);
    int v = below(12) == 0 ? near(0, 1) : below(2);
    int turn = near(0, Math.max(0, m.count(3) - 1));
    int n = below(3) == 0 ? near(1, 60) : 1 + below(14);
    switch (below(14)) {
      case 0: check.due(where + "fewest " + a + " " + w, x.fewest(a, w), m.fewest(a, w)); break;
      case 1: check.due(where + "first " + a + " " + w, x.first(a, w), m.first(a, w)); break;
      case 2: check.due(where + "ways " + a + " " + w, x.ways(a, w), m.ways(a, w)); break;
      case 3: check.due(where + "apart " + a + " " + b + " " + w, x.apart(a, b, w), m.apart(a, b, w)); break;
      case 4:
        int plates = near(0, 5);
        check.due(where + "furthest " + plates + " " + w, x.furthest(plates, w), m.furthest(plates, w));
        break;
      case 5:
        int high = near(0, 5);
        int far = near(0, 20);
        check.due(where + "howMany " + high + " " + w + " " + far, x.howMany(high, w, far), m.howMany(high, w, far));
        break;
      case 6:
        int times = near(0, 9);
        check.due(where + "could " + a + " " + w + " " + times, x.could(a, w, times), m.could(a, w, times));
        break;
      case 7: check.due(where + "greedy " + a, x.greedy(a), m.greedy(a)); break;
      case 8: check.due(where + "game " + a + " " + w + " " + v, x.game(a, w, v), m.game(a, w, v)); break;
      case 9:
        int what = near(0, 5);
        check.due(where + "match " + what, x.match(what), m.match(what));
        break;
      case 10:
        int k = near(0, 6);
        check.due(where + "holds " + k + " " + v, x.holds(k, v), m.holds(k, v));
        break;
      case 11: check.due(where + "deep " + turn, x.deep(turn), m.deep(turn)); break;
      case 12: check.due(where + "ask " + turn + " " + n + " " + v, x.ask(turn, n, v), m.ask(turn, n, v)); break;
      default:
        int seed = below(8) == 0 ? -1 : below(3) == 0 ? Integer.MAX_VALUE : random.nextInt() & Integer.MAX_VALUE;
        int chipped = below(8) == 0 ? near(0, 20) : below(5);
        int m99 = below(4) == 0 ? near(1, 99) : 1 + below(12);
        check.due(where + "chance " + seed + " " + m99 + " " + chipped, x.chance(seed, m99, chipped), m.chance(seed, m99, chipped));
        break;
    }
  }
}
