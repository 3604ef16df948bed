import java.math.BigInteger;
import java.util.ArrayDeque;
import java.util.ArrayList;
import java.util.Arrays;
import java.util.HashMap;
import java.util.HashSet;
import java.util.List;
import java.util.Map;
import java.util.Set;

/** The document once more, told as plainly as may be and with nothing shared with the class: what ModelTest compares with. */
final class Model {
  static final long ERROR = Long.MIN_VALUE;
  static final Set<String> LANGUAGE = new HashSet<>(Arrays.asList(
      "maid", "pile", "plate", "turn", "chip", "seed", "law", "effort", "crack", "heed", "or", "and", "not",
      "size", "depth", "high", "skill", "tired", "gaps", "minute"));
  static final List<String> NAMES = Arrays.asList("size", "depth", "high", "skill", "tired", "gaps", "minute");
  static final List<String> LAWS = Arrays.asList("effort", "crack", "heed");

  record Plate(int number, int size, int face, boolean chipped) {
    Plate over() {
      return new Plate(number, size, 1 - face, chipped);
    }
    Plate chip() {
      return new Plate(number, size, face, true);
    }
  }

  record Turn(int maid, int pile, int depth, int minute) { }

  record Token(String text, int place) { }

  record Seen(int minutes, int pile, int size, boolean is, int struck) { }

  static final class Fault extends RuntimeException {
    final int what;
    final int place;
    Fault(int what, int place) {
      this.what = what;
      this.place = place;
    }
  }

  static final class Erring extends RuntimeException { }

  interface Node {
    long at(Map<String, Long> names);
  }

  static final class State {
    List<List<Plate>> piles = new ArrayList<>();
    List<Integer> turned = new ArrayList<>();
    List<Integer> tired = new ArrayList<>();
    int minute = 0;
    int idle = 0;
    long number = 0;

    State copy() {
      State made = new State();
      for (List<Plate> pile : piles) {
        made.piles.add(new ArrayList<>(pile));
      }
      made.turned = new ArrayList<>(turned);
      made.tired = new ArrayList<>(tired);
      made.minute = minute;
      made.idle = idle;
      made.number = number;
      return made;
    }

    int chipped() {
      int n = 0;
      for (List<Plate> pile : piles) {
        for (Plate plate : pile) {
          n += plate.chipped ? 1 : 0;
        }
      }
      return n;
    }
  }

  static final class Told {
    List<String> maids = new ArrayList<>();
    List<Integer> skills = new ArrayList<>();
    List<String> piles = new ArrayList<>();
    List<Turn> turns = new ArrayList<>();
    Map<String, Node> laws = new HashMap<>();
    State start = new State();
    int chip = -1;
    int seed = -1;
    int plates = 0;
    int knots = 0;
    int lines = 0;
    int chipped() {
      return Math.max(chip, 0);
    }
  }

  // ---- reading ----

  static final class Parser {
    final String text;
    final List<Token> tokens = new ArrayList<>();
    int at = 0;
    int open = 0;
    final Told told = new Told();

    Parser(String text) {
      this.text = text;
      int i = 0;
      while (i < text.length()) {
        char c = text.charAt(i);
        int j = i + 1;
        if (c == ' ' || c == '\n') {
          i++;
          continue;
        }
        if (c >= 'a' && c <= 'z') {
          while (j < text.length() && text.charAt(j) >= 'a' && text.charAt(j) <= 'z') {
            j++;
          }
        } else if (c >= '0' && c <= '9') {
          while (j < text.length() && text.charAt(j) >= '0' && text.charAt(j) <= '9') {
            j++;
          }
        } else if ((c == '<' || c == '>') && j < text.length()
            && (text.charAt(j) == '=' || c == '<' && text.charAt(j) == '>')) {
          j++;
        }
        tokens.add(new Token(text.substring(i, j), i));
        i = j;
      }
      tokens.add(new Token("", text.length()));
    }

    Token peek() {
      return tokens.get(at);
    }

    boolean is(String... ones) {
      return Arrays.asList(ones).contains(peek().text) && !peek().text.isEmpty();
    }

    Fault fault(int what) {
      return new Fault(what, peek().place);
    }

    boolean isName() {
      return peek().text.matches("[a-z]{1,6}") && !LANGUAGE.contains(peek().text);
    }

    boolean isNumber() {
      return peek().text.matches("[0-9]+");
    }

    int number(int least, int most) {
      if (!isNumber()) {
        throw fault(1);
      }
      BigInteger n = new BigInteger(peek().text);
      if (n.compareTo(BigInteger.valueOf(least)) < 0 || n.compareTo(BigInteger.valueOf(most)) > 0) {
        throw fault(2);
      }
      at++;
      return n.intValue();
    }

    String fresh(List<String> names) {
      if (!isName()) {
        throw fault(1);
      }
      if (names.contains(peek().text)) {
        throw fault(3);
      }
      return tokens.get(at++).text;
    }

    int old(List<String> names) {
      if (!isName()) {
        throw fault(1);
      }
      if (!names.contains(peek().text)) {
        throw fault(4);
      }
      return names.indexOf(tokens.get(at++).text);
    }

    Told read() {
      while (!peek().text.isEmpty()) {
        line();
        if (!is(";")) {
          throw fault(1);
        }
        at++;
        told.lines++;
      }
      told.start.number = Math.max(told.seed, 0);
      return told;
    }

    void line() {
      if (is("maid")) {
        if (told.maids.size() == 4) {
          throw fault(2);
        }
        at++;
        String name = fresh(told.maids);
        told.skills.add(number(0, 9));
        told.maids.add(name);
        told.start.tired.add(0);
      } else if (is("pile")) {
        if (told.piles.size() == 4) {
          throw fault(2);
        }
        at++;
        told.piles.add(fresh(told.piles));
        told.start.piles.add(new ArrayList<>());
        told.start.turned.add(0);
      } else if (is("plate")) {
        at++;
        int pile = old(told.piles);
        List<Plate> lying = told.start.piles.get(pile);
        if (lying.size() == 5) {
          at--;
          throw fault(2);
        }
        int size = number(1, 99);
        for (Plate plate : lying) {
          if (plate.size == size) {
            at--;
            throw fault(3);
          }
        }
        lying.add(new Plate(told.plates++, size, number(0, 1), false));
      } else if (is("turn")) {
        if (told.turns.size() == 14) {
          throw fault(2);
        }
        at++;
        int maid = old(told.maids);
        int pile = old(told.piles);
        int depth = number(1, 5);
        told.turns.add(new Turn(maid, pile, depth, number(0, 99)));
      } else if (is("chip")) {
        if (told.chip >= 0) {
          throw fault(3);
        }
        at++;
        told.chip = number(0, 100);
      } else if (is("seed")) {
        if (told.seed >= 0) {
          throw fault(3);
        }
        at++;
        told.seed = number(0, 99999);
      } else if (is("law")) {
        at++;
        if (!is("effort", "crack", "heed")) {
          throw fault(1);
        }
        if (told.laws.containsKey(peek().text)) {
          throw fault(3);
        }
        String law = tokens.get(at++).text;
        open = 0;
        told.laws.put(law, either());
      } else {
        throw fault(1);
      }
    }

    String knot() {
      if (told.knots == 64) {
        throw fault(2);
      }
      told.knots++;
      return tokens.get(at++).text;
    }

    Node either() {
      Node made = both();
      while (is("or")) {
        made = joined(knot(), made, both());
      }
      return made;
    }

    Node both() {
      Node made = denied();
      while (is("and")) {
        made = joined(knot(), made, denied());
      }
      return made;
    }

    Node denied() {
      if (!is("not")) {
        return compared();
      }
      knot();
      Node inner = denied();
      return names -> inner.at(names) == 0 ? 1 : 0;
    }

    Node compared() {
      Node made = sum();
      return is("<", "<=", "=", "<>", ">=", ">") ? joined(knot(), made, sum()) : made;
    }

    Node sum() {
      Node made = term();
      while (is("+", "-")) {
        made = joined(knot(), made, term());
      }
      return made;
    }

    Node term() {
      Node made = part();
      while (is("*", "/")) {
        made = joined(knot(), made, part());
      }
      return made;
    }

    Node part() {
      if (isNumber()) {
        if (new BigInteger(peek().text).compareTo(BigInteger.valueOf(9999)) > 0) {
          throw fault(2);
        }
        long n = Long.parseLong(new BigInteger(knot()).toString());
        return names -> n;
      }
      if (NAMES.contains(peek().text)) {
        String name = knot();
        return names -> names.get(name);
      }
      if (!is("(")) {
        throw fault(1);
      }
      if (open == 8) {
        throw fault(2);
      }
      at++;
      open++;
      Node made = either();
      if (!is(")")) {
        throw fault(1);
      }
      at++;
      open--;
      return made;
    }

    static Node joined(String sign, Node one, Node other) {
      return names -> {
        BigInteger a = BigInteger.valueOf(one.at(names));
        BigInteger b = BigInteger.valueOf(other.at(names));
        int c = a.compareTo(b);
        switch (sign) {
          case "or": return a.signum() != 0 || b.signum() != 0 ? 1 : 0;
          case "and": return a.signum() != 0 && b.signum() != 0 ? 1 : 0;
          case "<": return c < 0 ? 1 : 0;
          case "<=": return c <= 0 ? 1 : 0;
          case "=": return c == 0 ? 1 : 0;
          case "<>": return c != 0 ? 1 : 0;
          case ">=": return c >= 0 ? 1 : 0;
          case ">": return c > 0 ? 1 : 0;
          case "+": return bounded(a.add(b));
          case "-": return bounded(a.subtract(b));
          case "*": return bounded(a.multiply(b));
          default:
            if (b.signum() == 0) {
              throw new Erring();
            }
            return bounded(a.divide(b));
        }
      };
    }

    static long bounded(BigInteger n) {
      if (n.abs().compareTo(BigInteger.TEN.pow(12)) > 0) {
        throw new Erring();
      }
      return n.longValue();
    }
  }

  // ---- piles ----

  static boolean right(List<Plate> pile) {
    for (int i = 0; i + 1 < pile.size(); i++) {
      if (pile.get(i).size >= pile.get(i + 1).size) {
        return false;
      }
    }
    return true;
  }

  static boolean proper(List<Plate> pile) {
    return right(pile) && pile.stream().allMatch(p -> p.face == 0);
  }

  static int gaps(List<Plate> pile) {
    List<Integer> sizes = new ArrayList<>();
    for (Plate p : pile) {
      sizes.add(p.size);
    }
    List<Integer> sorted = new ArrayList<>(sizes);
    sorted.sort(null);
    int n = 0;
    for (int i = 0; i < sorted.size(); i++) {
      int here = sizes.indexOf(sorted.get(i));
      if (i + 1 == sorted.size()) {
        n += here == sizes.size() - 1 ? 0 : 1;
      } else {
        n += Math.abs(here - sizes.indexOf(sorted.get(i + 1))) == 1 ? 0 : 1;
      }
    }
    return n;
  }

  static List<Plate> turned(List<Plate> pile, int depth) {
    List<Plate> made = new ArrayList<>();
    for (int i = depth - 1; i >= 0; i--) {
      made.add(pile.get(i).over());
    }
    made.addAll(pile.subList(depth, pile.size()));
    return made;
  }

  /** A pile as signs: letters by rank, great if the face is down. */
  static String signs(List<Plate> pile, int which) {
    StringBuilder made = new StringBuilder();
    for (Plate p : pile) {
      int rank = 0;
      for (Plate q : pile) {
        rank += q.size < p.size ? 1 : 0;
      }
      made.append((char) ((which == 1 && p.face == 1 ? 'A' : 'a') + rank));
    }
    return made.toString();
  }

  static String turned(String pile, int depth, int which) {
    String top = new StringBuilder(pile.substring(0, depth)).reverse().toString();
    StringBuilder made = new StringBuilder();
    for (char c : top.toCharArray()) {
      made.append(which == 0 ? c : Character.isLowerCase(c) ? Character.toUpperCase(c) : Character.toLowerCase(c));
    }
    return made + pile.substring(depth);
  }

  static final Map<String, Map<String, Integer>> AWAY = new HashMap<>();

  /** How far all that can come of a pile are from it. */
  static Map<String, Integer> away(String from, int which) {
    String key = which + from;
    if (!AWAY.containsKey(key)) {
      Map<String, Integer> far = new HashMap<>();
      ArrayDeque<String> queue = new ArrayDeque<>();
      far.put(from, 0);
      queue.add(from);
      while (!queue.isEmpty()) {
        String pile = queue.poll();
        for (int d = 1; d <= pile.length(); d++) {
          String next = turned(pile, d, which);
          if (far.putIfAbsent(next, far.get(pile) + 1) == null) {
            queue.add(next);
          }
        }
      }
      if (AWAY.size() > 200) {
        AWAY.clear();
      }
      AWAY.put(key, far);
    }
    return AWAY.get(key);
  }

  static String goal(int high) {
    return "abcde".substring(0, high);
  }

  static int ways(String pile, int which) {
    Map<String, Integer> far = away(goal(pile.length()), which);
    if (far.get(pile) == 0) {
      return 1;
    }
    int n = 0;
    for (int d = 1; d <= pile.length(); d++) {
      String next = turned(pile, d, which);
      n += far.get(next) == far.get(pile) - 1 ? ways(next, which) : 0;
    }
    return n;
  }

  static final Map<String, Map<String, Integer>> GAMES = new HashMap<>();

  /** Of each pile and the depth just ahead (0: none): 1 who is to turn wins, -1 loses, 0 nobody wins. */
  static Map<String, Integer> games(int high, int which) {
    String key = high + " " + which;
    if (!GAMES.containsKey(key)) {
      Map<String, Integer> worth = new HashMap<>();
      List<String> piles = new ArrayList<>(away(goal(high), which).keySet());
      boolean changed = true;
      while (changed) {
        changed = false;
        for (String pile : piles) {
          for (int last = 0; last <= high; last++) {
            if (!pile.equals(goal(high)) && worth.getOrDefault(pile + last, 0) == 0) {
              int best = -1;
              for (int d = which == 0 ? 2 : 1; d <= high; d++) {
                if (d != last) {
                  best = Math.max(best, moveWorth(worth, pile, d, which));
                }
              }
              if (best != 0) {
                worth.put(pile + last, best);
                changed = true;
              }
            }
          }
        }
      }
      GAMES.put(key, worth);
    }
    return GAMES.get(key);
  }

  static int moveWorth(Map<String, Integer> worth, String pile, int d, int which) {
    String next = turned(pile, d, which);
    return next.equals(goal(pile.length())) ? 1 : -worth.getOrDefault(next + d, 0);
  }

  // ---- the face ----

  private final StringBuilder tape = new StringBuilder();
  private Told told = new Told();
  private State now = new State();
  private State image = null;
  private int fault = 0;
  private int place = -1;
  private final List<State> undo = new ArrayList<>();
  private final List<Seen> seen = new ArrayList<>();
  private int known = -1;

  int feed(int a, int b, int c, int d, int e) {
    if (tape.length() + 20 > 700) {
      return -1;
    }
    for (int n : new int[] {a, b, c, d, e}) {
      tape.append((char) (n >>> 24)).append((char) (n >>> 16 & 255)).append((char) (n >>> 8 & 255)).append((char) (n & 255));
    }
    return tape.length();
  }

  int text(int n) {
    if (n < 0 || n > tape.length()) {
      return -2;
    }
    String text = tape.substring(0, n);
    tape.setLength(0);
    try {
      told = new Parser(text).read();
    } catch (Fault f) {
      fault = f.what;
      place = f.place;
      return -1;
    }
    fault = 0;
    place = -1;
    now = told.start.copy();
    image = null;
    undo.clear();
    seen.clear();
    known = -1;
    return told.lines;
  }

  int tell(String text) {
    tape.setLength(0);
    tape.append(text);
    return text(text.length());
  }

  int fault(int what) {
    return what == 0 ? fault : what == 1 ? place : -1;
  }

  int named(int what, int letters) {
    List<String> names = what == 0 ? told.maids : what == 1 ? told.piles : new ArrayList<>();
    for (int i = 0; i < names.size(); i++) {
      if (Check.letters(names.get(i)) == letters) {
        return i;
      }
    }
    return -1;
  }

  boolean hasPile(int pile) {
    return pile >= 0 && pile < now.piles.size();
  }

  boolean hasMaid(int maid) {
    return maid >= 0 && maid < told.maids.size();
  }

  static boolean bit(int which) {
    return which == 0 || which == 1;
  }

  /** 1000000 and 2000000 stand for the two exceptions. */
  int pile(int pile, int what) {
    if (!hasPile(pile)) {
      return 1000000;
    }
    List<Plate> lying = now.piles.get(pile);
    switch (what) {
      case 0: return lying.size();
      case 1: return right(lying) ? 1 : 0;
      case 2: return proper(lying) ? 1 : 0;
      case 3: return gaps(lying);
      case 4: return now.turned.get(pile);
      default: return 2000000;
    }
  }

  int plate(int pile, int at, int what) {
    if (!hasPile(pile) || at < 0 || at > 4 || what < 0 || what > 3) {
      return -1;
    }
    if (at >= now.piles.get(pile).size()) {
      return -2;
    }
    Plate p = now.piles.get(pile).get(at);
    return what == 0 ? p.number : what == 1 ? p.size : what == 2 ? p.face : p.chipped ? 1 : 0;
  }

  int maid(int maid, int what) {
    return !hasMaid(maid) || !bit(what) ? -1 : what == 0 ? told.skills.get(maid) : now.tired.get(maid);
  }

  long worth(String law, State s, int maid, int pile, int depth) {
    if (!told.laws.containsKey(law)) {
      return ERROR;
    }
    List<Plate> lying = s.piles.get(pile);
    int at = law.equals("crack") ? 0 : depth - 1;
    Map<String, Long> names = new HashMap<>();
    names.put("size", at < 0 || at >= lying.size() ? 0L : lying.get(at).size);
    names.put("depth", (long) depth);
    names.put("high", (long) lying.size());
    names.put("skill", (long) told.skills.get(maid));
    names.put("tired", (long) s.tired.get(maid));
    names.put("gaps", (long) gaps(lying));
    names.put("minute", (long) s.minute);
    try {
      return told.laws.get(law).at(names);
    } catch (Erring e) {
      return ERROR;
    }
  }

  long law(int what, int maid, int pile, int depth) {
    if (what < 0 || what > 2 || !hasMaid(maid) || !hasPile(pile) || depth < 1 || depth > 5) {
      return ERROR;
    }
    return worth(LAWS.get(what), now, maid, pile, depth);
  }

  private void remember() {
    undo.add(now.copy());
    if (undo.size() > 20) {
      undo.remove(0);
    }
  }

  int turn(int pile, int depth) {
    if (!hasPile(pile) || depth < 1 || depth > now.piles.get(pile).size()) {
      return -1;
    }
    remember();
    now.piles.set(pile, turned(now.piles.get(pile), depth));
    now.turned.set(pile, now.turned.get(pile) + 1);
    return gaps(now.piles.get(pile));
  }

  int move(int from, int to) {
    if (!hasPile(from) || !hasPile(to) || from == to) {
      return -1;
    }
    List<Plate> a = now.piles.get(from);
    List<Plate> b = now.piles.get(to);
    if (a.isEmpty() || b.size() == 5 || b.stream().anyMatch(p -> p.size == a.get(0).size)) {
      return -2;
    }
    remember();
    b.add(0, a.remove(0));
    return b.size();
  }

  boolean crack(int pile, int at) {
    if (!hasPile(pile) || at < 0 || at >= now.piles.get(pile).size() || now.piles.get(pile).get(at).chipped) {
      return false;
    }
    remember();
    now.piles.get(pile).set(at, now.piles.get(pile).get(at).chip());
    return true;
  }

  /** One minute; what: -1, or what is tried; by: a turn by another depth. */
  void minute(State s, boolean drawn, int what, int idler, int by, int byDepth) {
    for (int t = 0; t < told.turns.size(); t++) {
      Turn turn = told.turns.get(t);
      for (int time = 0; time < (what == 3 ? 2 : 1); time++) {
        if (turn.minute == s.minute && !(what == 2 && turn.maid == idler)) {
          int high = s.piles.get(turn.pile).size();
          int depth = t == by ? byDepth : what == 1 ? turn.depth + 1 : what == 4 ? high : turn.depth;
          one(s, drawn, what == 0, turn, depth);
        }
      }
    }
    s.minute++;
  }

  private void one(State s, boolean drawn, boolean heedless, Turn turn, int depth) {
    long heed = worth("heed", s, turn.maid, turn.pile, depth);
    List<Plate> lying = s.piles.get(turn.pile);
    if (heed == 0 && !heedless || depth > lying.size() || depth == 0) {
      s.idle++;
      return;
    }
    long effort = worth("effort", s, turn.maid, turn.pile, depth);
    effort = effort == ERROR ? depth : Math.max(0, Math.min(999, effort));
    lying = turned(lying, depth);
    s.piles.set(turn.pile, lying);
    s.turned.set(turn.pile, s.turned.get(turn.pile) + 1);
    s.tired.set(turn.maid, (int) Math.min(99999, s.tired.get(turn.maid) + effort));
    long crack = worth("crack", s, turn.maid, turn.pile, depth);
    crack = crack == ERROR ? told.chipped() : Math.max(0, Math.min(100, crack));
    boolean chips = crack >= 50;
    if (drawn) {
      chips = crack == 100;
      if (crack > 0 && crack < 100) {
        s.number = BigInteger.valueOf(s.number).multiply(BigInteger.valueOf(1103515245)).add(BigInteger.valueOf(12345))
            .mod(BigInteger.TWO.pow(31)).longValue();
        chips = s.number / 65536 % 100 < crack;
      }
    }
    if (chips) {
      lying.set(0, lying.get(0).chip());
    }
  }

  int go(int n) {
    if (n < 0 || n > 200 || now.minute + n > 9000) {
      return -1;
    }
    for (int i = 0; i < n; i++) {
      minute(now, true, -1, -1, -1, 0);
      undo.clear();
    }
    return now.minute;
  }

  private State gone(State from, int n) {
    State s = from.copy();
    for (int i = 0; i < n; i++) {
      minute(s, false, -1, -1, -1, 0);
    }
    return s;
  }

  private static int gapsOfAll(State s) {
    return s.piles.stream().mapToInt(Model::gaps).sum();
  }

  int ahead(int n, int what, int i) {
    if (n < 0 || n > 200 || what < 0 || what > 5 || what == 2 && !hasMaid(i) || what == 5 && !hasPile(i)) {
      return -1;
    }
    State s = gone(now, n);
    switch (what) {
      case 0: return (int) s.piles.stream().filter(Model::right).count();
      case 1: return (int) s.piles.stream().filter(Model::proper).count();
      case 2: return s.tired.get(i);
      case 3: return s.chipped();
      case 4: return s.idle - now.idle;
      default: return gaps(s.piles.get(i));
    }
  }

  int rightWhen(int pile) {
    if (!hasPile(pile)) {
      return -1;
    }
    State s = now.copy();
    for (int n = 0; n <= 199; n++) {
      if (right(s.piles.get(pile))) {
        return n;
      }
      minute(s, false, -1, -1, -1, 0);
    }
    return -2;
  }

  private String signsNow(int pile, int which) {
    return signs(now.piles.get(pile), which);
  }

  int fewest(int pile, int which) {
    if (!hasPile(pile) || !bit(which)) {
      return -1;
    }
    String p = signsNow(pile, which);
    return away(goal(p.length()), which).get(p);
  }

  int first(int pile, int which) {
    if (!hasPile(pile) || !bit(which)) {
      return -1;
    }
    String p = signsNow(pile, which);
    Map<String, Integer> far = away(goal(p.length()), which);
    for (int d = 1; d <= p.length(); d++) {
      if (far.get(turned(p, d, which)) < far.get(p)) {
        return d;
      }
    }
    return -2;
  }

  int ways(int pile, int which) {
    return !hasPile(pile) || !bit(which) ? -1 : ways(signsNow(pile, which), which);
  }

  int apart(int one, int other, int which) {
    if (!hasPile(one) || !hasPile(other) || !bit(which)) {
      return -1;
    }
    String a = signsNow(one, which);
    String b = signsNow(other, which);
    return a.length() != b.length() ? -2 : away(a, which).get(b);
  }

  int furthest(int plates, int which) {
    if (plates < 0 || plates > 5 || !bit(which)) {
      return -1;
    }
    return away(goal(plates), which).values().stream().mapToInt(n -> n).max().getAsInt();
  }

  int howMany(int plates, int which, int fewest) {
    if (plates < 0 || plates > 5 || !bit(which) || fewest < 0 || fewest > 20) {
      return -1;
    }
    return (int) away(goal(plates), which).values().stream().filter(n -> n == fewest).count();
  }

  static final Map<String, Integer> COULD = new HashMap<>();

  int could(int pile, int which, int times) {
    if (!hasPile(pile) || !bit(which) || times < 0 || times > 9) {
      return -1;
    }
    String from = signsNow(pile, which);
    String key = from + which + times;
    if (!COULD.containsKey(key)) {
      Set<String> can = new HashSet<>(Set.of(from));
      for (int t = 0; t < times; t++) {
        Set<String> next = new HashSet<>();
        for (String p : can) {
          for (int d = 1; d <= p.length(); d++) {
            next.add(turned(p, d, which));
          }
        }
        can = next;
      }
      COULD.put(key, can.size());
    }
    return COULD.get(key);
  }

  int greedy(int pile) {
    if (!hasPile(pile)) {
      return -1;
    }
    List<Plate> p = now.piles.get(pile);
    int n = 0;
    while (!right(p)) {
      int low = p.size();
      while (place(p, low) == low) {
        low--;
      }
      int at = place(p, low);
      if (at > 1) {
        p = turned(p, at);
        n++;
      }
      p = turned(p, low);
      n++;
    }
    return n;
  }

  private static int place(List<Plate> p, int of) {
    int best = 0;
    for (int i = 1; i < of; i++) {
      best = p.get(i).size > p.get(best).size ? i : best;
    }
    return best + 1;
  }

  int game(int pile, int which, int what) {
    if (!hasPile(pile) || !bit(which) || !bit(what)) {
      return -1;
    }
    String p = signsNow(pile, which);
    if (p.equals(goal(p.length()))) {
      return what == 0 ? 2 : -2;
    }
    Map<String, Integer> worth = games(p.length(), which);
    int comes = worth.getOrDefault(p + 0, 0);
    if (what == 0) {
      return comes == 1 ? 0 : comes == -1 ? 1 : 2;
    }
    int d = which == 0 ? 2 : 1;
    while (moveWorth(worth, p, d, which) != comes) {
      d++;
    }
    return d;
  }

  private List<Integer> best;
  private int bestCount;
  private int bestSum;

  private void matchFrom(List<Integer> chosen, int count, int sum) {
    int maid = chosen.size();
    if (maid == told.maids.size()) {
      if (best == null || count > bestCount || count == bestCount && sum < bestSum) {
        best = new ArrayList<>(chosen);
        bestCount = count;
        bestSum = sum;
      }
      return;
    }
    for (int pile = 0; pile <= now.piles.size(); pile++) {
      boolean none = pile == now.piles.size();
      if (none || !chosen.contains(pile) && fewest(pile, 1) > 0 && fewest(pile, 1) <= told.skills.get(maid)) {
        chosen.add(none ? -2 : pile);
        matchFrom(chosen, none ? count : count + 1, none ? sum : sum + fewest(pile, 1));
        chosen.remove(maid);
      }
    }
  }

  int match(int what) {
    if (what < 0 || what > 5) {
      return -1;
    }
    best = null;
    matchFrom(new ArrayList<>(), 0, 0);
    return what == 4 ? bestCount : what == 5 ? bestSum : what < best.size() ? best.get(what) : -2;
  }

  long holds(int n, int what) {
    if (n < 0 || n > 6 || !bit(what)) {
      return -1;
    }
    BigInteger above = BigInteger.valueOf(100 - told.chipped()).pow(n);
    BigInteger below = BigInteger.valueOf(100).pow(n);
    BigInteger common = above.gcd(below);
    return (what == 0 ? above : below).divide(common).longValue();
  }

  int see(int minutes, int pile, int size, boolean is) {
    if (minutes < 1 || minutes > 60 || !hasPile(pile) || size < 1 || size > 99 || seen.size() == 24) {
      return -1;
    }
    seen.add(new Seen(minutes, pile, size, is, -1));
    return seen.size() - 1;
  }

  int strike(int which) {
    if (which < 0 || which >= seen.size() || seen.size() == 24) {
      return -1;
    }
    seen.add(new Seen(0, 0, 0, false, which));
    return seen.size() - 1;
  }

  boolean known(int n) {
    if (n < -1 || n > seen.size()) {
      return false;
    }
    known = n;
    return true;
  }

  private int knownBy() {
    return known < 0 ? seen.size() : known;
  }

  private boolean struck(int which) {
    for (int i = which + 1; i < knownBy(); i++) {
      if (seen.get(i).struck == which && !struck(i)) {
        return true;
      }
    }
    return false;
  }

  private State goneBy(int turn, int depth, int n) {
    State s = told.start.copy();
    for (int i = 0; i < n; i++) {
      minute(s, false, -1, -1, turn, depth);
    }
    return s;
  }

  private static int sizeAt(State s, int pile, int at) {
    return at < s.piles.get(pile).size() ? s.piles.get(pile).get(at).size : 0;
  }

  int deep(int turn) {
    if (turn < 0 || turn >= told.turns.size()) {
      return -1;
    }
    int bits = 0;
    for (int depth = 1; depth <= 5; depth++) {
      boolean so = true;
      for (int i = 0; i < knownBy(); i++) {
        Seen one = seen.get(i);
        if (one.struck < 0 && !struck(i)) {
          so &= (sizeAt(goneBy(turn, depth, one.minutes), one.pile, 0) == one.size) == one.is;
        }
      }
      bits |= so ? 1 << depth - 1 : 0;
    }
    return bits;
  }

  int ask(int turn, int n, int what) {
    if (turn < 0 || turn >= told.turns.size() || n < 1 || n > 60 || !bit(what)) {
      return -1;
    }
    int bits = deep(turn);
    int bestPlace = 0;
    int fewest = 99;
    for (int at = 0; at < 5; at++) {
      Map<Integer, Integer> left = new HashMap<>();
      for (int depth = 1; depth <= 5; depth++) {
        if ((bits >> depth - 1 & 1) == 1) {
          left.merge(sizeAt(goneBy(turn, depth, n), told.turns.get(turn).pile, at), 1, Integer::sum);
        }
      }
      int worst = left.values().stream().mapToInt(k -> k).max().orElse(0);
      if (worst < fewest) {
        fewest = worst;
        bestPlace = at;
      }
    }
    return what == 0 ? bestPlace : fewest;
  }

  int chance(int seed, int n, int chipped) {
    if (seed < 0 || n < 1 || n > 99 || chipped < 0 || chipped > 20) {
      return -1;
    }
    int times = 0;
    long number = seed;
    for (int i = 0; i < 10; i++) {
      State s = now.copy();
      s.number = number;
      for (int m = 0; m < n; m++) {
        minute(s, true, -1, -1, -1, 0);
      }
      number = s.number;
      times += s.chipped() >= chipped ? 1 : 0;
    }
    return times;
  }

  int tried(int what, int i, int n) {
    if (what < 0 || what > 4 || n < 0 || n > 200 || (what == 2 ? !hasMaid(i) : i != 0)) {
      return -1;
    }
    State s = now.copy();
    for (int m = 0; m < n; m++) {
      minute(s, false, what, i, -1, 0);
    }
    return gapsOfAll(s);
  }

  int undo() {
    if (undo.isEmpty()) {
      return -1;
    }
    now = undo.remove(undo.size() - 1);
    return undo.size();
  }

  int keep() {
    image = now.copy();
    return now.minute;
  }

  int back() {
    if (image == null) {
      return -1;
    }
    now = image.copy();
    undo.clear();
    return now.minute;
  }

  int count(int what) {
    switch (what) {
      case 0: return told.maids.size();
      case 1: return told.piles.size();
      case 2: return told.plates;
      case 3: return told.turns.size();
      case 4: return told.knots;
      case 5: return now.minute;
      case 6: return ahead(0, 0, 0);
      case 7: return ahead(0, 1, 0);
      case 8: return gapsOfAll(now);
      case 9: return now.chipped();
      case 10: return now.idle;
      case 11: return now.tired.stream().mapToInt(n -> n).sum();
      case 12: return now.piles.stream().mapToInt(p -> p.stream().mapToInt(q -> q.face).sum()).sum();
      case 13: return seen.size();
      case 14: return knownBy();
      case 15: return undo.size();
      default: return -1;
    }
  }
}
