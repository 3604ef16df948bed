import java.io.IOException;
import java.nio.charset.StandardCharsets;
import java.nio.file.Files;
import java.nio.file.Path;
import java.util.ArrayList;
import java.util.BitSet;
import java.util.HashMap;
import java.util.List;
import java.util.Map;
import java.util.TreeMap;
import java.util.function.Supplier;

/**
 * What the tests of boundary cases share. Each of them says whose words it is of (a promise's, or a part's of the Terms)
 * and the words themselves, which must stand there in the document.
 */
abstract class Bounds {
  static final Check CHECK = new Check("BoundsTest");
  static final int LOWEST = Integer.MIN_VALUE;
  static final int MOST = Integer.MAX_VALUE;
  static final long NO_LAW = Long.MIN_VALUE;

  private static final Map<String, String> DOCUMENT = document();
  /** Of each part, how far each of its signs has been said by a test. */
  private static final Map<String, BitSet> TOLD = new TreeMap<>();
  private static String where = "";

  /** Any call. */
  interface Deed {
    long on(PlatePiles x);
  }

  // ---- the document ----

  private static Map<String, String> document() {
    Map<String, String> made = new HashMap<>();
    String all;
    try {
      all = Files.readString(Path.of("../shared/DOC.md"), StandardCharsets.UTF_8).replaceAll("\\s+", " ");
    } catch (IOException e) {
      throw new IllegalStateException("no document", e);
    }
    made.put("What it is", between(all, "## What it is", "## The public face"));
    made.put("The public face", between(all, "## The public face", "## Terms"));
    made.put("Terms 1", between(all, "## Terms", "==== 2."));
    made.put("Terms 2", between(all, "==== 2.", "==== 3."));
    made.put("Terms 3", between(all, "==== 3.", "==== 4."));
    made.put("Terms 4", between(all, "==== 4.", "## Promise 1:"));
    for (int i = 1; i <= 37; i++) {
      made.put("Promise " + i, between(all, "## Promise " + i + ":", i == 37 ? "## Not promised" : "## Promise " + (i + 1) + ":"));
    }
    return made;
  }

  private static String between(String all, String from, String to) {
    int begin = all.indexOf(from);
    int end = all.indexOf(to, begin + from.length());
    if (begin < 0 || end < 0) {
      throw new IllegalStateException("the document has no " + from + " ahead of " + to);
    }
    return all.substring(begin, end);
  }

  /** What is asked from here on is of these words; behind a part of the Terms stand the promises that they are for. */
  static void of(String ofWhat, String words) {
    String section = ofWhat.replaceAll(",.*", "");
    where = ofWhat + ", \"" + words + "\": ";
    String all = DOCUMENT.getOrDefault(section, "");
    CHECK.due(where + "the document says so there", all.contains(words), true);
    BitSet told = TOLD.computeIfAbsent(section, any -> new BitSet());
    for (int at = all.indexOf(words); at >= 0; at = all.indexOf(words, at + 1)) {
      told.set(at, at + words.length());
    }
  }

  /** Every word of the Terms and of the promises has been said by a test that asks for it; the face is FaceTest's. */
  static void everyWordIsTold() {
    for (Map.Entry<String, String> section : DOCUMENT.entrySet()) {
      BitSet told = TOLD.getOrDefault(section.getKey(), new BitSet());
      CHECK.due(section.getKey() + " has a test", !told.isEmpty(), true);
      if (section.getKey().matches("(Terms|Promise) .*")) {
        CHECK.due(section.getKey() + " has no test of '" + untold(section.getValue(), told) + "', words", untold(section.getValue(), told).length(), 0);
      }
    }
  }

  /** What no test said, but for headings, the signs that set a block apart, and what is no word. */
  private static String untold(String words, BitSet told) {
    StringBuilder made = new StringBuilder(words);
    for (int i = 0; i < made.length(); i++) {
      if (told.get(i)) {
        made.setCharAt(i, '|');
      }
    }
    return made.toString().replaceFirst("^## Promise [0-9]+: \\w+ `[^`]*`:", "").replaceFirst("^## Promise 1: A new object `PlatePiles\\(\\)`:", "")
        .replaceFirst("^(## Terms|==== [0-9]\\.)", "").replace("```text", "").replaceAll("[^A-Za-z0-9]+", " ").trim();
  }

  // ---- answers ----

  static void due(String what, long got, long want) {
    CHECK.due(where + what, got, want);
  }

  static void due(String what, boolean got, boolean want) {
    CHECK.due(where + what, got, want);
  }

  static void fine(String text, int lines) {
    PlatePiles x = new PlatePiles();
    due("lines of " + shown(text), Check.tell(x, text), lines);
    due("fault of " + shown(text), x.fault(0), 0);
    due("place of " + shown(text), x.fault(1), -1);
  }

  static void fault(String text, int fault, int place) {
    PlatePiles x = new PlatePiles();
    due("answer to " + shown(text), Check.tell(x, text), -1);
    due("fault of " + shown(text), x.fault(0), fault);
    due("place of " + shown(text), x.fault(1), place);
  }

  private static String shown(String text) {
    return "'" + (text.length() > 90 ? text.substring(0, 30) + " .. " + text.substring(text.length() - 50) : text) + "'";
  }

  /** An E's value for maid m (skill 7) who would turn pile p (9 up, 4 up, 6 down) by 2; q is empty. */
  static long value(String e) {
    return Check.of("maid m 7;pile p;pile q;plate p 9 0;plate p 4 0;plate p 6 1;law heed " + e + ";").law(2, 0, 0, 2);
  }

  static void value(String e, long want) {
    due("value of " + e, value(e), want);
  }

  /** 1 IndexOutOfBoundsException, 2 NoSuchElementException. */
  static void thrown(String what, PlatePiles x, int pile, int which, int want) {
    due(what, Check.thrownByPile(x, pile, which), want);
  }

  static String times(int n, String words) {
    return words.repeat(n);
  }

  /** Piles p, q, .. from the top down, sizes with ' are face down; one maid m of skill 9. */
  static PlatePiles piles(String... rows) {
    StringBuilder text = new StringBuilder("maid m 9;");
    for (int i = 0; i < rows.length; i++) {
      text.append(pile("" + (char) ('p' + i), rows[i]));
    }
    return Check.of(text.toString());
  }

  static String pile(String name, String row) {
    StringBuilder text = new StringBuilder("pile ").append(name).append(';');
    for (String plate : row.isEmpty() ? new String[0] : row.split(" ")) {
      text.append("plate ").append(name).append(' ').append(plate.replace("'", "")).append(plate.endsWith("'") ? " 1;" : " 0;");
    }
    return text.toString();
  }

  /** A pile as piles() takes it. */
  static String row(PlatePiles x, int pile) {
    StringBuilder made = new StringBuilder();
    for (int place = 0; place < x.pile(pile, 0); place++) {
      made.append(place == 0 ? "" : " ").append(x.plate(pile, place, 1)).append(x.plate(pile, place, 2) == 1 ? "'" : "");
    }
    return made.toString();
  }

  static void row(String what, PlatePiles x, int pile, String want) {
    String got = row(x, pile);
    due(what + ": pile " + pile + " is " + got + ", due is " + want, got.equals(want), true);
  }

  /** The n-th number (1 the first) from a last one on. */
  static long number(long last, int n) {
    long number = last;
    for (int i = 0; i < n; i++) {
      number = (number * 1103515245L + 12345L) % 2147483648L;
    }
    return number / 65536;
  }

  // ---- calls that leave everything as it was ----

  static final String BUSY = "maid m 9;maid n 5;pile p;pile q;pile r;pile s;plate p 3 0;plate p 1 1;plate p 2 0;plate q 2 0;plate q 1 0;"
      + "plate r 5 1;plate r 6 0;turn m p 2 0;turn n q 2 1;turn m r 2 3;turn n p 3 4;turn m q 1 5;turn n r 1 6;law crack 50;"
      + "law effort depth+gaps;law heed tired<>9;chip 30;seed 7;";

  /** Something of everything: minutes gone, things done by call, an image, things seen, a fault, a tape. */
  static PlatePiles busy() {
    PlatePiles x = doneAndSeen();
    Check.tell(x, "pile p;pile");
    x.feed(0x70696c65, 0x20703b70, 0x6c617465, 0x20702032, 0x20303b70);
    return x;
  }

  static PlatePiles doneAndSeen() {
    PlatePiles x = Check.of(BUSY);
    x.go(2);
    x.see(1, 0, 1, true);
    x.see(2, 1, 2, false);
    x.strike(1);
    x.known(2);
    x.turn(0, 2);
    x.keep();
    x.crack(0, 1);
    x.move(2, 1);
    return x;
  }

  static void refused(String what, Deed deed, long want) {
    refused(what, Bounds::busy, deed, want);
  }

  /** The deed answers so, and what then comes of the object is what comes of one that was never asked. */
  static void refused(String what, Supplier<PlatePiles> made, Deed deed, long want) {
    PlatePiles asked = made.get();
    PlatePiles other = made.get();
    due(what, deed.on(asked), want);
    List<Long> after = trace(asked);
    List<Long> without = trace(other);
    for (int i = 0; i < without.size(); i++) {
      if (!after.get(i).equals(without.get(i))) {
        due(what + " leaves everything as it was, answer " + i, after.get(i), without.get(i));
        return;
      }
    }
    due(what + " leaves everything as it was", true, true);
  }

  /** Looks at all there is, then undoes all, goes on, goes back, and reads the tape: some 350 calls. */
  static List<Long> trace(PlatePiles x) {
    List<Long> made = new ArrayList<>();
    made.add((long) x.fault(0));
    made.add((long) x.fault(1));
    for (int what = 0; what < 4; what++) {
      made.add((long) x.maid(what, 0));
      made.add(x.law(what, 0, 0, 2));
      made.add((long) x.rightWhen(what));
      made.add((long) x.named(what / 2, (what % 2 == 0 ? 16 : 13) << 25));
    }
    for (int what = 0; what < 6; what++) {
      made.add((long) x.ahead(5, what, 0));
      made.add((long) x.match(what));
      made.add((long) x.deep(what));
    }
    made.add((long) x.ask(0, 2, 0));
    made.add((long) x.ask(0, 2, 1));
    made.add(x.holds(2, 0));
    look(x, made);
    for (int i = x.count(15); i > 0; i--) {
      made.add((long) x.undo());
      lookShort(x, made);
    }
    made.add((long) x.go(4));
    look(x, made);
    made.add((long) x.back());
    look(x, made);
    made.add((long) x.feed(0, 0, 0, 0, 0));
    for (int n = 700; n > 0; n -= 20) {
      made.add((long) x.text(n));
    }
    made.add((long) x.fault(1));
    return made;
  }

  private static void lookShort(PlatePiles x, List<Long> made) {
    for (int what = 8; what <= 15; what++) {
      made.add((long) x.count(what));
    }
  }

  private static void look(PlatePiles x, List<Long> made) {
    for (int what = 0; what <= 15; what++) {
      made.add((long) x.count(what));
    }
    for (int pile = 0; pile < x.count(1); pile++) {
      made.add((long) x.pile(pile, 0));
      made.add((long) x.pile(pile, 4));
      for (int place = 0; place < x.pile(pile, 0); place++) {
        for (int what = 0; what < 4; what++) {
          made.add((long) x.plate(pile, place, what));
        }
      }
    }
    made.add((long) x.maid(0, 1));
    made.add((long) x.maid(1, 1));
  }
}
