import java.util.List;

/** The boundary cases of the public face, of the Terms' first part (the text, its faults) and of promises 1 to 5. */
final class TextBounds extends Bounds {
  /** 63 KNOTS, 75 signs. */
  private static final String SUMS = "law effort 1" + times(31, "+1") + ";";

  static void all() {
    face();
    lines();
    words();
    formulas();
    whatIsTold();
    plates();
    numbers();
    firstFault();
    canNotStand();
    tooMuch();
    toldAlready();
    notToldAhead();
    newObject();
    feeding();
    reading();
    refusedText();
    faults();
    names();
  }

  private static void face() {
    of("The public face", "public static final int NONE = -1;");
    due("NONE", PlatePiles.NONE, -1);
  }

  // ---- Terms 1: the text ----

  /** 4 maids, 4 piles of 5 plates, 14 turns, chip, seed and three laws of 64 knots in all: 47 lines. */
  private static String fullText() {
    StringBuilder text = new StringBuilder();
    for (char c = 'a'; c <= 'd'; c++) {
      text.append("maid ").append(c).append(" 9;pile ").append(c).append(';');
    }
    for (int size = 1; size <= 5; size++) {
      for (char c = 'a'; c <= 'd'; c++) {
        text.append("plate ").append(c).append(' ').append(size).append(" 1;");
      }
    }
    text.append(times(14, "turn a b 5 9;")).append("chip 9;seed 9;law crack 1").append(times(20, "+1"));
    text.append(";law heed not 1").append(times(10, "+1")).append(";law effort 1;");
    return text.toString();
  }

  private static void lines() {
    of("Terms 1, promises 3, 4", "A TEXT: { LINE ';' }.");
    fine("", 0);
    fine("pile p;", 1);
    fine("pile p;pile q;", 2);
    fault("pile p", 1, 6);
    fault(";", 1, 0);
    fault("pile p;;", 1, 7);
    fault("pile p;pile q", 1, 13);
    String full = fullText();
    fine(full, 47);
    PlatePiles x = Check.of(full);
    int[] most = {4, 4, 20, 14, 64, 0, 4, 0, 0};
    for (int what = 0; what < most.length; what++) {
      due("count " + what + " of the fullest text", x.count(what), most[what]);
    }
    for (String more : new String[] {"maid e 1;", "pile e;", "turn a a 1 1;"}) {
      fault(full + more, 2, full.length());
    }
    fault(full + "plate a 6 1;", 2, full.length() + 6);
    fault(full + "chip 1;", 3, full.length());
    fault(full + "seed 1;", 3, full.length());
    fault(full + "law effort 1;", 3, full.length() + 4);

    of("Terms 1, promises 3, 4", "LINE: maid W N | pile W | plate W N N | turn W W N N | chip N | seed N | law LAW E.");
    String[] heads = {"maid m 1", "pile p", "plate p 1 0", "turn m p 1 1", "chip 1", "seed 1", "law heed 1"};
    String before = "maid n 1;pile q;";
    String ahead = "maid m 1;pile p;";
    for (int i = 0; i < heads.length; i++) {
      String told = i < 2 ? before : ahead;
      fine(told + heads[i] + ";", 3);
      fault(told + heads[i] + " 1;", 1, told.length() + heads[i].length() + 1);
      fault(told + heads[i] + " q;", 1, told.length() + heads[i].length() + 1);
      int last = heads[i].lastIndexOf(' ');
      fault(told + heads[i].substring(0, last) + ";", 1, told.length() + last);
    }
    for (String other : new String[] {"effort 1;", "crack 1;", "heed 1;", "size 1;", "not 1;", "1;", "(;", "m 1;"}) {
      fault(other, 1, 0);
    }

    of("Terms 1, promises 3, 4", "LAW: effort | crack | heed.");
    fine("law effort 1;law crack 1;law heed 1;", 3);
    for (String other : new String[] {"maid", "law", "seed", "or", "size", "x", "1", ";"}) {
      fault("law " + other + " 1;", 1, 4);
    }
  }

  private static void words() {
    of("Terms 1, promises 3, 4", "Words: small letters in a row;");
    fine("pile a;pile z;", 2);
    for (char sign : new char[] {'`', '{', '@', 'A', 'Z', '[', '_', '~', '!', '#', '.', ':', ',', '&', '|', 0, 127, 128, 225, 255}) {
      fault("pile " + sign + ";", 1, 5);
      fault("pile a" + sign + ";", 1, 6);
      fault("" + sign, 1, 0);
    }
    fault("Pile p;", 1, 0);
    fault("pile a1;", 1, 6);
    fault("pile a b;", 1, 7);

    of("Terms 1, promises 3, 4", "W: one of 1 .. 6 letters,");
    fault("pile ;", 1, 5);
    fine("pile p;", 1);
    fine("pile abcdef;", 1);
    fault("pile abcdefg;", 1, 5);
    fault("pile " + times(300, "ab") + ";", 1, 5);
    fault("maid abcdefg 1;", 1, 5);
    fault("pile abcdef;plate abcdefg 1 0;", 1, 18);
    fault("pile abcdef;plate abcde 1 0;", 4, 18);
    fault("maid m 1;pile p;turn mmmmmmm p 1 1;", 1, 21);
    fault("maid m 1;pile p;turn m ppppppp 1 1;", 1, 23);

    of("Terms 1, promises 3, 4", "none of those of the language;");
    String[] language = {"maid", "pile", "plate", "turn", "chip", "seed", "law", "effort", "crack", "heed", "or", "and", "not",
        "size", "depth", "high", "skill", "tired", "gaps", "minute"};
    for (String word : language) {
      fault("maid " + word + " 1;", 1, 5);
      fault("pile " + word + ";", 1, 5);
      fault("pile p;plate " + word + " 1 0;", 1, 13);
      fault("maid m 1;pile p;turn " + word + " p 1 1;", 1, 21);
      fault("maid m 1;pile p;turn m " + word + " 1 1;", 1, 23);
      fine("pile " + word.substring(1) + ";", 1);
      if (word.length() < 6) {
        fine("pile " + word + "s;maid s" + word + " 1;", 2);
      }
    }

    of("Terms 1, promises 3, 4", "N: digits.");
    fine("maid m 0;maid n 9;", 2);
    fine("chip 00000000000000000000000000000000100;", 1);
    due("zeros ahead", Check.of("maid m 00000000000000000000007;").maid(0, 0), 7);
    fault("chip ;", 1, 5);
    fault("chip x;", 1, 5);
    fault("chip /;", 1, 5);
    fault("chip 1/;", 1, 6);
    fault("chip 1:;", 1, 6);
    fault("chip -1;", 1, 5);
    fault("chip 1 1;", 1, 7);

    of("Terms 1, promises 3, 4", "Blanks 10, 32.");
    fine(" \n pile\n\np \n ; \n", 1);
    fine(" ", 0);
    fine("\n", 0);
    fine("pile p;maid m1;chip7;", 3);
    for (char sign : new char[] {0, 1, 8, 9, 11, 12, 13, 31, 33, 127, 138, 160, 255}) {
      fault("pile" + sign + "p;", 1, 4);
      fault("pile p;" + sign, 1, 7);
    }
    fault("pi le p;", 1, 0);
    fault("maid m 1 0;", 1, 9);
  }

  private static void formulas() {
    of("Terms 1, promises 3, 4, 9", "B: not B | C.");
    value("not not not 0", 1);
    fault("law heed not;", 1, 12);
    fault("law heed 1+not 1;", 1, 11);
    fault("law heed 1=not 1;", 1, 11);
    fault("law heed 1 not 1;", 1, 11);
    value("1+(not 1)", 1);
    value("1 or not 1", 1);
    value("1 and not 1", 0);
    value("not 1=2", 1);
    value("not 0 and 0", 0);
    value("not 1 or 1", 1);

    of("Terms 1, promises 3, 4, 9", "E: A { or A }. A: B { and B }.");
    value("1 or 0 and 0", 1);
    value("0 and 0 or 1", 1);
    value("(1 or 0) and 0", 0);
    value("0 and (0 or 1)", 0);
    value("0 or 0 or 0 or 1", 1);
    value("1 and 1 and 1 and 0", 0);
    fault("law heed 1 or;", 1, 13);
    fault("law heed 1 and;", 1, 14);

    of("Terms 1, promises 3, 4, 9", "S: T { ( + | - ) T }. T: P { ( * | / ) P }. P: N | NAME | '(' E ')';");
    value("2+1=3", 1);
    value("3=2+1", 1);
    value("2*3>5", 1);
    value("5<2*3", 1);
    value("7-2-1", 4);
    value("7-(2-1)", 6);
    value("2+3*4", 14);
    value("(2+3)*4", 20);
    value("100/7/2", 7);
    value("100/(7/2)", 33);
    value("2*3/4*5", 5);
    fault("law heed 1+;", 1, 11);
    fault("law heed 1*;", 1, 11);
    fault("law heed +1;", 1, 9);
    fault("law heed ();", 1, 10);

    of("Terms 1, promises 3, 4, 9", "C: S [ ( < | <= | = | <> | >= | > ) S ].");
    value("3", 3);
    value("3>2", 1);
    value("(3>2)>0", 1);
    value("3>(2>1)", 1);
    value("3>2 and 2>1", 1);
    for (String sign : new String[] {"<", "<=", "=", "<>", ">=", ">"}) {
      fault("law heed 3>2" + sign + "1;", 1, 12);
      fault("law heed 3" + sign + ";", 1, 10 + sign.length());
      fault("law heed " + sign + "3;", 1, 9);
      fault("law heed 3" + sign, 1, 10 + sign.length());
    }

    of("Terms 1, promises 3, 4, 9", "N of E 0 .. 9999.");
    value("0", 0);
    value("9999", 9999);
    value("0000009999", 9999);
    for (String n : new String[] {"10000", "10001", "2147483648", "4294967296", "4294967297", "18446744073709551616",
        "99999999999999999999999999999999"}) {
      fault("law heed " + n + ";", 2, 9);
      fault("law heed 1+" + n + ";", 2, 11);
    }
    fault("law heed -1;", 1, 9);

    of("Terms 1, promises 3, 4, 9", "(or > behind <) right behind < or > belongs to it.");
    value("1<=1", 1);
    value("1>=1", 1);
    value("1<>1", 0);
    fault("law heed 1< =1;", 1, 12);
    fault("law heed 1> =1;", 1, 12);
    fault("law heed 1< >1;", 1, 12);
    fault("law heed 1<\n>1;", 1, 12);
    fault("law heed 1><1;", 1, 11);
    fault("law heed 1=>1;", 1, 11);
    fault("law heed 1=<1;", 1, 11);
    fault("law heed 1==1;", 1, 11);
    fault("law heed 1<==1;", 1, 12);
    fault("law heed 1>>1;", 1, 11);
    fault("law heed 1<<1;", 1, 11);
    PlatePiles cut = new PlatePiles();
    Check.tell(cut, "law heed 1<=1;");
    due("the sign cut off behind <", tellCut(cut, "law heed 1<=1;", 11), -1);
    due("its place", cut.fault(1), 11);
  }

  /** Feeds it all, but has only the first n bytes read. */
  private static int tellCut(PlatePiles x, String text, int n) {
    int[] ints = Check.ints(Check.bytes(text));
    for (int i = 0; i < ints.length; i += 5) {
      x.feed(ints[i], ints[i + 1], ints[i + 2], ints[i + 3], ints[i + 4]);
    }
    return x.text(n);
  }

  private static void whatIsTold() {
    of("Terms 1, promises 3, 8, 37", "MAIDS, at most 4:");
    due("none", Check.of("").count(0), 0);
    String maids = "maid a 0;maid b 1;maid c 2;maid d 9;";
    due("four", Check.of(maids).count(0), 4);
    due("the fourth", Check.of(maids).maid(3, 0), 9);
    fault(maids + "maid e 1;", 2, 36);

    of("Terms 1, promises 3, 8", "SKILL 0 .. 9.");
    due("0", Check.of("maid m 0;").maid(0, 0), 0);
    due("9", Check.of("maid m 9;").maid(0, 0), 9);
    fault("maid m 10;", 2, 7);
    fault("maid m 4294967296;", 2, 7);
    fault("maid m 18446744073709551616;", 2, 7);

    of("Terms 1, promises 3, 6, 37", "PILES, at most 4.");
    due("none", Check.of("").count(1), 0);
    due("four", Check.of("pile a;pile b;pile c;pile d;").count(1), 4);
    due("the fourth", Check.of("pile a;pile b;pile c;pile d;plate d 1 0;").pile(3, 0), 1);
    fault("pile a;pile b;pile c;pile d;pile e;", 2, 28);

    of("Terms 1, promises 3, 30, 37", "TURNS, at most 14:");
    String turns = "maid m 1;pile p;" + times(14, "turn m p 1 0;");
    due("none", Check.of("maid m 1;pile p;").count(3), 0);
    due("fourteen", Check.of(turns).count(3), 14);
    due("the fourteenth is asked of", Check.of(turns).deep(13), 31);
    due("there is no fifteenth", Check.of(turns).deep(14), -1);
    fault(turns + "turn m p 1 0;", 2, turns.length());

    of("Terms 1, promises 3, 4", "DEPTH 1 .. 5,");
    String two = "maid m 1;pile p;";
    fault(two + "turn m p 0 0;", 2, 25);
    fine(two + "turn m p 1 0;", 3);
    fine(two + "turn m p 5 0;", 3);
    fault(two + "turn m p 6 0;", 2, 25);
    fault(two + "turn m p 4294967297 0;", 2, 25);

    of("Terms 1, promises 3, 13", "a MINUTE 0 .. 99.");
    PlatePiles first = Check.of("maid m 1;pile p;plate p 1 0;turn m p 1 0;turn m p 1 99;");
    first.go(1);
    due("in minute 0", first.pile(0, 4), 1);
    first.go(98);
    due("until 99", first.pile(0, 4), 1);
    first.go(1);
    due("in minute 99", first.pile(0, 4), 2);
    fault(two + "turn m p 1 100;", 2, 27);
    fault(two + "turn m p 1 4294967296;", 2, 27);
    first.go(200);
    due("never again", first.pile(0, 4), 2);

    of("Terms 1, promises 3, 4", "MAIDS, PILES have names of their kind.");
    fine("maid p 1;pile p;", 2);
    fault("maid p 1;plate p 1 0;", 4, 15);
    fault("pile m;pile p;turn m p 1 0;", 4, 19);
    fault("maid m 1;maid p 1;turn m p 1 0;", 4, 25);
  }

  private static void plates() {
    of("Terms 1, promises 3, 6, 7", "in a PILE below those told ahead, 5 at most in each:");
    PlatePiles x = Check.of("pile p;pile q;plate p 7 0;plate q 1 0;plate p 3 0;plate p 9 0;plate p 1 0;plate p 2 0;");
    row("five, the first told on top", x, 0, "7 3 9 1 2");
    row("one", x, 1, "1");
    due("none", Check.of("pile p;").pile(0, 0), 0);
    String five = "pile p;plate p 1 0;plate p 2 0;plate p 3 0;plate p 4 0;plate p 5 0;";
    fault(five + "plate p 6 0;", 2, 73);
    fine(five + "pile q;plate q 6 0;", 8);

    of("Terms 1, promises 3, 7", "SIZE 1 .. 99");
    fault("pile p;plate p 0 0;", 2, 15);
    due("1", Check.of("pile p;plate p 1 0;").plate(0, 0, 1), 1);
    due("99", Check.of("pile p;plate p 99 0;").plate(0, 0, 1), 99);
    fault("pile p;plate p 100 0;", 2, 15);
    fault("pile p;plate p 4294967297 0;", 2, 15);

    of("Terms 1, promises 3, 4", "(no two alike in one PILE),");
    fault("pile p;plate p 5 0;plate p 5 0;", 3, 27);
    fault("pile p;plate p 5 0;plate p 05 1;", 3, 27);
    fault("pile p;plate p 1 0;plate p 2 0;plate p 3 0;plate p 4 0;plate p 1 0;", 3, 63);
    fine("pile p;pile q;plate p 5 0;plate q 5 0;", 4);

    of("Terms 1, promises 3, 7", "FACE 0 (up), 1 (down).");
    PlatePiles faces = Check.of("pile p;plate p 1 0;plate p 2 1;");
    due("up", faces.plate(0, 0, 2), 0);
    due("down", faces.plate(0, 1, 2), 1);
    due("one is down", faces.count(12), 1);
    fault("pile p;plate p 1 2;", 2, 17);
    fault("pile p;plate p 1 4294967296;", 2, 17);

    of("Terms 1, promises 7, 8", "All numbered as they come (PLATES of all PILES together);");
    PlatePiles mixed = Check.of("pile p;maid m 3;pile q;plate q 9 0;plate p 8 0;maid n 4;plate q 7 0;");
    due("q's first", mixed.plate(1, 0, 0), 0);
    due("p's first", mixed.plate(0, 0, 0), 1);
    due("q's second", mixed.plate(1, 1, 0), 2);
    due("m", mixed.maid(0, 0), 3);
    due("n", mixed.maid(1, 0), 4);
    due("the twentieth", Check.of(fullText()).plate(3, 4, 0), 19);
  }

  private static int chippedFirst(String rest) {
    PlatePiles x = Check.of("maid m 1;pile p;plate p 1 0;turn m p 1 0;" + rest);
    x.go(1);
    return x.count(9);
  }

  private static void numbers() {
    of("Terms 1, promises 3, 13, 26", "chip: of a hundred 0 .. 100 (0).");
    due("0 never", chippedFirst("chip 0;"), 0);
    due("without, never", chippedFirst(""), 0);
    due("100 always", chippedFirst("chip 100;seed 99999;"), 1);
    fault("chip 101;", 2, 5);
    fault("chip 4294967296;", 2, 5);
    due("without: 1", Check.of("").holds(6, 0), 1);
    due("without: by 1", Check.of("").holds(6, 1), 1);

    of("Terms 1, promises 3, 13", "seed: 0 .. 99999 (0).");
    due("0's first number is 0", chippedFirst("seed 0;chip 1;"), 1);
    due("without as 0", chippedFirst("chip 1;"), 1);
    int most = (int) (number(99999, 1) % 100);
    due("99999's first number", chippedFirst("seed 99999;chip " + most + ";"), 0);
    due("99999's first number", chippedFirst("seed 99999;chip " + (most + 1) + ";"), 1);
    fault("seed 100000;", 2, 5);
    fault("seed 4294967296;", 2, 5);
  }

  // ---- Terms 1: the faults ----

  private static void firstFault() {
    of("Terms 1, promises 3, 4", "FAULTS, the first along the text (of one place the least), with its place:");
    fault("pile p;pile p;;", 3, 12);
    fault("plate p 100 7;", 4, 6);
    fault("pile p;plate p 100 2;", 2, 15);
    fault("maid a 1;maid b 1;maid c 1;maid d 1;maid maid 10", 2, 36);
    fault("chip 1;chip", 3, 7);
    fault("seed 1;seed 100000;", 3, 7);
    fault("law heed 1;law heed 10000;", 3, 15);
    // Of one place: it can't stand there, and there would be too much.
    fault(SUMS + "law heed 1 1;", 1, 75 + 11);
    fault("law heed " + times(8, "(") + "1(;", 1, 18);
    String knots = SUMS + "law heed 1;";
    fine(knots, 2);
    fault(knots + "law crack x;", 1, 86 + 10);
    fault(knots + "law crack +;", 1, 86 + 10);
    fault(knots + "law crack sevenxx;", 1, 86 + 10);
    fault(knots + "law crack 10000;", 2, 86 + 10);
    fault(knots + "law crack (1;", 2, 86 + 11);
  }

  private static void canNotStand() {
    of("Terms 1, promises 3, 4", "1 a TOKEN that is none (a word of more than 6 letters that isn't of the language, too) or can't stand there");
    fault("sevenxx", 1, 0);
    fault("pilepile p;", 1, 0);
    fault("maid m sevenxx;", 1, 7);
    fault("law minutes 1;", 1, 4);
    fault("law heed minutes;", 1, 9);
    fault("law heed 1 or sevenxx;", 1, 14);
    fault("law heed 1 sevenxx 1;", 1, 11);
    fault("pile p sevenxx", 1, 7);
    fault("law heed ();", 1, 10);
    fault("law heed );", 1, 9);
    fault("law heed 1);", 1, 10);
    fault("law heed (1));", 1, 12);
    fault("law heed 1(1);", 1, 10);
    fault("law heed (1)1;", 1, 12);
    fault("law heed (1;", 1, 11);
    fault("law heed 1 or;", 1, 13);
    fault("law heed or 1;", 1, 9);
    fault("law heed 1 and or 1;", 1, 15);
    fault("law heed 1+*1;", 1, 11);
    fault("law heed ;", 1, 9);

    of("Terms 1, promises 3, 4", "(the length, if more must come).");
    String text = "maid m 1;pile p;plate p 1 0;turn m p 1 0;";
    int[] ends = {0, 9, 16, 28, 41};
    String cut = "law heed (not 1 or size<=2)*3;";
    for (int n = 0; n <= text.length(); n++) {
      PlatePiles x = new PlatePiles();
      boolean whole = false;
      for (int lines = 0; lines < ends.length; lines++) {
        if (ends[lines] == n) {
          whole = true;
          due("the first " + n, tellCut(x, text, n), lines);
        }
      }
      if (!whole) {
        due("the first " + n, tellCut(x, text, n), -1);
        due("fault of the first " + n, x.fault(0), 1);
        due("place of the first " + n, x.fault(1), wordBegins(text, n));
      }
    }
    for (int n = 1; n < cut.length(); n++) {
      PlatePiles x = new PlatePiles();
      due("the first " + n + " of " + cut, tellCut(x, cut, n), -1);
      due("fault of the first " + n + " of " + cut, x.fault(0), 1);
      due("place of the first " + n + " of " + cut, x.fault(1), wordBegins(cut, n));
    }
    fault("pile  \n ", 1, 8);
    fault("law heed (1  ", 1, 13);
  }

  // Where a word that is cut off begins, which can't stand there; else the length.
  private static int wordBegins(String text, int n) {
    boolean cutWord = n < text.length() && Character.isLetter(text.charAt(n - 1)) && Character.isLetter(text.charAt(n));
    if (!cutWord) {
      return n;
    }
    int from = n;
    while (from > 0 && Character.isLetter(text.charAt(from - 1))) {
      from--;
    }
    return from;
  }

  private static void tooMuch() {
    of("Terms 1, promises 3, 4", "a fifth maid and so on (at the word of the LINE),");
    fault("maid a 1;maid b 1;maid c 1;maid d 1; maid", 2, 37);
    fault("pile a;pile b;pile c;pile d;pile;", 2, 28);
    String turns = "maid m 1;pile p;" + times(14, "turn m p 5 99;");
    fault(turns + "turn x y 9 999;", 2, turns.length());
    fault(turns + "\n turn", 2, turns.length() + 2);

    of("Terms 1, promises 3, 4", "a sixth PLATE of one PILE (at its W),");
    String five = "pile p;plate p 1 0;plate p 2 0;plate p 3 0;plate p 4 0;plate p 5 0;";
    fault(five + "plate p 1 0;", 2, 73);
    fault(five + "plate p", 2, 73);
    fault(five + "plate  p 100;", 2, 74);

    of("Terms 1, promises 3, 4", "a ninth '(' open,");
    value(times(8, "(") + "7" + times(8, ")"), 7);
    fault("law heed " + times(9, "(") + "7" + times(9, ")") + ";", 2, 17);
    fault("law heed " + times(9, "("), 2, 17);
    fault("law heed 1+" + times(8, "(1+") + "(1", 2, 35);
    value(times(8, "(") + "7" + times(8, ")") + "+" + times(8, "(") + "7" + times(8, ")"), 14);
    value(times(7, "(") + "(1)+(2)" + times(7, ")"), 3);
    fine("law heed " + times(8, "(") + "1" + times(8, ")") + ";law crack " + times(8, "(") + "1" + times(8, ")") + ";", 2);

    of("Terms 1, promises 3, 4", "a 65th KNOT of all E (N, NAMES, signs, not, and, or: one each).");
    due("none", Check.of("pile p;").count(4), 0);
    due("one", Check.of("law heed 1;").count(4), 1);
    due("64 in two", Check.of(SUMS + "law heed 1;").count(4), 64);
    due("( and ) are none", Check.of("law heed ((1)+(2));").count(4), 3);
    due("64 with parentheses", Check.of("law heed (1)" + times(31, "+(1)") + ";law crack (((1)));").count(4), 64);
    fault(SUMS + "law heed 1;law crack 1;", 2, 75 + 21);
    String nots = "law heed " + times(63, "not ");
    due("64 in one", Check.of(nots + "1;").count(4), 64);
    value(times(63, "not ") + "1", 0);
    value(times(31, "1+") + "1", 32);
    value("1" + times(6, " or 1 and 1=1+1*(1") + times(6, ")"), 1);
    value("1" + times(8, "+1*(1") + times(8, ")"), 9);
    PlatePiles lastLaw = Check.of("maid m 1;pile p;" + SUMS + "law heed 7;");
    due("the last law of 64", lastLaw.law(2, 0, 0, 1), 7);
    due("the law ahead of it", lastLaw.law(0, 0, 0, 1), 32);
    fault(nots + "not 1;", 2, 9 + 64 * 4);
    fault(nots + "not not 1;", 2, 9 + 64 * 4);
    String sum = "law heed 1" + times(31, "+1");
    String last = "law crack 1;" + sum;
    due("64 with each", Check.of(last + ";").count(4), 64);
    for (String joint : new String[] {" or ", " and ", " < ", " <= ", " = ", " <> ", " >= ", " > ", " + ", " - ", " * ", " / "}) {
      fault(sum + joint + "1;", 2, sum.length() + joint.length());
      fault(last + joint + "1;", 2, last.length() + 1);
    }
    for (String part : new String[] {"size", "depth", "high", "skill", "tired", "gaps", "minute", "1", "0001"}) {
      due("a knot is " + part, Check.of("law heed " + part + ";").count(4), 1);
      fault(sum + "+" + part + ";", 2, sum.length() + 1);
    }
    fault(SUMS + "law heed 1;law crack not 1;", 2, 75 + 21);
  }

  private static void toldAlready() {
    of("Terms 1, promises 3, 4", "3 told already: a name of its kind (at W),");
    fault("maid m 1;maid m 1;", 3, 14);
    fault("maid m 1;maid m", 3, 14);
    fault("pile p;pile  p;", 3, 13);
    fault("maid a 1;maid b 1;maid c 1;maid a 1;", 3, 32);
    fine("maid abcdef 1;maid abcde 1;maid abcdeg 1;maid bcdef 1;", 4);

    of("Terms 1, promises 3, 4", "a SIZE of the same PILE (at the SIZE),");
    fault("pile p;plate p 5 0;plate p 5 7;", 3, 27);
    fault("pile p;plate p 5 0;plate p 5", 3, 27);
    fine("pile p;pile q;plate p 5 0;plate q 5 0;plate q 6 0;plate p 6 0;", 6);

    of("Terms 1, promises 3, 4", "chip, seed (at the word),");
    fault("chip 0;chip 0;", 3, 7);
    fault("seed 0;seed 0;", 3, 7);
    fault("chip 0;seed 0; chip", 3, 15);
    fine("chip 0;seed 0;", 2);

    of("Terms 1, promises 3, 4", "a law of its LAW (at LAW).");
    fault("law heed 1;law heed 1;", 3, 15);
    fault("law effort 1;law effort", 3, 17);
    fault("law crack 1;law  crack x;", 3, 17);
    fault("law effort 1;law crack 1;law heed 1;law crack 1;", 3, 40);
  }

  private static void notToldAhead() {
    of("Terms 1, promises 3, 4", "4 a MAID, a PILE that isn't told ahead (at W).");
    fault("plate p 1 0;pile p;", 4, 6);
    fault("plate p", 4, 6);
    fault("pile p;plate q 1 0;", 4, 13);
    fault("maid m 1;pile p;turn n p 1 0;", 4, 21);
    fault("maid m 1;pile p;turn m q 1 0;", 4, 23);
    fault("maid m 1;pile p;turn q n 1 0;", 4, 21);
    fault("pile p;turn m p 1 0;maid m 1;", 4, 12);
    fault("maid m 1;turn m p 1 0;pile p;", 4, 16);
    fault("turn m", 4, 5);
    fine("maid m 1;pile p;plate p 1 0;turn m p 1 0;", 4);
    fine("maid m 1;pile p;maid n 1;pile q;plate q 1 0;turn n q 1 0;", 6);
  }

  // ---- promises 1 to 5 ----

  private static void newObject() {
    of("Promise 1", "A TEXT without LINES; an empty TAPE.");
    PlatePiles x = new PlatePiles();
    for (int what = 0; what <= 15; what++) {
      due("count " + what, x.count(what), 0);
    }
    due("fault", x.fault(0), 0);
    due("its place", x.fault(1), -1);
    due("no maid", x.maid(0, 0), -1);
    due("no pile", x.fewest(0, 0), -1);
    thrown("no pile", x, 0, 0, 1);
    due("no plate", x.plate(0, 0, 0), -1);
    due("no turn told", x.deep(0), -1);
    due("no law", x.law(0, 0, 0, 1), NO_LAW);
    due("no such name", x.named(0, 0), -1);
    due("no image", x.back(), -1);
    due("nothing to undo", x.undo(), -1);
    due("nothing seen to strike", x.strike(0), -1);
    due("none of 1 on the tape", x.text(1), -2);
    due("the first twenty", x.feed(0, 0, 0, 0, 0), 20);
  }

  private static PlatePiles fed(int times) {
    PlatePiles x = new PlatePiles();
    for (int i = 0; i < times; i++) {
      x.feed(0x20202020, 0x20202020, 0x20202020, 0x20202020, 0x20202020);
    }
    return x;
  }

  private static void feeding() {
    of("Promise 2", "Twenty bytes come behind the TAPE, four of each number, the highest first: how many it has;");
    PlatePiles x = new PlatePiles();
    due("twenty", x.feed(0x70696c65, 0x20703b70, 0x6c617465, 0x20702032, 0x20303b70), 20);
    due("forty", x.feed(0x6c617465, 0x20702031, 0x20313b20, 0x20202020, 0x20202020), 40);
    due("in this order", x.text(40), 3);
    row("in this order", x, 0, "2 1'");
    due("of the lowest", x.feed(LOWEST, LOWEST, LOWEST, LOWEST, LOWEST), 20);
    due("of the highest", x.feed(MOST, MOST, MOST, MOST, MOST), 40);
    due("of -1", x.feed(-1, -1, -1, -1, -1), 60);
    due("a byte of 128", x.text(60), -1);
    due("its place", x.fault(1), 0);
    x.feed(0x20202020, 0x20202020, 0x20202020, 0x20202020, 0x202020ff);
    due("a byte of 255", x.text(20), -1);
    due("its place", x.fault(1), 19);
    x.feed(0x20202020, 0x20202020, 0x2020208a, 0x20202020, 0x20202020);
    due("138 is no 10", x.text(20), -1);
    due("its place", x.fault(1), 11);

    of("Promise 2", "NONE, and none come, if it would have more than 700.");
    x = new PlatePiles();
    for (int i = 1; i <= 35; i++) {
      due("feed " + i, x.feed(0x20202020, 0x20202020, 0x20202020, 0x20202020, 0x20202020), 20 * i);
    }
    due("720", x.feed(0, 0, 0, 0, 0), -1);
    due("720 again", x.feed(0, 0, 0, 0, 0), -1);
    due("there are no 701", x.text(701), -2);
    due("700 are blanks still", x.text(700), 0);
    due("empty then", x.feed(0, 0, 0, 0, 0), 20);
    refused("720", () -> fed(35), y -> y.feed(0x70696c65, 0x20703b70, 0x6c617465, 0x20702032, 0x20303b70), -1);
    due("the last one", fed(34).feed(0, 0, 0, 0, 0), 700);
  }

  private static void reading() {
    of("Promise 3", "The TAPE's first n bytes (it is empty then) are the TEXT");
    PlatePiles x = new PlatePiles();
    due("7 of 20", tellCut(x, "pile p;pile q;pile r;", 7), 1);
    due("one pile", x.count(1), 1);
    due("empty then", x.text(1), -2);
    due("the first twenty", x.feed(0x70696c65, 0x20703b20, 0x20202020, 0x20202020, 0x20202020), 20);
    due("none of it", x.text(0), 0);
    due("no pile", x.count(1), 0);
    due("empty then", x.feed(0, 0, 0, 0, 0), 20);
    due("the 0 of that", x.text(1), -1);
    due("empty then, with a fault, too", x.feed(0, 0, 0, 0, 0), 20);
    due("700", tellCut(new PlatePiles(), "pile p;" + times(692, " ") + ";", 700), -1);
    due("699 of 700", tellCut(new PlatePiles(), "pile p;" + times(692, " ") + ";", 699), 1);

    of("Promise 3", "(MINUTE 0, PILES as told, nobody TIRED, nothing CHIPPED, SEEN, all KNOWN, no IMAGE, nothing to undo then)");
    x = busy();
    x.text(0);
    due("told anew", Check.tell(x, BUSY), 24);
    due("minute 0", x.count(5), 0);
    row("as told", x, 0, "3 1' 2");
    row("as told", x, 1, "2 1");
    row("as told", x, 2, "5' 6");
    row("as told", x, 3, "");
    for (int pile = 0; pile < 4; pile++) {
      due("never turned " + pile, x.pile(pile, 4), 0);
    }
    due("nobody is tired", x.count(11), 0);
    due("nothing is chipped", x.count(9), 0);
    due("nothing was idle", x.count(10), 0);
    due("nothing is seen", x.count(13), 0);
    due("known by none", x.count(14), 0);
    x.see(1, 0, 1, true);
    due("all known, those to come, too", x.count(14), 1);
    due("all known, those to come, too", x.deep(0), 2);
    due("nothing to undo", x.count(15), 0);
    due("nothing to undo", x.undo(), -1);
    due("no image", x.back(), -1);
    PlatePiles twin = Check.of(BUSY);
    x = busy();
    x.text(0);
    Check.tell(x, BUSY);
    due("as a new one", trace(x).equals(trace(twin)), true);

    String[] small = {"", "maid z 1;pile z;", "maid z 1;pile z;plate z 4 0;turn z z 1 0;"};
    for (String text : small) {
      PlatePiles fresh = Check.of(text);
      x = Check.of(BUSY);
      for (int i = 0; i < 2; i++) {
        Check.tell(x, fullText());
        x.go(10);
        x.crack(3, 4);
        x.see(1, 0, 1, true);
        Check.tell(x, BUSY);
        x.go(10);
      }
      Check.tell(x, text);
      int piles = fresh.count(1);
      due("no place of a pile told before", x.crack(piles, 0), false);
      due("no place of the last one told before", x.crack(3, 4), false);
      due("chip as told now", x.holds(1, 1), 1);
      due("as a new one that is told '" + text + "'", trace(x).equals(trace(fresh)), true);
    }
    PlatePiles seeds = Check.of("seed 99999;chip 50;");
    Check.tell(seeds, "seed 99999;chip 50;");
    String coins = "maid m 1;" + pile("p", "1") + pile("q", "1") + pile("r", "1") + pile("s", "1") + "turn m p 1 0;turn m q 1 0;turn m r 1 0;"
        + "turn m s 1 0;law crack 10;";
    Check.tell(seeds, coins);
    seeds.go(1);
    for (int i = 0; i < 4; i++) {
      due("numbers from 0 on, not from a seed told before, " + i, seeds.plate(i, 0, 3), number(0, i + 1) % 100 < 10 ? 1 : 0);
    }

    of("Promise 3", "how many LINES;");
    due("none", Check.tell(new PlatePiles(), ""), 0);
    due("one", Check.tell(new PlatePiles(), "pile p;"), 1);
    due("47", Check.tell(new PlatePiles(), fullText()), 47);
    due("no others", Check.tell(new PlatePiles(), "chip 1\n;"), 1);
  }

  private static void refusedText() {
    of("Promise 3", "NONE with a FAULT, all stays;");
    PlatePiles x = doneAndSeen();
    PlatePiles y = doneAndSeen();
    due("a fault", Check.tell(x, "maid z 1;pile z;plate z 1 0;chip 50;seed 3;law heed 0;turn z z 1 0"), -1);
    due("its fault", x.fault(0), 1);
    due("its place", x.fault(1), 66);
    List<Long> after = trace(x);
    List<Long> without = trace(y);
    due("all stays but the fault", after.subList(2, after.size()).equals(without.subList(2, without.size())), true);
    x = Check.of(BUSY);
    y = Check.of(BUSY);
    due("a fault of the last sign", Check.tell(x, fullText() + ";"), -1);
    due("its place", x.fault(1), fullText().length());
    due("a fault of the first", Check.tell(y, ";"), -1);
    for (int what = 0; what <= 15; what++) {
      due("count " + what, x.count(what), y.count(what));
    }
    due("a law", x.law(0, 0, 0, 2), y.law(0, 0, 0, 2));
    due("chip", x.holds(1, 0), 7);
    due("a name", x.named(0, 1 << 25), -1);
    due("a name", x.named(0, 13 << 25), 0);
    x.go(5);
    y.go(5);
    due("chipped by the seed told", x.count(9), y.count(9));
    due("tired", x.count(11), y.count(11));

    of("Promise 3", "-2, and the TAPE stays: there are not so many, n is below 0.");
    PlatePiles empty = new PlatePiles();
    due("1 of none", empty.text(1), -2);
    due("-1 of none", empty.text(-1), -2);
    due("the most of none", empty.text(MOST), -2);
    due("0 of none", empty.text(0), 0);
    for (int n : new int[] {21, 700, 701, MOST, -1, -20, LOWEST}) {
      refused("text of " + n, z -> z.text(n), -2);
    }
    x = fed(1);
    due("21 of 20", x.text(21), -2);
    due("it stays", x.feed(0x20202020, 0x20202020, 0x20202020, 0x20202020, 0x20202020), 40);
    due("41 of 40", x.text(41), -2);
    due("40 of 40", x.text(40), 0);
  }

  private static void faults() {
    of("Promise 4", "Of the latest text() that was not -2, what 0: its FAULT (0), 1: its place (NONE without).");
    PlatePiles x = new PlatePiles();
    due("none yet", x.fault(0), 0);
    due("no place yet", x.fault(1), -1);
    due("-2", x.text(1), -2);
    due("still none", x.fault(0), 0);
    due("still no place", x.fault(1), -1);
    String[] texts = {";", "maid m 10;", "pile p;pile p;", "plate p 1 0;"};
    int[] places = {0, 7, 12, 6};
    for (int i = 0; i < texts.length; i++) {
      due("answer to " + texts[i], Check.tell(x, texts[i]), -1);
      due("fault of " + texts[i], x.fault(0), i + 1);
      due("place of " + texts[i], x.fault(1), places[i]);
      due("-2", x.text(1), -2);
      due("-2", x.text(-1), -2);
      due("fault of " + texts[i] + " behind -2", x.fault(0), i + 1);
      due("place of " + texts[i] + " behind -2", x.fault(1), places[i]);
    }
    due("a good one", x.text(0), 0);
    due("without fault", x.fault(0), 0);
    due("without place", x.fault(1), -1);
    String[] broken = {"law heed ((((((((1", "law heed not not (1+2*(3 and", "chip 1;seed 1;law crack 1;law heed 1;law effort 1", "maid m 1;pile p;pile"};
    String[] whole = {"law heed ((((((((1))))))));", "law heed 1;chip 1;", "chip 1;seed 1;law crack 1;law heed 1;law effort 1;", "maid m 1;pile p;"};
    for (String bad : broken) {
      for (String good : whole) {
        due("answer to " + bad, Check.tell(x, bad), -1);
        due("fault of " + bad, x.fault(0), 1);
        due("place of " + bad, x.fault(1), bad.length());
        due("answer to " + good + " behind it", Check.tell(x, good) > 0, true);
        due("no fault of " + good, x.fault(0), 0);
      }
      due("a part of an E in " + bad, Check.tell(x, "law heed not 1 or not (not"), -1);
      due("an E behind it", Check.tell(x, "maid m 1;pile p;law heed 5;"), 3);
      due("its value", x.law(2, 0, 0, 1), 5);
      due("its knots", x.count(4), 1);
      due("another part", Check.tell(x, "law heed not x"), -1);
      due("an E behind it", Check.tell(x, "maid m 1;pile p;law heed 6;"), 3);
      due("its value", x.law(2, 0, 0, 1), 6);
    }

    of("Promise 4", "NONE for another what.");
    for (int what : new int[] {-1, 2, 3, LOWEST, MOST}) {
      due("what " + what, x.fault(what), -1);
      refused("what " + what, y -> y.fault(what), -1);
    }
  }

  private static void names() {
    of("Promise 5", "The number of a MAID (what 0), PILE (1) by its letters, 5 bits each (a is 1; the first one highest of six, "
        + "0 behind the last one);");
    PlatePiles x = Check.of("maid a 1;maid z 1;maid aaaaaa 1;maid zzzzzz 1;pile z;pile zy;pile zyxwvu;pile a;");
    due("maid a", x.named(0, 1 << 25), 0);
    due("maid z", x.named(0, 26 << 25), 1);
    due("maid aaaaaa", x.named(0, 0x02108421), 2);
    due("maid zzzzzz", x.named(0, 0x35ad6b5a), 3);
    due("pile z", x.named(1, 26 << 25), 0);
    due("pile zy", x.named(1, 26 << 25 | 25 << 20), 1);
    due("pile zyxwvu", x.named(1, 26 << 25 | 25 << 20 | 24 << 15 | 23 << 10 | 22 << 5 | 21), 2);
    due("pile a", x.named(1, 1 << 25), 3);

    of("Promise 5", "NONE: there is none such.");
    due("a at the end", x.named(0, 1), -1);
    due("a with 0 ahead", x.named(0, 1 << 20), -1);
    due("aa", x.named(0, 1 << 25 | 1 << 20), -1);
    due("no letters", x.named(0, 0), -1);
    due("no letters", x.named(1, 0), -1);
    due("a pile's", x.named(0, 26 << 25 | 25 << 20), -1);
    due("a maid's", x.named(1, 0x02108421), -1);
    due("with a 31st bit", x.named(0, 1 << 25 | 1 << 30), -1);
    due("with a 32nd bit", x.named(0, 1 << 25 | LOWEST), -1);
    due("27 is no letter", x.named(0, 27 << 25), -1);
    due("0 behind, then more", x.named(0, 1 << 25 | 1), -1);
    due("the lowest", x.named(0, LOWEST), -1);
    due("the most", x.named(0, MOST), -1);
    due("-1", x.named(0, -1), -1);
    due("what 2", x.named(2, 1 << 25), -1);
    due("what -1", x.named(-1, 1 << 25), -1);
    due("what lowest", x.named(LOWEST, 1 << 25), -1);
    due("what most", x.named(MOST, 1 << 25), -1);
    due("none told", new PlatePiles().named(0, 1 << 25), -1);
    PlatePiles fewer = Check.of("maid a 1;maid b 1;pile a;pile b;");
    Check.tell(fewer, "maid a 1;pile a;");
    due("told before, no more", fewer.named(0, 2 << 25), -1);
    due("told before, no more", fewer.named(1, 2 << 25), -1);
    refused("no such name", y -> y.named(0, 26 << 25), -1);
  }
}
