/** The boundary cases of the Terms' second part (piles, minutes, values, numbers) and of promises 6 to 15. */
final class SculleryBounds extends Bounds {
  static void all() {
    turned();
    rightAndProper();
    gaps();
    idle();
    tired();
    chipped();
    namesOfLaws();
    values();
    numbers();
    asItGoes();
    looking();
    laws();
    turning();
    moving();
    cracking();
    going();
    goingAhead();
    rightWhen();
  }

  // ---- Terms 2 ----

  private static void turned() {
    of("Terms 2, promises 10, 13", "TURNED by DEPTH: its first PLATES, so many, lie the other way round, and each has its other FACE.");
    PlatePiles x = piles("1 2' 3 4' 5");
    x.turn(0, 1);
    row("by 1: its face alone", x, 0, "1' 2' 3 4' 5");
    x.turn(0, 2);
    row("by 2", x, 0, "2 1 3 4' 5");
    x.turn(0, 4);
    row("by 4", x, 0, "4 3' 1' 2' 5");
    x.turn(0, 5);
    row("by all", x, 0, "5' 2 1 3 4'");
    x.turn(0, 5);
    row("by all again", x, 0, "4 3' 1' 2' 5");
    PlatePiles one = piles("7");
    one.turn(0, 1);
    row("one", one, 0, "7'");
  }

  private static void rightAndProper() {
    of("Terms 2, promise 6", "RIGHT: SIZES are each less than the next one down;");
    PlatePiles x = piles("", "9'", "1 2'", "2 1");
    int[] right = {1, 1, 1, 0};
    PlatePiles five = piles("1 2 3 4 99", "1 2 3 99 4", "2 1 3 4 5", "1' 2' 3' 98' 99'");
    int[] rightFive = {1, 0, 0, 1};
    for (int pile = 0; pile < 4; pile++) {
      due("up to two, pile " + pile, x.pile(pile, 1), right[pile]);
      due("five, pile " + pile, five.pile(pile, 1), rightFive[pile]);
    }

    of("Terms 2, promise 6", "PROPER: RIGHT, and all FACES up.");
    PlatePiles y = piles("", "9", "9'", "2 1");
    int[] proper = {1, 1, 0, 0};
    PlatePiles fives = piles("1 2 3 4 5", "1' 2 3 4 5", "1 2 3 4 5'", "2 1 3 4 5");
    int[] properFive = {1, 0, 0, 0};
    for (int pile = 0; pile < 4; pile++) {
      due("up to two, pile " + pile, y.pile(pile, 2), proper[pile]);
      due("five, pile " + pile, fives.pile(pile, 2), properFive[pile]);
    }
  }

  private static void gaps() {
    of("Terms 2, promise 6", "(above it or below);");
    PlatePiles x = piles("1 2 3", "3 2 1", "2 1 3", "1 3 2");
    due("each above its next greater", x.pile(0, 3), 0);
    due("each below it: only the greatest", x.pile(1, 3), 1);
    due("2 isn't next to 3", x.pile(2, 3), 1);
    due("1 isn't next to 2, 3 isn't lowest", x.pile(3, 3), 2);
    PlatePiles far = piles("10 90 50", "10 50 90");
    due("next greater of those in the pile", far.pile(0, 3), 2);
    due("next greater of those in the pile", far.pile(1, 3), 0);

    of("Terms 2, promise 6", "the greatest one, if it isn't the lowest of all (none of a PILE of one, of none).");
    PlatePiles y = piles("", "7", "7 8", "8 7");
    int[] gaps = {0, 0, 0, 1};
    for (int pile = 0; pile < 4; pile++) {
      due("pile " + pile, y.pile(pile, 3), gaps[pile]);
    }
    due("all five", piles("3 1 5 2 4").pile(0, 3), 5);
    due("none of five", piles("1 2 3 4 5").pile(0, 3), 0);
    due("faces don't matter", piles("1' 2 3' 4 5'").pile(0, 3), 0);
  }

  private static PlatePiles gone(int minutes, String text) {
    PlatePiles x = Check.of(text);
    x.go(minutes);
    return x;
  }

  private static final String TWO = "maid m 7;pile p;plate p 1 0;plate p 2 0;";

  private static int idleBy(String rest) {
    return gone(1, TWO + rest).count(10);
  }

  private static void idle() {
    of("Terms 2, promise 13", "its TURNS, by their numbers:");
    row("by 2, by 1", gone(1, TWO + "turn m p 2 0;turn m p 1 0;"), 0, "2 1'");
    row("by 1, by 2", gone(1, TWO + "turn m p 1 0;turn m p 2 0;"), 0, "2' 1");
    row("of this minute alone", gone(1, TWO + "turn m p 1 1;turn m p 2 0;"), 0, "2' 1'");
    row("of none", gone(1, TWO), 0, "1 2");

    of("Terms 2, promise 13", "if E of heed is 0 (1 without, with an ERROR)");
    due("0", idleBy("turn m p 1 0;law heed 0;"), 1);
    due("1", idleBy("turn m p 1 0;law heed 1;"), 0);
    due("-1", idleBy("turn m p 1 0;law heed 0-1;"), 0);
    due("9999", idleBy("turn m p 1 0;law heed 9999;"), 0);
    due("without", idleBy("turn m p 1 0;"), 0);
    due("with an error", idleBy("turn m p 1 0;law heed 0/0;"), 0);
    due("1 / 2 is 0", idleBy("turn m p 1 0;law heed 1/2;"), 1);

    of("Terms 2, promise 13", "or the DEPTH is more than the PILE is HIGH,");
    due("as high", idleBy("turn m p 2 0;"), 0);
    due("one more", idleBy("turn m p 3 0;"), 1);
    due("5", idleBy("turn m p 5 0;"), 1);
    due("1 of none", gone(1, "maid m 1;pile p;turn m p 1 0;").count(10), 1);
    PlatePiles five = gone(1, "maid m 1;" + pile("p", "1 2 3 4 5") + "turn m p 5 0;");
    due("5 of 5", five.count(10), 0);
    row("5 of 5", five, 0, "5' 4' 3' 2' 1'");
    PlatePiles more = Check.of(TWO + "turn m p 3 0;turn m p 3 1;pile q;plate q 9 0;");
    more.go(1);
    due("not yet so high", more.count(10), 1);
    more.move(1, 0);
    more.go(1);
    due("so high by then", more.count(10), 1);
    row("turned then", more, 0, "2' 1' 9'");

    of("Terms 2, promise 13", "it is IDLE (once);");
    PlatePiles once = gone(1, TWO + "turn m p 3 0;law heed 0;law effort 5;chip 100;");
    due("by both", once.count(10), 1);
    due("not turned", once.pile(0, 4), 0);
    due("not tired", once.maid(0, 1), 0);
    due("not chipped", once.count(9), 0);
    due("each turn by itself", idleBy("turn m p 3 0;turn m p 4 0;turn m p 3 1;"), 2);
    row("not turned", once, 0, "1 2");
    due("fourteen", gone(1, "maid m 1;pile p;" + times(14, "turn m p 1 0;")).count(10), 14);
    PlatePiles no = Check.of(TWO + "turn m p 1 0;turn m p 1 1;law heed 0;law crack 50;seed 1;");
    no.go(1);
    due("no number for it", no.chance(0, 1, 0), 10);

    of("Terms 2, promise 13", "Then it is the next MINUTE.");
    due("1", gone(1, TWO).count(5), 1);
    due("minute in a law", gone(3, TWO + "turn m p 1 2;law effort minute*100;").maid(0, 1), 200);
    due("in the text's first", gone(3, TWO + "turn m p 1 0;law effort minute*100+1;").maid(0, 1), 1);
  }

  private static int tiredBy(String rest) {
    return gone(1, TWO + rest).maid(0, 1);
  }

  private static void tired() {
    of("Terms 2, promises 8, 13", "the MAID is TIRED by E of effort (0 .. 999; DEPTH without, with an ERROR) more,");
    due("below 0", tiredBy("turn m p 2 0;law effort 0-1;"), 0);
    due("far below 0", tiredBy("turn m p 2 0;law effort 0-9999*9999*9999;"), 0);
    due("0", tiredBy("turn m p 2 0;law effort 0;"), 0);
    due("999", tiredBy("turn m p 2 0;law effort 999;"), 999);
    due("1000", tiredBy("turn m p 2 0;law effort 1000;"), 999);
    due("more than an int holds", tiredBy("turn m p 2 0;law effort 8192*8192*64;"), 999);
    due("without", tiredBy("turn m p 2 0;"), 2);
    due("without, by 1", tiredBy("turn m p 1 0;"), 1);
    due("with an error", tiredBy("turn m p 2 0;law effort 1/0;"), 2);
    due("with an error of the 13th digit", tiredBy("turn m p 2 0;law effort 1000*1000*1000*1000+1;"), 2);
    due("more and more", tiredBy("turn m p 2 0;turn m p 1 0;turn m p 2 0;"), 5);
    due("idle ones aren't", tiredBy("turn m p 3 0;law effort 9;"), 0);

    of("Terms 2, promises 8, 13", "99999 at most,");
    // Fourteen turns by 999 are the most that a text can tell, so no maid ever comes so far.
    due("the most that can come", tiredBy(times(14, "turn m p 1 0;") + "law effort 999;"), 13986);
  }

  private static int chippedBy(String rest) {
    return gone(1, TWO + "turn m p 2 0;" + rest).count(9);
  }

  /** The first seed of which the first two numbers modulo 100 lie so. */
  private static int seed(int firstFrom, int firstTo, int secondFrom, int secondTo) {
    for (int seed = 0; seed < 99999; seed++) {
      long first = number(seed, 1) % 100;
      long second = number(seed, 2) % 100;
      if (first >= firstFrom && first <= firstTo && second >= secondFrom && second <= secondTo) {
        return seed;
      }
    }
    throw new IllegalStateException("no such seed");
  }

  private static void chipped() {
    of("Terms 2, promise 13", "if a number modulo 100 (no number, if E is 0 or 100) is below E of crack");
    int zero = seed(0, 0, 0, 99);
    int most = seed(99, 99, 0, 99);
    int middle = seed(37, 37, 0, 99);
    due("0 is below 1", chippedBy("law crack 1;seed " + zero + ";"), 1);
    due("0 isn't below 0", chippedBy("law crack 0;seed " + zero + ";"), 0);
    due("99 isn't below 99", chippedBy("law crack 99;seed " + most + ";"), 0);
    due("99 and 100", chippedBy("law crack 100;seed " + most + ";"), 1);
    due("37 isn't below 37", chippedBy("law crack 37;seed " + middle + ";"), 0);
    due("37 is below 38", chippedBy("law crack 38;seed " + middle + ";"), 1);
    // If a number were drawn in minute 0, the second one would be looked at in minute 1.
    int drawn = seed(0, 49, 50, 99);
    for (String none : new String[] {"0", "100", "(0-1)", "101", "9999"}) {
      String law = "law crack (minute=0)*" + none + "+(minute=1)*50;";
      PlatePiles x = gone(2, TWO + "turn m p 2 0;turn m p 2 1;" + law + "seed " + drawn + ";");
      due("no number, E is " + none + ", then the first one", x.plate(0, 0, 3), 1);
    }
    for (String one : new String[] {"1", "99"}) {
      String law = "law crack (minute=0)*" + one + "+(minute=1)*50;";
      PlatePiles x = gone(2, TWO + "turn m p 2 0;turn m p 2 1;" + law + "seed " + drawn + ";");
      due("a number, E is " + one + ", then the second one", x.plate(0, 0, 3), 0);
    }
    PlatePiles idle = gone(2, TWO + "turn m p 3 0;turn m p 2 1;law crack 50;seed " + drawn + ";");
    due("no number for what is idle", idle.plate(0, 0, 3), 1);

    of("Terms 2, promise 13", "(behind that, tired with this effort; 0 .. 100; chip without, with an ERROR),");
    due("tired with this effort", chippedBy("law effort 7;law crack 100*(tired=7);"), 1);
    due("below 0", chippedBy("law crack 0-1;chip 100;"), 0);
    due("far below 0", chippedBy("law crack 0-9999*9999*9999;chip 100;"), 0);
    due("above 100", chippedBy("law crack 101;seed " + most + ";"), 1);
    due("more than an int holds", chippedBy("law crack 8192*8192*64;seed " + most + ";"), 1);
    due("chip without", chippedBy("chip 100;"), 1);
    due("chip with an error", chippedBy("law crack 1/0;chip 100;"), 1);
    due("no chip with an error", chippedBy("law crack 1/0;"), 0);
    due("the law, not chip", chippedBy("law crack 0;chip 100;"), 0);

    of("Terms 2, promise 13", "the PLATE now on top is CHIPPED (if it is already, it stays so).");
    PlatePiles top = gone(1, TWO + "turn m p 2 0;chip 100;");
    due("2, now on top", top.plate(0, 0, 3), 1);
    due("not 1", top.plate(0, 1, 3), 0);
    PlatePiles again = gone(2, TWO + "turn m p 1 0;turn m p 1 1;law crack (minute=0)*100;");
    due("stays so, E is 0", again.count(9), 1);
    due("stays so, E is 100", gone(2, TWO + "turn m p 1 0;turn m p 1 1;chip 100;").count(9), 1);
    PlatePiles byCall = Check.of(TWO + "turn m p 1 0;chip 100;");
    byCall.crack(0, 0);
    byCall.go(1);
    due("chipped by call, stays so", byCall.count(9), 1);
  }

  private static void namesOfLaws() {
    of("Terms 2, promise 9", "NAMES: size: SIZE of the PLATE at that DEPTH (of crack of the one now on top; 0, if there is none so deep);");
    PlatePiles x = Check.of("maid m 1;pile p;pile q;" + "plate p 9 0;plate p 4 0;law effort size;law crack size;law heed size;");
    int[] sizes = {9, 4, 0, 0, 0};
    for (int depth = 1; depth <= 5; depth++) {
      due("effort by " + depth, x.law(0, 0, 0, depth), sizes[depth - 1]);
      due("heed by " + depth, x.law(2, 0, 0, depth), sizes[depth - 1]);
      due("crack by " + depth, x.law(1, 0, 0, depth), 9);
      due("effort of none by " + depth, x.law(0, 0, 1, depth), 0);
      due("crack of none by " + depth, x.law(1, 0, 1, depth), 0);
    }
    due("the fifth", Check.of("maid m 1;" + pile("p", "1 2 3 4 99") + "law heed size;").law(2, 0, 0, 5), 99);
    due("of a turn: at its depth, ahead of turning", tiredBy("turn m p 2 0;law effort size*10;"), 20);
    due("of a turn: now on top", chippedBy("law crack (size=2)*100;"), 1);

    of("Terms 2, promises 9, 13", "all as they are by then (of heed, effort ahead of turning).");
    String base = "maid m 1;pile p;plate p 2 0;plate p 1 0;";
    due("gaps ahead of turning", gone(1, base + "turn m p 2 0;law effort gaps*10;").maid(0, 1), 10);
    due("gaps behind turning", gone(1, base + "turn m p 2 0;law crack (gaps=0)*100;").count(9), 1);
    due("heeded ahead of turning", gone(1, base + "turn m p 2 0;law heed gaps=1;").pile(0, 4), 1);
    due("heeded by the turn ahead", gone(1, base + "turn m p 2 0;turn m p 2 0;law heed gaps=1;").pile(0, 4), 1);
    due("effort ahead of its effort", gone(1, base + "turn m p 2 0;law effort 5+tired;").maid(0, 1), 5);
    due("tired by the one ahead", gone(1, base + "turn m p 2 0;turn m p 1 0;law effort 5+tired;").maid(0, 1), 15);
    due("of that maid", gone(1, "maid n 8;" + base + "turn n p 2 0;turn m p 2 0;law effort 5+tired;").maid(1, 1), 5);
    due("skill of that maid", gone(1, "maid n 8;" + base + "turn n p 2 0;law effort skill;").maid(0, 1), 8);
    due("high of that pile", gone(1, "pile q;" + base + "turn m p 1 0;law effort high;").maid(0, 1), 2);
  }

  private static void values() {
    of("Terms 2, promise 9", "comparisons, and, or, not are 1 or 0 (what isn't 0 is as 1, both sides are worked out),");
    value("2<3", 1);
    value("3<3", 0);
    value("3<=3", 1);
    value("4<=3", 0);
    value("3=3", 1);
    value("3=4", 0);
    value("3<>4", 1);
    value("4<>3", 1);
    value("4<3", 0);
    value("3>4", 0);
    value("3>=4", 0);
    value("2<=3", 1);
    value("4>=3", 1);
    value("3<>3", 0);
    value("3>=3", 1);
    value("2>=3", 0);
    value("4>3", 1);
    value("3>3", 0);
    value("7 and 9", 1);
    value("0-7 and 9", 1);
    value("7 and 0", 0);
    value("0 and 7", 0);
    value("0 or 7", 1);
    value("7 or 0", 1);
    value("0-7 or 0", 1);
    value("0 or 0", 0);
    value("not 7", 0);
    value("not (0-7)", 0);
    value("not 0", 1);
    value("0 and 1/0", NO_LAW);
    value("1/0 and 0", NO_LAW);
    value("1 or 1/0", NO_LAW);
    value("1/0 or 1", NO_LAW);
    value("0*(1/0)", NO_LAW);
    value("not 1/0", NO_LAW);
    value("1/0=1/0", NO_LAW);

    of("Terms 2, promise 9", "/ is cut towards 0;");
    value("7/2", 3);
    value("(0-7)/2", -3);
    value("7/(0-2)", -3);
    value("(0-7)/(0-2)", 3);
    value("1/2", 0);
    value("(0-1)/2", 0);
    value("0/5", 0);
    value("9999/9999", 1);
    value("7-7/2*2", 1);

    of("Terms 2, promise 9", "ERROR: / by 0,");
    value("1/0", NO_LAW);
    value("0/0", NO_LAW);
    value("1/(size-4)", NO_LAW);
    value("1/(size-3)", 1);
    value("1/(1/2)", NO_LAW);
    value("1/(2<1)", NO_LAW);

    of("Terms 2, promise 9", "VALUES are longs;");
    value("8192*8192*64", 4294967296L);
    value("8192*8192*32", 2147483648L);
    value("0-8192*8192*32-1", -2147483649L);

    of("Terms 2, promise 9", "a value above 10 to the 12 or below 0 by more than that.");
    String most = "1000*1000*1000*1000";
    value(most, 1000000000000L);
    value(most + "+0", 1000000000000L);
    value(most + "+1", NO_LAW);
    value(most + "+1-1", NO_LAW);
    value(most + "-1", 999999999999L);
    value("0-" + most, -1000000000000L);
    value("0-" + most + "+0", -1000000000000L);
    value("0-" + most + "-1", NO_LAW);
    value(most + "*1", 1000000000000L);
    value(most + "*(0-1)", -1000000000000L);
    value("(0-" + most + ")*(0-1)", 1000000000000L);
    value("(0-" + most + ")/(0-1)", 1000000000000L);
    value(most + "*0", 0);
    value("0*(" + most + ")", 0);
    value(most + "*2", NO_LAW);
    value(most + "*2*0", NO_LAW);
    value("(0-" + most + ")*2", NO_LAW);
    value("2*(" + most + ")", NO_LAW);
    value("2*(0-" + most + ")", NO_LAW);
    value("(" + most + ")*(" + most + ")", NO_LAW);
    // 2 to the 64 and 2 to the 63 wrap around in a long, to 0 and to below 0.
    value("8192*8192*64*(8192*8192*64)", NO_LAW);
    value("8192*8192*64*(8192*8192*32)", NO_LAW);
    value("8192*8192*64*(8192*8192*64+1)", NO_LAW);
    value("9999*9999*9999", 999700029999L);
    value("9999*9999*9999*2", NO_LAW);
    value("1000*1000*(1000*1000)", 1000000000000L);
    value("(1000*1000+1)*(1000*1000)", NO_LAW);
    value("(1000*1000+1)*(1000*1000-1)", 999999999999L);
  }

  private static void numbers() {
    of("Terms 2, promises 13, 32", "Numbers are the last one (at first the seed) times 1103515245 and 12345, without what is above 31 bits, by 65536.");
    for (int seed : new int[] {0, 1, 3, 99998, 99999}) {
      StringBuilder text = new StringBuilder("maid m 1;");
      for (char c = 'a'; c <= 'd'; c++) {
        text.append("pile ").append(c).append(';');
        for (int size = 1; size <= 3; size++) {
          text.append("plate ").append(c).append(' ').append(size).append(" 0;");
        }
      }
      for (int i = 0; i < 12; i++) {
        text.append("turn m ").append((char) ('a' + i % 4)).append(" 3 ").append(i / 4).append(';');
      }
      PlatePiles x = Check.of(text + "law crack 50;seed " + seed + ";");
      int chipped = 0;
      boolean[] is = new boolean[12];
      for (int i = 0; i < 12; i++) {
        int plate = i % 4 * 3 + (i / 4 % 2 == 0 ? 2 : 0);
        is[plate] |= number(seed, i + 1) % 100 < 50;
      }
      for (boolean b : is) {
        chipped += b ? 1 : 0;
      }
      x.go(3);
      due("twelve numbers of seed " + seed, x.count(9), chipped);
    }
    // The fewest and the most of 31 bits.
    for (int seed : new int[] {0, MOST, MOST - 1, 1 << 30}) {
      for (int odds : new int[] {1, 50, 99}) {
        PlatePiles x = Check.of("maid m 1;pile p;plate p 1 0;turn m p 1 0;law crack " + odds + ";");
        int times = 0;
        for (int i = 1; i <= 10; i++) {
          times += number(seed, i) % 100 < odds ? 1 : 0;
        }
        due("ten numbers from " + seed + " below " + odds, x.chance(seed, 1, 1), times);
      }
    }
  }

  private static void asItGoes() {
    of("Terms 2, promise 14", "AS IT GOES: without numbers: a PLATE is CHIPPED, if E of crack is 50 at least.");
    String text = TWO + "turn m p 2 0;";
    due("49", Check.of(text + "law crack 49;").ahead(1, 3, 0), 0);
    due("50", Check.of(text + "law crack 50;").ahead(1, 3, 0), 1);
    due("0", Check.of(text + "law crack 0;").ahead(1, 3, 0), 0);
    due("-9999", Check.of(text + "law crack 0-9999;").ahead(1, 3, 0), 0);
    due("100", Check.of(text + "law crack 100;").ahead(1, 3, 0), 1);
    due("9999", Check.of(text + "law crack 9999;").ahead(1, 3, 0), 1);
    due("chip 49", Check.of(text + "chip 49;").ahead(1, 3, 0), 0);
    due("chip 50", Check.of(text + "chip 50;").ahead(1, 3, 0), 1);
    due("chip 50 with an error", Check.of(text + "chip 50;law crack 1/0;").ahead(1, 3, 0), 1);
    int drawn = seed(0, 49, 50, 99);
    PlatePiles x = Check.of(text + "law crack 50;seed " + drawn + ";");
    x.ahead(200, 3, 0);
    x.go(1);
    due("no number was drawn", x.count(9), 1);
  }

  // ---- promises 6 to 8 ----

  private static void looking() {
    of("Promise 6", "Of a PILE now, what 0 HIGH, 1 whether RIGHT, 2 PROPER (1, 0), 3 GAPS, 4 how often it was TURNED, by call, too.");
    PlatePiles x = Check.of("maid m 1;" + pile("p", "") + pile("q", "5 4 3 2 1") + "turn m q 5 0;turn m q 5 1;turn m q 5 2;");
    int[] none = {0, 1, 1, 0, 0};
    int[] five = {5, 0, 0, 1, 0};
    for (int what = 0; what <= 4; what++) {
      due("of none, what " + what, x.pile(0, what), none[what]);
      due("of five, what " + what, x.pile(1, what), five[what]);
    }
    x.go(1);
    x.turn(1, 1);
    due("turned by a turn and by call", x.pile(1, 4), 2);
    x.turn(1, 6);
    due("not by a refused one", x.pile(1, 4), 2);
    due("the other one never", x.pile(0, 4), 0);

    of("Promise 6", "IndexOutOfBoundsException: no such PILE.");
    PlatePiles four = piles("1", "1", "1", "1");
    due("the last one of four", four.pile(3, 0), 1);
    for (int pile : new int[] {4, 5, MOST, -1, LOWEST}) {
      for (int what : new int[] {0, 4, 5, -1}) {
        thrown("pile " + pile + ", what " + what, four, pile, what, 1);
      }
    }
    thrown("the first of none", new PlatePiles(), 0, 0, 1);
    thrown("the second of one", piles("1"), 1, 0, 1);
    refused("no such pile", y -> Check.thrownByPile(y, 4, 0), 1);

    of("Promise 6", "NoSuchElementException: no such what.");
    for (int what : new int[] {5, 6, MOST, -1, LOWEST}) {
      thrown("what " + what, four, 0, what, 2);
      thrown("what " + what, four, 3, what, 2);
      refused("what " + what, y -> Check.thrownByPile(y, 0, what), 2);
    }
    thrown("what 0", four, 0, 0, 0);
    thrown("what 4", four, 0, 4, 0);

    of("Promise 7", "Of the PLATE at a place (0: the top) of a PILE now, what 0 its number, 1 SIZE, 2 FACE, 3 whether CHIPPED (1, 0).");
    PlatePiles plates = piles("1 2 3 4 99'", "7'");
    int[] top = {0, 1, 0, 0};
    int[] lowest = {4, 99, 1, 0};
    for (int what = 0; what <= 3; what++) {
      due("the top, what " + what, plates.plate(0, 0, what), top[what]);
      due("the lowest, what " + what, plates.plate(0, 4, what), lowest[what]);
    }
    plates.crack(0, 4);
    due("chipped", plates.plate(0, 4, 3), 1);

    of("Promise 7", "-2: there is none there;");
    for (int what = 0; what <= 3; what++) {
      due("below the only one", plates.plate(1, 1, what), -2);
      due("place 4 of one", plates.plate(1, 4, what), -2);
      due("the top of none", piles("").plate(0, 0, what), -2);
      due("place 4 of four", piles("1 2 3 4").plate(0, 4, what), -2);
    }
    refused("none there", y -> y.plate(3, 0, 0), -2);

    of("Promise 7", "NONE: no such ones, a place not 0 .. 4.");
    for (int place : new int[] {5, 6, MOST, -1, LOWEST}) {
      due("place " + place, plates.plate(0, place, 0), -1);
      due("place " + place, plates.plate(1, place, 0), -1);
      refused("place " + place, y -> y.plate(0, place, 0), -1);
    }
    for (int pile : new int[] {2, 4, MOST, -1, LOWEST}) {
      due("pile " + pile, plates.plate(pile, 0, 0), -1);
    }
    for (int what : new int[] {4, 5, MOST, -1, LOWEST}) {
      due("what " + what, plates.plate(0, 0, what), -1);
    }
    due("new", new PlatePiles().plate(0, 0, 0), -1);

    of("Promise 8", "Of a MAID now, what 0 SKILL, 1 TIRED. NONE: no such ones.");
    PlatePiles maids = Check.of("maid a 0;maid b 1;maid c 2;maid d 9;pile p;plate p 1 0;turn d p 1 0;law effort 999;");
    due("the first", maids.maid(0, 0), 0);
    due("the last", maids.maid(3, 0), 9);
    due("not tired", maids.maid(3, 1), 0);
    maids.go(1);
    due("tired", maids.maid(3, 1), 999);
    for (int maid : new int[] {4, MOST, -1, LOWEST}) {
      due("maid " + maid, maids.maid(maid, 0), -1);
      refused("maid " + maid, y -> y.maid(maid, 1), -1);
    }
    for (int what : new int[] {2, MOST, -1, LOWEST}) {
      due("what " + what, maids.maid(0, what), -1);
    }
    due("the first of none", new PlatePiles().maid(0, 0), -1);
    due("the second of one", Check.of("maid m 1;").maid(1, 0), -1);
  }

  // ---- promise 9 ----

  private static void laws() {
    of("Promise 9", "A law's E now of a MAID who would turn a PILE by a DEPTH 1 .. 5");
    PlatePiles x = Check.of("maid m 3;maid n 4;pile p;pile q;plate p 9 0;plate p 8 0;law effort depth*10+high;law crack size*10+depth;"
        + "law heed skill*100+tired*10+minute;turn n p 2 0;");
    due("by 1", x.law(0, 0, 0, 1), 12);
    due("by 5, however high", x.law(0, 0, 0, 5), 52);
    due("of none", x.law(0, 0, 1, 5), 50);
    due("heed of m", x.law(2, 0, 0, 1), 300);
    x.go(1);
    due("heed of n now, tired by 22", x.law(2, 1, 0, 1), 621);
    due("heed of m now", x.law(2, 0, 0, 1), 301);

    of("Promise 9", "1 crack, by the PLATE on top and all as it is now, size 0 if it is empty,");
    due("the plate on top", x.law(1, 0, 0, 2), 82);
    due("empty", x.law(1, 0, 1, 2), 2);
    x.move(0, 1);
    due("now on top", x.law(1, 0, 1, 1), 81);
    due("what lay below it", x.law(1, 0, 0, 1), 91);
    x.move(0, 1);
    due("empty now", x.law(1, 0, 0, 1), 1);

    of("Promise 9", "Long.MIN_VALUE: an ERROR, no such law, no such ones.");
    PlatePiles y = Check.of("maid m 3;pile p;plate p 1 0;law heed 1/(depth-2);law crack 0-1000*1000*1000*1000;");
    due("no error", y.law(2, 0, 0, 1), -1);
    due("an error", y.law(2, 0, 0, 2), NO_LAW);
    due("the least value is none", y.law(1, 0, 0, 1), -1000000000000L);
    due("not told", y.law(0, 0, 0, 1), NO_LAW);
    for (int n : new int[] {-1, 3, MOST, LOWEST}) {
      due("what " + n, y.law(n, 0, 0, 1), NO_LAW);
    }
    for (int n : new int[] {-1, 1, MOST, LOWEST}) {
      due("maid " + n, y.law(2, n, 0, 1), NO_LAW);
      due("pile " + n, y.law(2, 0, n, 1), NO_LAW);
    }
    for (int n : new int[] {-1, 0, 6, MOST, LOWEST}) {
      due("depth " + n, y.law(2, 0, 0, n), NO_LAW);
      refused("depth " + n, z -> z.law(1, 0, 0, n), NO_LAW);
    }
    due("depth 1", y.law(1, 0, 0, 1), -1000000000000L);
    due("depth 5", y.law(1, 0, 0, 5), -1000000000000L);
    due("new", new PlatePiles().law(0, 0, 0, 1), NO_LAW);
    PlatePiles gone = Check.of("maid m 1;pile p;law heed 5;");
    Check.tell(gone, "maid m 1;pile p;");
    due("no more told", gone.law(2, 0, 0, 1), NO_LAW);
  }

  // ---- promises 10 to 12 ----

  private static void turning() {
    of("Promise 10", "A PILE is TURNED by a DEPTH now (no MAID is TIRED, nothing is CHIPPED): GAPS;");
    PlatePiles x = Check.of("maid m 1;" + pile("p", "1 2 3 4 5") + pile("q", "9") + "chip 100;law effort 9;law heed 0;");
    due("by 1", x.turn(0, 1), 0);
    due("by 5", x.turn(0, 5), 1);
    due("by 2", x.turn(0, 2), 2);
    due("one", x.turn(1, 1), 0);
    due("nobody tired", x.count(11), 0);
    due("nothing chipped", x.count(9), 0);
    due("nothing idle", x.count(10), 0);
    due("no minute", x.count(5), 0);

    of("Promise 10", "NONE: no such PILE, it isn't so HIGH, DEPTH below 1.");
    for (int pile : new int[] {2, 4, MOST, -1, LOWEST}) {
      due("pile " + pile, x.turn(pile, 1), -1);
    }
    due("5 of 5", piles("1 2 3 4 5").turn(0, 5), 1);
    due("6 of 5", piles("1 2 3 4 5").turn(0, 6), -1);
    due("2 of 1", piles("1").turn(0, 2), -1);
    due("1 of none", piles("").turn(0, 1), -1);
    due("0 of none", piles("").turn(0, 0), -1);
    for (int depth : new int[] {0, -1, LOWEST, 4, 6, MOST}) {
      refused("by " + depth + " of three", y -> y.turn(0, depth), -1);
    }
    refused("no such pile", y -> y.turn(4, 1), -1);
    refused("no such pile", y -> y.turn(-1, 1), -1);
    due("new", new PlatePiles().turn(0, 1), -1);
  }

  private static void moving() {
    of("Promise 11", "The PLATE on top of a PILE is put on top of another one, FACE and number as they are: how HIGH that is;");
    PlatePiles x = piles("7' 8", "", "1 2 3 4");
    due("on none", x.move(0, 1), 1);
    row("its face", x, 1, "7'");
    due("its number", x.plate(1, 0, 0), 0);
    due("five high", x.move(1, 2), 5);
    row("on top", x, 2, "7' 1 2 3 4");
    row("none left", x, 1, "");
    due("the last one of a pile", x.move(0, 1), 1);
    due("its number", x.plate(1, 0, 0), 1);
    due("never turned", x.pile(2, 4), 0);

    of("Promise 11", "-2: there is none, that has 5, one of that SIZE;");
    PlatePiles y = piles("", "9", "1 2 3 4 5", "7 8 3 9");
    due("of none", y.move(0, 1), -2);
    due("of none onto five", y.move(0, 2), -2);
    due("onto five", y.move(1, 2), -2);
    due("the lowest is of that size", y.move(1, 3), -2);
    due("onto four", y.move(2, 3), 5);
    due("onto five now", y.move(1, 3), -2);
    due("onto what has four now", y.move(1, 2), 5);
    PlatePiles same = piles("5'", "5 1", "1 5");
    due("the top is of that size", same.move(0, 1), -2);
    due("the one below is", same.move(0, 2), -2);
    refused("there is none", z -> z.move(3, 0), -2);
    refused("one of that size", () -> piles("5'", "1 5"), z -> z.move(0, 1), -2);
    refused("that has five", () -> piles("1 2 3 4 5", "6 7", "9"), z -> z.move(1, 0), -2);

    of("Promise 11", "NONE: no such PILES, alike.");
    for (int pile : new int[] {4, MOST, -1, LOWEST}) {
      due("from " + pile, y.move(pile, 0), -1);
      due("to " + pile, y.move(0, pile), -1);
      due("both " + pile, y.move(pile, pile), -1);
      refused("to " + pile, z -> z.move(0, pile), -1);
    }
    for (int pile = 0; pile < 4; pile++) {
      due("alike " + pile, y.move(pile, pile), -1);
    }
    refused("alike", z -> z.move(0, 0), -1);
    due("the second of one", piles("1").move(0, 1), -1);
    due("new", new PlatePiles().move(0, 1), -1);
  }

  private static void cracking() {
    of("Promise 12", "The PLATE at a place of a PILE is CHIPPED: true; false: there is none, it is.");
    PlatePiles x = piles("1 2 3 4 5", "1", "");
    due("the top", x.crack(0, 0), true);
    due("the lowest", x.crack(0, 4), true);
    due("two", x.count(9), 2);
    due("it is", x.crack(0, 0), false);
    due("it is", x.crack(0, 4), false);
    due("place 5", x.crack(0, 5), false);
    due("below the only one", x.crack(1, 1), false);
    due("the only one", x.crack(1, 0), true);
    due("of none", x.crack(2, 0), false);
    for (int n : new int[] {-1, LOWEST, MOST}) {
      due("place " + n, x.crack(0, n), false);
      due("pile " + n, x.crack(n, 0), false);
      refused("place " + n, y -> y.crack(0, n) ? 1 : 0, 0);
      refused("pile " + n, y -> y.crack(n, 0) ? 1 : 0, 0);
    }
    due("pile 3 of three", x.crack(3, 0), false);
    due("pile 4 of four", piles("1", "1", "1", "1").crack(4, 0), false);
    due("three", x.count(9), 3);
    refused("it is", y -> y.crack(0, 1) ? 1 : 0, 0);
    refused("none there", y -> y.crack(0, 3) ? 1 : 0, 0);
    refused("none there", y -> y.crack(3, 0) ? 1 : 0, 0);
    due("new", new PlatePiles().crack(0, 0), false);
    PlatePiles all = piles("1 2 3 4 5", "1 2 3 4 5", "1 2 3 4 5", "1 2 3 4 5");
    for (int i = 0; i < 20; i++) {
      due("plate " + i, all.crack(i / 5, i % 5), true);
    }
    due("all twenty", all.count(9), 20);
    due("one of them", all.crack(3, 4), false);
  }

  // ---- promises 13 to 15 ----

  private static void going() {
    of("Promise 13", "So many MINUTES (0 .. 200) go by: which one it is;");
    PlatePiles x = Check.of(TWO + "turn m p 1 0;");
    due("0", x.go(0), 0);
    due("nothing is turned", x.pile(0, 4), 0);
    due("1", x.go(1), 1);
    due("turned", x.pile(0, 4), 1);
    due("200", x.go(200), 201);
    due("0", x.go(0), 201);

    of("Promise 13", "NONE, and none does: no such number, behind 9000.");
    for (int n : new int[] {-1, LOWEST, 201, MOST, MOST - 100}) {
      due("go " + n, x.go(n), -1);
      due("none went by", x.count(5), 201);
      refused("go " + n, y -> y.go(n), -1);
    }
    due("8999", late(8999).count(5), 8999);
    due("9000", late(8999).go(1), 9000);
    due("9000 by 200", late(8800).go(200), 9000);
    due("9001 by 200", late(8801).go(200), -1);
    due("9001", late(9000).go(1), -1);
    due("9000 still", late(9000).go(0), 9000);
    refused("9001", () -> late(8999), y -> y.go(2), -1);
    refused("9001 by 200", () -> late(8801), y -> y.go(200), -1);
    refused("9001 from 9000", () -> late(9000), y -> y.go(1), -1);
    PlatePiles anew = late(9000);
    Check.tell(anew, "pile p;");
    due("from the text on", anew.go(1), 1);
  }

  private static PlatePiles late(int minute) {
    PlatePiles x = Check.of(TWO + "turn m p 1 0;turn m p 2 99;");
    for (int i = 0; i < minute / 200; i++) {
      x.go(200);
    }
    x.go(minute % 200);
    x.turn(0, 2);
    x.crack(0, 0);
    x.keep();
    return x;
  }

  private static void goingAhead() {
    of("Promise 14", "AHEAD (n 0 .. 200), what 0 RIGHT, 1 PROPER, 2 TIRED of MAID i, 3 CHIPPED, 4 IDLE, 5 GAPS of PILE i");
    PlatePiles x = Check.of("maid m 1;maid n 1;" + pile("p", "2 1") + pile("q", "1 2") + pile("r", "") + pile("s", "5'")
        + "turn n p 2 1;turn n r 1 0;turn n s 1 99;chip 50;");
    int[][] due = {{3, 2, 0, 0, 0, 1}, {3, 2, 0, 0, 1, 1}, {4, 2, 2, 1, 1, 0}, {4, 2, 2, 1, 1, 0}, {4, 3, 3, 2, 1, 0}, {4, 3, 3, 2, 1, 0}};
    int[] minutes = {0, 1, 2, 99, 100, 200};
    for (int k = 0; k < minutes.length; k++) {
      for (int what = 0; what <= 5; what++) {
        due("what " + what + " for " + minutes[k], x.ahead(minutes[k], what, what == 2 ? 1 : 0), due[k][what]);
      }
    }
    due("of the last pile", x.ahead(200, 5, 3), 0);
    due("of the first maid", x.ahead(200, 2, 0), 0);
    due("none went by", x.count(5), 0);
    due("idle more than by now", aheadOf(x, 1), 0);
    // 1 by call, q's 1 by the second number of seed 7, and by then 2, 5 and 6.
    refused("asked", y -> y.ahead(200, 3, 0), 5);
    due("behind 9000, too", late(9000).ahead(200, 3, 0), 1);

    of("Promise 14", "(of 0, 1, 3, 4 i isn't looked at).");
    PlatePiles y = Check.of("maid m 1;" + pile("p", "2 1") + pile("q", "1'"));
    int[] now = {1, 0, 0, 0, 0, 1};
    for (int what : new int[] {0, 1, 3, 4}) {
      for (int i : new int[] {-1, 0, 1, 2, 4, MOST, LOWEST}) {
        due("what " + what + " of " + i, y.ahead(0, what, i), now[what]);
      }
    }

    of("Promise 14", "NONE: no such ones.");
    for (int n : new int[] {-1, 201, MOST, LOWEST}) {
      for (int what = 0; what <= 5; what++) {
        due("what " + what + " for " + n, y.ahead(n, what, 0), -1);
      }
      refused("for " + n, z -> z.ahead(n, 0, 0), -1);
    }
    for (int what : new int[] {-1, 6, MOST, LOWEST}) {
      due("what " + what, y.ahead(0, what, 0), -1);
    }
    for (int i : new int[] {-1, 1, MOST, LOWEST}) {
      due("tired of " + i, y.ahead(0, 2, i), -1);
      due("gaps of " + i, y.ahead(0, 5, i), i == 1 ? 0 : -1);
    }
    due("gaps of 2", y.ahead(0, 5, 2), -1);
    due("new, right", new PlatePiles().ahead(200, 0, 0), 0);
    due("new, tired", new PlatePiles().ahead(0, 2, 0), -1);
    due("new, gaps", new PlatePiles().ahead(0, 5, 0), -1);
  }

  private static int aheadOf(PlatePiles x, int minutes) {
    x.go(minutes);
    return x.ahead(200, 4, 0);
  }

  private static void rightWhen() {
    of("Terms 3, promise 15", "RIGHT WHEN of a PILE: in how many MINUTES as it goes, 199 at most, it is RIGHT (0: it is).");
    due("it is, none", piles("").rightWhen(0), 0);
    due("it is, one down", piles("1'").rightWhen(0), 0);
    due("it is, though it won't be", Check.of(TWO + "turn m p 2 0;").rightWhen(0), 0);
    String wrong = "maid m 1;" + pile("p", "2 1");
    due("by minute 0", Check.of(wrong + "turn m p 2 0;").rightWhen(0), 1);
    // No turn told is later than minute 99, so none comes later than in 100.
    due("by minute 99", Check.of(wrong + "turn m p 2 99;").rightWhen(0), 100);
    PlatePiles x = Check.of(wrong + "turn m p 2 99;");
    x.go(99);
    due("from 99", x.rightWhen(0), 1);
    x.go(1);
    due("from 100", x.rightWhen(0), 0);
    x.turn(0, 2);
    due("wrong again, for good", x.rightWhen(0), -2);
    due("the first time", Check.of(wrong + "turn m p 2 3;turn m p 2 4;turn m p 2 5;").rightWhen(0), 4);
    due("twice in a minute", Check.of(wrong + "turn m p 2 3;turn m p 2 3;turn m p 2 5;").rightWhen(0), 6);

    of("Promise 15", "RIGHT WHEN; -2: not by then; NONE: no such PILE.");
    due("not by then", Check.of(wrong).rightWhen(0), -2);
    due("idle", Check.of(wrong + "turn m p 3 0;").rightWhen(0), -2);
    for (int pile : new int[] {1, 4, MOST, -1, LOWEST}) {
      due("pile " + pile, Check.of(wrong).rightWhen(pile), -1);
      refused("pile " + (pile == 1 ? 5 : pile), y -> y.rightWhen(pile == 1 ? 5 : pile), -1);
    }
    due("new", new PlatePiles().rightWhen(0), -1);
    due("the last of four", piles("2 1", "2 1", "2 1", "1 2").rightWhen(3), 0);
    refused("not by then", () -> Check.of(wrong), y -> y.rightWhen(0), -2);
    due("behind 9000, too", late(9000).rightWhen(0), late(9000).pile(0, 1) == 1 ? 0 : -2);
  }
}
