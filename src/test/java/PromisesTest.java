/** Each promise by itself: ordinary inputs, the edges that the document names, wrong inputs. The answers due are worked out by hand. */
public final class PromisesTest {
  private static final Check CHECK = new Check("PromisesTest");
  private static final long NO_LAW = Long.MIN_VALUE;
  private static final int LOWEST = Integer.MIN_VALUE;
  private static final int HIGHEST = Integer.MAX_VALUE;

  /** Piles p 3 1' 2, q 2 1, r 5' from the top down (' is face down). */
  private static final String THREE = "maid m 2;maid n 5;pile p;pile q;pile r;plate p 3 0;plate p 1 1;plate p 2 0;plate q 2 0;"
      + "plate q 1 0;plate r 5 1;turn m p 2 0;turn n q 2 1;turn m r 2 1;turn n p 3 2;seed 0;";

  private static void due(String what, long got, long want) {
    CHECK.due(what, got, want);
  }

  private static void due(String what, boolean got, boolean want) {
    CHECK.due(what, got, want);
  }

  public static void main(String[] args) {
    newObject();
    feeding();
    texts();
    faults();
    formulaFaults();
    names();
    pilesAndPlates();
    laws();
    byCall();
    minutes();
    chipping();
    ahead();
    fewest();
    apart();
    furthest();
    couldAndGreedy();
    games();
    matches();
    holds();
    seen();
    asked();
    chances();
    tried();
    undone();
    images();
    counts();
    CHECK.end();
  }

  // Promise 1
  private static void newObject() {
    PlatePiles x = new PlatePiles();
    due("NONE", PlatePiles.NONE, -1);
    for (int what = 0; what <= 15; what++) {
      due("new count " + what, x.count(what), 0);
    }
    due("new fault", x.fault(0), 0);
    due("new fault's place", x.fault(1), -1);
    due("the new tape has none", x.text(1), -2);
    due("none of it is a text", x.text(0), 0);
    due("new back", x.back(), -1);
    due("new undo", x.undo(), -1);
    due("new go", x.go(200), 200);
    due("new chance", x.chance(0, 1, 0), 10);
    due("new tried", x.tried(0, 0, 200), 0);
  }

  // Promise 2
  private static void feeding() {
    PlatePiles x = new PlatePiles();
    due("twenty bytes", x.feed(0x70696c65, 0x20703b20, 0x20202020, 0x20202020, 0x20202020), 20);
    due("highest byte first", x.text(7), 1);
    due("letters of p", x.named(1, 16 << 25), 0);
    for (int i = 1; i <= 35; i++) {
      due("feed " + i, x.feed(0x20202020, 0x0a0a0a0a, 0x20202020, 0x20202020, 0x2020203b), 20 * i);
    }
    due("more than 700", x.feed(0, 0, 0, 0, 0), -1);
    due("none came", x.text(701), -2);
    due("700 are there", x.text(700), -1);
    due("the first ; can't stand", x.fault(1), 19);
    due("empty then", x.feed(-1, -1, -1, -1, -1), 20);
    due("bytes of 255", x.text(20), -1);
    due("their fault", x.fault(0), 1);
    due("their place", x.fault(1), 0);
  }

  // Promise 3
  private static void texts() {
    PlatePiles x = Check.of(THREE);
    due("lines", Check.tell(x, THREE), 16);
    x.go(1);
    x.crack(0, 0);
    x.turn(1, 2);
    x.keep();
    x.see(1, 0, 3, true);
    x.known(0);
    due("a fault", Check.tell(x, "pile p;pile"), -1);
    due("all stays: minute", x.count(5), 1);
    due("all stays: chipped", x.count(9), 1);
    due("all stays: undo", x.count(15), 2);
    due("all stays: seen", x.count(13), 1);
    due("all stays: known", x.count(14), 0);
    due("all stays: image", x.back(), 1);
    due("all stays: turns", x.count(3), 4);
    x.feed(0x70696c65, 0x20703b20, 0x20202020, 0x20202020, 0x20202020);
    due("n below 0", x.text(-1), -2);
    due("n lowest", x.text(LOWEST), -2);
    due("too many", x.text(21), -2);
    due("the tape stayed", x.feed(0x20202020, 0x20202020, 0x20202020, 0x20202020, 0x20202020), 40);
    due("a new text", x.text(40), 1);
    due("minute 0", x.count(5), 0);
    due("nothing chipped", x.count(9), 0);
    due("nothing seen", x.count(13), 0);
    due("all known", x.count(14), 0);
    x.see(1, 0, 3, true);
    due("all known, those to come too", x.count(14), 1);
    due("nothing to undo", x.count(15), 0);
    due("no image", x.back(), -1);
    due("no turns", x.count(3), 0);
    due("nobody tired", x.count(11), 0);
    due("none idle", x.count(10), 0);
    due("n of 0", x.text(0), 0);
    due("without piles", x.count(1), 0);
    PlatePiles again = Check.of("maid m 1;pile p;plate p 1 0;plate p 2 0;turn m p 2 0;law crack 50;seed 7;");
    long first = run(again);
    Check.tell(again, "maid m 1;pile p;plate p 1 0;plate p 2 0;turn m p 2 0;law crack 50;seed 7;");
    due("numbers start at the seed again", run(again), first);
    due("text with all blanks", Check.tell(x, " \n pile\np\n;\n"), 1);
  }

  private static long run(PlatePiles x) {
    x.go(3);
    return x.count(9) * 100 + x.count(11) * 10 + x.pile(0, 4);
  }

  private static void fault(String text, int what, int place) {
    PlatePiles x = new PlatePiles();
    due("text " + text, Check.tell(x, text), -1);
    due("fault of " + text, x.fault(0), what);
    due("place of " + text, x.fault(1), place);
    due("another what", x.fault(2), -1);
    due("another what", x.fault(-1), -1);
    due("text again", x.text(1), -2);
    due("the fault stays", x.fault(0), what);
    due("a good one", x.text(0), 0);
    due("without fault", x.fault(0), 0);
    due("without place", x.fault(1), -1);
  }

  // Promise 4
  private static void faults() {
    fault(";", 1, 0);
    fault("pile p;;", 1, 7);
    fault("pile", 1, 4);
    fault("pile  ", 1, 6);
    fault("pile p", 1, 6);
    fault("pile p\t;", 1, 6);
    fault("pile p\r;", 1, 6);
    fault("pile P;", 1, 5);
    fault("pile sevenxx;", 1, 5);
    fault("pile \u00e9;", 1, 5);
    fault("pile pile;", 1, 5);
    fault("pile size;", 1, 5);
    fault("pile 1;", 1, 5);
    fault("piles p;", 1, 0);
    fault("p;", 1, 0);
    fault("effort 1;", 1, 0);
    fault("pile p q;", 1, 7);
    fault("maid m;", 1, 6);
    fault("maid m 1 2;", 1, 9);
    fault("maid m 1maid n 1;", 1, 8);
    fault("maid m 10;", 2, 7);
    fault("maid m 99999999999999999999;", 2, 7);
    fault("maid a 1;maid b 1;maid c 1;maid d 1;maid e 1;", 2, 36);
    fault("maid a 1;maid b 1;maid c 1;maid d 1;maid a 99;", 2, 36);
    fault("pile a;pile b;pile c;pile d;pile e;", 2, 28);
    fault("maid m 1;maid m 10;", 3, 14);
    fault("pile p;pile p;", 3, 12);
    fault("plate p 1 0;", 4, 6);
    fault("maid p 1;plate p 1 0;", 4, 15);
    fault("pile p;plate p 0 0;", 2, 15);
    fault("pile p;plate p 100 0;", 2, 15);
    fault("pile p;plate p 1 2;", 2, 17);
    fault("pile p;plate p 1 0;plate p 1 9;", 3, 27);
    fault("pile p;plate p 1 0;plate p 2 0;plate p 3 0;plate p 4 0;plate p 5 0;plate p 0 9;", 2, 73);
    fault("pile p;turn m p 1 1;", 4, 12);
    fault("maid m 1;turn m p 1 1;", 4, 16);
    fault("maid m 1;pile p;turn p m 1 1;", 4, 21);
    fault("maid m 1;pile p;turn m p 0 1;", 2, 25);
    fault("maid m 1;pile p;turn m p 6 1;", 2, 25);
    fault("maid m 1;pile p;turn m p 5 100;", 2, 27);
    StringBuilder turns = new StringBuilder("maid m 1;pile p;");
    for (int i = 0; i < 14; i++) {
      turns.append("turn m p 5 99;");
    }
    due("fourteen turns", Check.of(turns.toString()).count(3), 14);
    fault(turns + "turn x x 9 9;", 2, 16 + 14 * 14);
    fault("chip 101;", 2, 5);
    fault("chip 1;chip 101;", 3, 7);
    fault("seed 100000;", 2, 5);
    fault("seed 1;seed 1;", 3, 7);
    fault("chip;", 1, 4);
    due("edges", Check.of("chip 100;seed 99999;maid sixsix 9;maid a 0;pile sixsix;plate sixsix 99 1;plate sixsix 1 0;").count(2), 2);
    due("touching tokens", Check.of("maid m1;pile p;plate p001 1;turn m p1 0;chip0007;").count(3), 1);
  }

  private static void formulaFaults() {
    fault("law;", 1, 3);
    fault("law maid 1;", 1, 4);
    fault("law size 1;", 1, 4);
    fault("law heed;", 1, 8);
    fault("law heed", 1, 8);
    fault("law heed x;", 1, 9);
    fault("law heed 1", 1, 10);
    fault("law heed 1 1;", 1, 11);
    fault("law heed 10000;", 2, 9);
    fault("law heed -1;", 1, 9);
    fault("law heed 1+;", 1, 11);
    fault("law heed 1+not 1;", 1, 11);
    fault("law heed 1<not 1;", 1, 11);
    fault("law heed 1 not 1;", 1, 11);
    fault("law heed 1<2<3;", 1, 12);
    fault("law heed 1+2<3+4=5;", 1, 16);
    fault("law heed not 1<2<3;", 1, 16);
    fault("law heed 1< =2;", 1, 12);
    fault("law heed 1=<2;", 1, 11);
    fault("law heed 1><2;", 1, 11);
    fault("law heed 1==2;", 1, 11);
    fault("law heed 1<=>2;", 1, 12);
    fault("law heed ();", 1, 10);
    fault("law heed (1;", 1, 11);
    fault("law heed 1);", 1, 10);
    fault("law heed (1));", 1, 12);
    fault("law heed 1(2);", 1, 10);
    fault("law heed 1;law heed 1;", 3, 15);
    fault("law heed (((((((((1)))))))));", 2, 17);
    fault("law heed 1((((((((((", 1, 10);
    StringBuilder sums = new StringBuilder("law effort 1");
    for (int i = 0; i < 31; i++) {
      sums.append("+1");
    }
    due("64 knots", Check.of(sums + ";law heed 1;").count(4), 64);
    due("parentheses are none", Check.of("law heed ((((((((1))))))))+(1);").count(4), 3);
    due("not, and, or, names are", Check.of("law heed not 1 and size or 2<>3;").count(4), 8);
    fault(sums + ";law heed 1;law crack 1;", 2, sums.length() + 22);
    fault(sums + ";law heed 1+1;", 2, sums.length() + 11);
    fault(sums + ";law heed not 1;", 2, sums.length() + 14);
    fault(sums + ";law heed 1 1;", 1, sums.length() + 12);
    fault(sums + "+1+1;", 2, sums.length() + 1);
    fault(sums + "+(1<2);", 2, sums.length() + 2);
    StringBuilder nots = new StringBuilder("law heed ");
    for (int i = 0; i < 63; i++) {
      nots.append(i % 8 == 0 ? "(not " : "not ");
    }
    due("63 times not in eight parentheses", Check.of(nots + "1))))))));").count(4), 64);
    due("one closed, one opened", Check.of("law heed ((((((((1))))))))+((((((((1))))))));").count(4), 3);
  }

  // Promise 5
  private static void names() {
    PlatePiles x = Check.of("maid a 1;maid abcdef 1;pile z;pile a;pile abcdef;");
    due("maid a", x.named(0, 1 << 25), 0);
    due("maid abcdef", x.named(0, Check.letters("abcdef")), 1);
    due("pile z", x.named(1, 26 << 25), 0);
    due("pile a", x.named(1, 1 << 25), 1);
    due("pile abcdef", x.named(1, 1 << 25 | 2 << 20 | 3 << 15 | 4 << 10 | 5 << 5 | 6), 2);
    due("no maid z", x.named(0, 26 << 25), -1);
    due("none of 0", x.named(0, 0), -1);
    due("a part", x.named(0, Check.letters("abcde")), -1);
    due("a alone, lowest", x.named(0, 1), -1);
    due("below 0", x.named(0, LOWEST | 1 << 25), -1);
    due("another what", x.named(2, 1 << 25), -1);
    due("another what", x.named(-1, 1 << 25), -1);
  }

  // Promises 6, 7, 8
  private static void pilesAndPlates() {
    PlatePiles x = Check.of(THREE);
    int[][] due = {{3, 0, 0, 2, 0}, {2, 0, 0, 1, 0}, {1, 1, 0, 0, 0}};
    for (int pile = 0; pile < 3; pile++) {
      for (int what = 0; what < 5; what++) {
        due("pile " + pile + " " + what, x.pile(pile, what), due[pile][what]);
      }
    }
    due("no such pile", Check.thrownByPile(x, 3, 0), 1);
    due("no such pile", Check.thrownByPile(x, -1, 0), 1);
    due("no such pile first", Check.thrownByPile(x, HIGHEST, 9), 1);
    due("no such what", Check.thrownByPile(x, 0, 5), 2);
    due("no such what", Check.thrownByPile(x, 2, -1), 2);
    x.turn(2, 1);
    due("proper", x.pile(2, 2), 1);
    due("turned by call", x.pile(2, 4), 1);
    x.go(1);
    due("turned in a minute", x.pile(0, 4), 1);
    PlatePiles five = Check.of("pile p;pile q;pile r;plate p 9 0;plate p 2 0;plate p 5 0;plate p 1 0;plate p 7 0;"
        + "plate q 4 0;plate q 3 0;plate q 2 0;plate q 1 0;plate r 1 0;plate r 2 0;plate r 99 0;");
    due("only 2 and 5 are neighbours", five.pile(0, 3), 4);
    due("the other way round: only the greatest", five.pile(1, 3), 1);
    due("right", five.pile(2, 3), 0);
    due("right and proper", five.pile(2, 2), 1);
    due("plate's number", x.plate(1, 0, 0), 3);
    due("plate's size", x.plate(2, 0, 1), 5);
    due("plate's face", x.plate(2, 0, 2), 0);
    due("chipped", x.plate(2, 0, 3), 0);
    x.crack(2, 0);
    due("chipped", x.plate(2, 0, 3), 1);
    due("none there", x.plate(2, 1, 0), -2);
    due("none there", x.plate(2, 4, 3), -2);
    due("a place of 5", x.plate(2, 5, 0), -1);
    due("a place of -1", x.plate(2, -1, 0), -1);
    due("no such what", x.plate(2, 0, 4), -1);
    due("no such what", x.plate(2, 0, -1), -1);
    due("no such what where none is", x.plate(2, 4, 4), -1);
    due("no such pile", x.plate(3, 0, 0), -1);
    due("no such pile", x.plate(LOWEST, 0, 0), -1);
    due("skill", x.maid(1, 0), 5);
    due("tired by depth", x.maid(0, 1), 2);
    due("not tired", x.maid(1, 1), 0);
    due("no such maid", x.maid(2, 0), -1);
    due("no such maid", x.maid(-1, 0), -1);
    due("no such what", x.maid(0, 2), -1);
    due("no such what", x.maid(0, -1), -1);
  }

  private static void value(String e, long want) {
    PlatePiles x = Check.of("maid m 7;pile p;pile q;plate p 9 0;plate p 4 0;plate p 6 1;law heed " + e + ";");
    due("value of " + e, x.law(2, 0, 0, 2), want);
  }

  // Promise 9
  private static void laws() {
    value("size*1000+depth*100+high*10+skill", 4237);
    value("gaps", 2);
    value("tired+minute", 0);
    value("2+3*4-6/4", 13);
    value("(2+3)*4", 20);
    value("7-2-1", 4);
    value("100/7/2", 7);
    value("(0-7)/2", -3);
    value("7/(0-2)", -3);
    value("1<2", 1);
    value("2<=2", 1);
    value("2<2", 0);
    value("2>=3", 0);
    value("2>=2", 1);
    value("3>2", 1);
    value("2>2", 0);
    value("2<>3", 1);
    value("2=2", 1);
    value("not 5", 0);
    value("not 0", 1);
    value("not not 5", 1);
    value("not 1=2", 1);
    value("(not 1)=0", 1);
    value("5 and 0-3", 1);
    value("5 and 0", 0);
    value("0 or 7", 1);
    value("0 or 0", 0);
    value("1 or 0 and 0", 1);
    value("(1 or 0) and 0", 0);
    value("not 0 and 0", 0);
    value("1+1=2 and 3*2>5", 1);
    value("1/0", NO_LAW);
    value("0 and 1/0", NO_LAW);
    value("1 or 1/0", NO_LAW);
    value("1/(size-4)", NO_LAW);
    value("1000*1000*1000*1000", 1000000000000L);
    value("1000*1000*1000*1000+1", NO_LAW);
    value("1000*1000*1000*1000+1-1", NO_LAW);
    value("999*1000*1000*1000+1000*1000*1000", 1000000000000L);
    value("0-1000*1000*1000*1000", -1000000000000L);
    value("0-1000*1000*1000*1000-1", NO_LAW);
    value("1000*1000*1000*1000*(0-1)", -1000000000000L);
    value("1000*1000*1000*1000*(1000*1000*1000*1000)", NO_LAW);
    value("9999*9999*9999*9999", NO_LAW);
    value("4096*4096*4096*(4096*4096*4096)", NO_LAW);
    PlatePiles x = Check.of("maid m 7;pile p;pile q;plate p 9 0;plate p 4 0;law effort size+depth;law crack size+depth;");
    due("effort: by depth", x.law(0, 0, 0, 2), 6);
    due("effort: none so deep", x.law(0, 0, 0, 5), 5);
    due("crack: on top", x.law(1, 0, 0, 2), 11);
    due("crack: empty", x.law(1, 0, 1, 2), 2);
    due("effort: empty", x.law(0, 0, 1, 1), 1);
    due("not told", x.law(2, 0, 0, 1), NO_LAW);
    due("no such what", x.law(3, 0, 0, 1), NO_LAW);
    due("no such what", x.law(-1, 0, 0, 1), NO_LAW);
    due("no such maid", x.law(0, 1, 0, 1), NO_LAW);
    due("no such maid", x.law(0, -1, 0, 1), NO_LAW);
    due("no such pile", x.law(0, 0, 2, 1), NO_LAW);
    due("no such pile", x.law(0, 0, -1, 1), NO_LAW);
    due("depth 0", x.law(0, 0, 0, 0), NO_LAW);
    due("depth 6", x.law(0, 0, 0, 6), NO_LAW);
    x.turn(0, 2);
    due("as it is now", x.law(0, 0, 0, 2), 11);
  }

  // Promises 10, 11, 12
  private static void byCall() {
    PlatePiles x = Check.of(THREE);
    due("turn by all", x.turn(0, 3), 1);
    due("2 on top", x.plate(0, 0, 1), 2);
    due("2 face down", x.plate(0, 0, 2), 1);
    due("1 face up", x.plate(0, 1, 2), 0);
    due("3 below", x.plate(0, 2, 1), 3);
    due("turn by 2", x.turn(0, 2), 0);
    due("right", x.pile(0, 1), 1);
    due("turn by 1: only the face", x.turn(0, 1), 0);
    due("1 face up", x.plate(0, 0, 2), 0);
    due("not so high", x.turn(0, 4), -1);
    due("depth 0", x.turn(0, 0), -1);
    due("depth lowest", x.turn(0, LOWEST), -1);
    due("no such pile", x.turn(3, 1), -1);
    due("no such pile", x.turn(-1, 1), -1);
    due("nobody tired", x.count(11), 0);
    due("nothing chipped", x.count(9), 0);
    due("turned three times", x.pile(0, 4), 3);
    due("move r to q", x.move(2, 1), 3);
    due("its number", x.plate(1, 0, 0), 5);
    due("its face", x.plate(1, 0, 2), 1);
    due("r is empty", x.pile(2, 0), 0);
    due("r is right", x.pile(2, 1), 1);
    due("r is proper", x.pile(2, 2), 1);
    due("r has no gaps", x.pile(2, 3), 0);
    due("r can't be turned", x.turn(2, 1), -1);
    due("nothing to move", x.move(2, 0), -2);
    due("p's 1 is in q", x.move(0, 1), -2);
    due("alike", x.move(0, 0), -1);
    due("no such pile", x.move(0, 3), -1);
    due("no such pile", x.move(-1, 0), -1);
    due("no such pile, nothing to move", x.move(2, 3), -1);
    due("1 to r", x.move(0, 2), 1);
    due("2 isn't there", x.move(0, 2), 2);
    PlatePiles five = Check.of("pile p;pile q;plate p 1 0;plate p 2 0;plate p 3 0;plate p 4 0;plate p 5 0;plate q 9 0;");
    due("that has 5", five.move(1, 0), -2);
    due("from 5", five.move(0, 1), 2);
    due("now 4", five.pile(0, 0), 4);
    due("2 on top", five.plate(0, 0, 1), 2);
    due("back on five", five.move(1, 0), 5);
    due("crack", five.crack(0, 4), true);
    due("it is", five.crack(0, 4), false);
    due("none there", five.crack(0, 5), false);
    due("none there", five.crack(1, 1), false);
    due("place -1", five.crack(0, -1), false);
    due("no such pile", five.crack(2, 0), false);
    due("no such pile", five.crack(-1, 0), false);
    five.turn(0, 5);
    due("the plate is chipped, not the place", five.plate(0, 0, 3), 1);
    due("one", five.count(9), 1);
  }

  // Promise 13, without chipping
  private static void minutes() {
    PlatePiles x = Check.of(THREE);
    due("go 0", x.go(0), 0);
    due("go 1", x.go(1), 1);
    due("1 on top", x.plate(0, 0, 1), 1);
    due("1 face up", x.plate(0, 0, 2), 0);
    due("3 face down", x.plate(0, 1, 2), 1);
    due("m tired by depth", x.maid(0, 1), 2);
    due("go 2", x.go(2), 3);
    due("n tired by 2 and 3", x.maid(1, 1), 5);
    due("r by 2 is idle", x.count(10), 1);
    due("-1", x.go(-1), -1);
    due("201", x.go(201), -1);
    due("lowest", x.go(LOWEST), -1);
    due("highest", x.go(HIGHEST), -1);
    for (int i = 0; i < 44; i++) {
      x.go(200);
    }
    due("8803", x.count(5), 8803);
    due("behind 9000", x.go(198), -1);
    due("none went by", x.count(5), 8803);
    due("9000", x.go(197), 9000);
    due("9000 still", x.go(0), 9000);
    due("behind", x.go(1), -1);
    due("ahead from there", x.ahead(200, 4, 0), 0);

    PlatePiles y = Check.of("maid m 1;pile p;plate p 1 0;plate p 2 0;turn m p 2 0;turn m p 2 0;turn m p 1 0;turn m p 3 0;"
        + "turn m p 2 1;law effort tired + size*10 + minute;law heed depth <> 1;");
    y.go(1);
    due("20, then 20 + 10 more", y.maid(0, 1), 20 + 30);
    due("idle by heed, by depth", y.count(10), 2);
    due("by numbers", y.pile(0, 4), 2);
    y.go(1);
    due("50 + 20 + 1 more", y.maid(0, 1), 50 + 71);

    PlatePiles z = Check.of("maid m 1;maid n 1;pile p;plate p 1 0;turn m p 1 0;turn m p 1 1;turn n p 1 0;turn n p 1 1;turn n p 1 2;"
        + "law effort (2-minute*2)*1000-1;");
    z.go(1);
    due("999 at most", z.maid(0, 1), 999);
    z.go(1);
    due("0 at least", z.maid(0, 1), 999);
    PlatePiles errors = Check.of("maid m 1;pile p;plate p 1 0;plate p 2 0;turn m p 2 0;turn m p 3 0;law effort 1/0;law heed 1/0;");
    errors.go(1);
    due("depth with an error", errors.maid(0, 1), 2);
    due("heeded with an error, idle once", errors.count(10), 1);
    PlatePiles both = Check.of("maid m 1;pile p;turn m p 1 0;law heed 0;");
    both.go(1);
    due("idle once by both", both.count(10), 1);
    due("not turned", both.pile(0, 4), 0);
    PlatePiles never = Check.of("maid m 1;pile p;plate p 1 0;turn m p 1 0;law heed 0-3;");
    never.go(1);
    due("what isn't 0 heeds", never.count(10), 0);
    StringBuilder text = new StringBuilder("maid m 1;pile p;plate p 1 0;law effort 999;");
    for (int i = 0; i < 14; i++) {
      text.append("turn m p 1 0;");
    }
    PlatePiles tired = Check.of(text.toString());
    tired.go(1);
    due("14 times 999", tired.maid(0, 1), 13986);
    due("turned 14 times", tired.pile(0, 4), 14);
    PlatePiles gaps = Check.of("maid m 1;pile p;plate p 1 0;plate p 3 0;plate p 2 0;turn m p 2 0;law effort gaps*100+high*10+skill;");
    gaps.go(1);
    due("ahead of turning", gaps.maid(0, 1), 231);
  }

  private static int chipped(String crack, String rest) {
    PlatePiles x = Check.of("maid m 1;pile p;plate p 1 0;plate p 9 0;turn m p 2 0;" + crack + rest);
    x.go(1);
    return x.count(9);
  }

  // Promise 13, chipping
  private static void chipping() {
    due("chip of 0", chipped("", ""), 0);
    due("chip of 100", chipped("", "chip 100;"), 1);
    due("first number of seed 0 is 0", chipped("", "chip 1;"), 1);
    due("E of 0", chipped("law crack 0;", "chip 100;"), 0);
    due("E below 0", chipped("law crack 0-1;", "chip 100;"), 0);
    due("E above 100", chipped("law crack 101;", ""), 1);
    due("an error: chip", chipped("law crack 1/0;", "chip 100;"), 1);
    due("size now on top", chipped("law crack (size=9)*100;", ""), 1);
    due("tired with this effort", chipped("law crack (tired=2)*100;", ""), 1);
    due("gaps behind turning", chipped("law crack (gaps=1)*100;", ""), 1);
    due("depth, high, minute", chipped("law crack (depth=2 and high=2 and minute=0 and skill=1)*100;", ""), 1);
    // The first number of seed 1 is 16838.
    due("38 is below 39", chipped("law crack 39;", "seed 1;"), 1);
    due("38 isn't below 38", chipped("law crack 38;", "seed 1;"), 0);
    long number = 1;
    StringBuilder row = new StringBuilder();
    for (int i = 0; i < 8; i++) {
      number = (number * 1103515245L + 12345L) % 2147483648L;
      row.append(number / 65536 % 100 < 50 ? 1 : 0);
    }
    PlatePiles x = Check.of("maid m 1;pile a;pile b;pile c;pile d;plate a 1 0;plate b 1 0;plate c 1 0;plate d 1 0;"
        + "turn m a 1 0;turn m b 1 0;turn m c 1 1;turn m d 1 2;law crack 50*(minute<>1);seed 1;");
    x.go(5);
    due("first number", x.plate(0, 0, 3), row.charAt(0) - '0');
    due("second number", x.plate(1, 0, 3), row.charAt(1) - '0');
    due("none drawn, E is 0", x.plate(2, 0, 3), 0);
    due("third number", x.plate(3, 0, 3), row.charAt(2) - '0');
    PlatePiles stays = Check.of("maid m 1;pile p;plate p 1 0;turn m p 1 0;turn m p 1 1;law crack (minute=0)*100;");
    stays.go(1);
    stays.go(1);
    due("stays so", stays.count(9), 1);
  }

  // Promises 14, 15
  private static void ahead() {
    PlatePiles x = Check.of(THREE);
    due("right", x.ahead(0, 0, 9), 1);
    due("right then", x.ahead(2, 0, -9), 2);
    due("proper then", x.ahead(2, 1, 9), 0);
    due("tired", x.ahead(1, 2, 0), 2);
    due("tired", x.ahead(200, 2, 1), 5);
    due("chipped", x.ahead(3, 3, HIGHEST), 0);
    due("idle", x.ahead(2, 4, LOWEST), 1);
    due("gaps", x.ahead(2, 5, 1), 0);
    due("nothing went by", x.count(5), 0);
    x.crack(0, 0);
    due("chipped of now with", x.ahead(3, 3, 0), 1);
    x.go(2);
    due("idle more", x.ahead(5, 4, 0), 0);
    due("n of 201", x.ahead(201, 0, 0), -1);
    due("n of -1", x.ahead(-1, 0, 0), -1);
    due("no such what", x.ahead(0, 6, 0), -1);
    due("no such what", x.ahead(0, -1, 0), -1);
    due("no such maid", x.ahead(0, 2, 2), -1);
    due("no such maid", x.ahead(0, 2, -1), -1);
    due("no such pile", x.ahead(0, 5, 3), -1);
    due("no such pile", x.ahead(0, 5, -1), -1);
    due("50 as it goes", odds("50").ahead(1, 3, 0), 1);
    due("49 as it goes", odds("49").ahead(1, 3, 0), 0);
    due("chip as it goes", Check.of("maid m 1;pile p;plate p 1 0;turn m p 1 0;chip 50;").ahead(1, 3, 0), 1);
    PlatePiles y = Check.of(THREE);
    due("right when", y.rightWhen(1), 2);
    due("not by then", y.rightWhen(0), -2);
    due("it is", y.rightWhen(2), 0);
    due("no such pile", y.rightWhen(3), -1);
    due("no such pile", y.rightWhen(-1), -1);
    PlatePiles late = Check.of("maid m 1;pile p;plate p 2 0;plate p 1 0;turn m p 2 99;");
    due("late", late.rightWhen(0), 100);
    late.go(50);
    due("late from now", late.rightWhen(0), 50);
    late.go(50);
    late.turn(0, 2);
    due("never more", late.rightWhen(0), -2);
  }

  private static PlatePiles odds(String e) {
    return Check.of("maid m 1;pile p;plate p 1 0;turn m p 1 0;law crack " + e + ";");
  }

  private static PlatePiles pileOf(String... plates) {
    StringBuilder text = new StringBuilder("maid m 9;");
    for (int i = 0; i < plates.length; i++) {
      char name = (char) ('p' + i);
      text.append("pile ").append(name).append(';');
      for (String plate : plates[i].isEmpty() ? new String[0] : plates[i].split(" ")) {
        boolean down = plate.endsWith("'");
        text.append("plate ").append(name).append(' ').append(plate.replace("'", "")).append(down ? " 1;" : " 0;");
      }
    }
    return Check.of(text.toString());
  }

  // Promises 16, 17, 18
  private static void fewest() {
    PlatePiles x = pileOf("3 1' 2", "2 1", "5'", "");
    due("fewest right", x.fewest(0, 0), 2);
    due("fewest proper", x.fewest(0, 1), 4);
    due("two, the wrong way", x.fewest(1, 0), 1);
    due("two, the wrong way, up", x.fewest(1, 1), 3);
    due("one, down", x.fewest(2, 1), 1);
    due("one, right", x.fewest(2, 0), 0);
    due("none", x.fewest(3, 1), 0);
    due("first", x.first(0, 0), 3);
    due("first to be proper", x.first(0, 1), 1);
    due("it is so", x.first(2, 0), -2);
    due("it is so", x.first(3, 1), -2);
    due("ways", x.ways(0, 0), 1);
    due("ways of one that is so", x.ways(2, 0), 1);
    due("ways of none", x.ways(3, 1), 1);
    PlatePiles y = pileOf("1' 2'", "1 3 2", "2 4 1 3", "5 1 4 2 3");
    // -1 -2 is four turns away, the one with two ways: 1 2 1 2 and 2 1 2 1.
    due("the furthest of two", y.fewest(0, 1), 4);
    due("its ways", y.ways(0, 1), 2);
    due("its first", y.first(0, 1), 1);
    // 1 3 2: 3 1 2, 2 1 3, 1 2 3 or 2 3 1, 3 2 1, 1 2 3.
    due("the furthest of three", y.fewest(1, 0), 3);
    due("its ways", y.ways(1, 0), 2);
    due("its first", y.first(1, 0), 2);
    due("no such pile", y.fewest(4, 0), -1);
    due("no such pile", y.first(-1, 0), -1);
    due("no such pile", y.ways(4, 0), -1);
    due("no such which", y.fewest(0, 2), -1);
    due("no such which", y.first(0, -1), -1);
    due("no such which", y.ways(0, 2), -1);
    x.turn(0, 3);
    due("one nearer", x.fewest(0, 0), 1);
  }

  // Promise 19
  private static void apart() {
    PlatePiles x = pileOf("30 10' 20", "1 2 3", "9 7' 8", "2 1");
    due("as the other, by which is greater", x.apart(0, 2, 1), 0);
    due("to be right", x.apart(0, 1, 0), 2);
    due("to be proper", x.apart(0, 1, 1), 4);
    due("the other way", x.apart(1, 0, 1), 4);
    due("of itself", x.apart(3, 3, 1), 0);
    due("not as high", x.apart(0, 3, 0), -2);
    due("no such pile", x.apart(0, 4, 0), -1);
    due("no such pile", x.apart(-1, 0, 0), -1);
    due("no such which", x.apart(0, 1, 2), -1);
    due("no such which before not as high", x.apart(0, 3, -1), -1);
    x.turn(2, 1);
    due("a face", x.apart(0, 2, 1), 1);
    due("faces not looked at", x.apart(0, 2, 0), 0);
    PlatePiles empty = pileOf("", "");
    due("empty ones", empty.apart(0, 1, 1), 0);
  }

  // Promises 20, 21
  private static void furthest() {
    PlatePiles x = new PlatePiles();
    int[] right = {0, 0, 1, 3, 4, 5};
    int[] proper = {0, 1, 4, 6, 8, 10};
    int[] orders = {1, 1, 2, 6, 24, 120};
    for (int plates = 0; plates <= 5; plates++) {
      due("furthest right " + plates, x.furthest(plates, 0), right[plates]);
      due("furthest proper " + plates, x.furthest(plates, 1), proper[plates]);
      int all = 0;
      int allFaced = 0;
      for (int fewest = 0; fewest <= 20; fewest++) {
        all += x.howMany(plates, 0, fewest);
        allFaced += x.howMany(plates, 1, fewest);
      }
      due("all orders " + plates, all, orders[plates]);
      due("all with faces " + plates, allFaced, orders[plates] << plates);
    }
    int[] four = {1, 3, 6, 11, 3};
    int[] fourFaced = {1, 4, 12, 36, 90, 124, 96, 18, 3};
    for (int i = 0; i < four.length; i++) {
      due("how many of four " + i, x.howMany(4, 0, i), four[i]);
    }
    for (int i = 0; i < fourFaced.length; i++) {
      due("how many of four with faces " + i, x.howMany(4, 1, i), fourFaced[i]);
    }
    due("none so far", x.howMany(4, 0, 20), 0);
    due("21", x.howMany(4, 0, 21), -1);
    due("-1", x.howMany(4, 0, -1), -1);
    due("six plates", x.howMany(6, 0, 0), -1);
    due("six plates", x.furthest(6, 0), -1);
    due("-1 plates", x.furthest(-1, 0), -1);
    due("-1 plates", x.howMany(-1, 0, 0), -1);
    due("no such which", x.furthest(1, 2), -1);
    due("no such which", x.howMany(1, -1, 0), -1);
  }

  // Promises 22, 23
  private static void couldAndGreedy() {
    PlatePiles x = pileOf("3 1' 2", "2 1", "5'", "");
    due("itself", x.could(0, 1, 0), 1);
    due("by one", x.could(0, 1, 1), 3);
    due("by one, orders: itself too", x.could(0, 0, 1), 3);
    due("by two", x.could(1, 1, 2), 3);
    due("one, even", x.could(2, 1, 8), 1);
    due("one, odd", x.could(2, 1, 9), 1);
    due("none, not at all", x.could(3, 0, 0), 1);
    due("none can't be turned", x.could(3, 0, 2), 0);
    due("none can't be turned", x.could(3, 1, 9), 0);
    due("times 10", x.could(0, 0, 10), -1);
    due("times -1", x.could(0, 0, -1), -1);
    due("no such which", x.could(0, 2, 0), -1);
    due("no such pile", x.could(4, 0, 0), -1);
    due("no such pile", x.could(-1, 0, 0), -1);
    due("greedy 3 1 2: by 3, by 2", x.greedy(0), 2);
    due("greedy 2 1", x.greedy(1), 1);
    due("greedy one", x.greedy(2), 0);
    due("greedy none", x.greedy(3), 0);
    due("no such pile", x.greedy(4), -1);
    due("no such pile", x.greedy(-1), -1);
    PlatePiles y = pileOf("1 3 2", "2 5 3 1 4", "1 2 4 3 5", "4 3 2 1");
    due("greedy 1 3 2: by 2, by 3, by 2", y.greedy(0), 3);
    // 2 5 3 1 4: 2 -> 5 2 3 1 4, 5 -> 4 1 3 2 5, 4 -> 2 3 1 4 5, 2 -> 3 2 1 4 5, 3 -> right.
    due("greedy 2 5 3 1 4", y.greedy(1), 5);
    // 1 2 4 3 5: 3 -> 4 2 1 3 5, 4 -> 3 1 2 4 5, 3 -> 2 1 3 4 5, 2 -> right.
    due("greedy 1 2 4 3 5", y.greedy(2), 4);
    due("greedy 4 3 2 1", y.greedy(3), 1);
    due("greedy turns nothing", y.pile(0, 4), 0);
  }

  // Promise 24
  private static void games() {
    PlatePiles x = pileOf("3 1' 2", "2 1", "5'", "");
    due("3 1 2: by 2 comes 1 3 2, by 3 comes 2 1 3", x.game(0, 0, 0), 1);
    due("the least, the other one's winning too", x.game(0, 0, 1), 2);
    due("2 1 is won at once", x.game(1, 0, 0), 0);
    due("by 2", x.game(1, 0, 1), 2);
    due("one is right", x.game(2, 0, 0), 2);
    due("so already", x.game(2, 0, 1), -2);
    due("5 down is won at once", x.game(2, 1, 0), 0);
    due("by 1", x.game(2, 1, 1), 1);
    due("empty", x.game(3, 1, 0), 2);
    due("empty", x.game(3, 0, 1), -2);
    due("no such pile", x.game(4, 0, 0), -1);
    due("no such pile", x.game(-1, 0, 0), -1);
    due("no such which", x.game(0, 2, 0), -1);
    due("no such which", x.game(0, -1, 0), -1);
    due("no such what", x.game(0, 0, 2), -1);
    due("no such what", x.game(3, 0, -1), -1);
    // Two plates with faces lie on a circle of eight, and only the first turn is free: it comes to whether the way is odd.
    PlatePiles two = pileOf("2 1", "1' 2'", "2' 1'", "2 1'");
    due("three away", two.game(0, 1, 0), 0);
    due("by 1", two.game(0, 1, 1), 1);
    due("four away both ways", two.game(1, 1, 0), 1);
    due("least", two.game(1, 1, 1), 1);
    due("one away", two.game(2, 1, 0), 0);
    due("the long way round wins, too, and is the least", two.game(2, 1, 1), 1);
    due("two away one way, six the other", two.game(3, 1, 0), 1);
    due("least", two.game(3, 1, 1), 1);
    PlatePiles five = pileOf("3 1' 2 5 4'");
    due("put off for ever", five.game(0, 1, 0), 2);
    due("put off by the least", five.game(0, 1, 1), 1);
  }

  // Promise 25
  private static void matches() {
    PlatePiles x = Check.of(THREE);
    due("m takes r", x.match(0), 2);
    due("n takes q", x.match(1), 1);
    due("no third maid", x.match(2), -2);
    due("no fourth maid", x.match(3), -2);
    due("two have one", x.match(4), 2);
    due("1 and 3", x.match(5), 4);
    due("6", x.match(6), -1);
    due("-1", x.match(-1), -1);
    // All piles by 1 and the like: the first by maids, none last.
    PlatePiles y = Check.of("maid a 0;maid b 1;maid c 1;maid d 1;pile p;pile q;plate p 1 1;plate q 1 1;");
    due("a can't", y.match(0), -2);
    due("b takes p", y.match(1), 0);
    due("c takes q", y.match(2), 1);
    due("d is left", y.match(3), -2);
    due("two", y.match(4), 2);
    due("sum", y.match(5), 2);
    // More before cheaper: a could do q by 1, but b can do only that one.
    PlatePiles z = Check.of("maid a 9;maid b 1;pile p;pile q;plate p 2 0;plate p 1 0;plate q 1 1;");
    due("a takes p", z.match(0), 0);
    due("b takes q", z.match(1), 1);
    due("sum", z.match(5), 4);
    PlatePiles proper = Check.of("maid a 9;pile p;plate p 1 0;");
    due("proper ones need none", proper.match(0), -2);
    due("none", proper.match(4), 0);
    due("none", proper.match(5), 0);
    PlatePiles cheap = Check.of("maid a 9;pile p;pile q;pile r;plate p 2 0;plate p 1 0;plate q 2 1;plate q 1 0;plate r 2 0;plate r 1 1;");
    due("the first of the least", cheap.match(0), 1);
    due("its fewest", cheap.match(5), 2);
  }

  // Promise 26
  private static void holds() {
    PlatePiles x = Check.of("chip 30;");
    due("none", x.holds(0, 0), 1);
    due("none", x.holds(0, 1), 1);
    due("49", x.holds(2, 0), 49);
    due("100", x.holds(2, 1), 100);
    due("117649", x.holds(6, 0), 117649);
    due("1000000", x.holds(6, 1), 1000000);
    due("7", x.holds(7, 0), -1);
    due("-1", x.holds(-1, 0), -1);
    due("no such what", x.holds(1, 2), -1);
    due("no such what", x.holds(1, -1), -1);
    PlatePiles y = Check.of("chip 1;");
    due("99 by itself", y.holds(6, 0), 941480149401L);
    due("100 by itself", y.holds(6, 1), 1000000000000L);
    PlatePiles sure = Check.of("chip 100;");
    due("0", sure.holds(3, 0), 0);
    due("by 1", sure.holds(3, 1), 1);
    due("1", sure.holds(0, 0), 1);
    due("chip told, whatever law", Check.of("chip 50;law crack 0;").holds(3, 1), 8);
    due("not told", new PlatePiles().holds(3, 0), 1);
  }

  // Promises 27, 28, 29, 30
  private static void seen() {
    PlatePiles x = Check.of(THREE);
    due("all at first", x.deep(0), 31);
    due("seen", x.see(1, 0, 1, true), 0);
    due("only by 2", x.deep(0), 2);
    due("another turn", x.deep(1), 31);
    due("struck", x.strike(0), 1);
    due("all", x.deep(0), 31);
    due("the strike is struck", x.strike(1), 2);
    due("only by 2", x.deep(0), 2);
    due("that one too", x.strike(2), 3);
    due("all", x.deep(0), 31);
    due("by three", x.known(3), true);
    due("only by 2", x.deep(0), 2);
    due("by two", x.known(2), true);
    due("all", x.deep(0), 31);
    due("by none", x.known(0), true);
    due("by none", x.count(14), 0);
    due("all", x.deep(0), 31);
    due("by one", x.known(1), true);
    due("only by 2", x.deep(0), 2);
    due("by five", x.known(5), false);
    due("by -2", x.known(-2), false);
    due("still by one", x.count(14), 1);
    due("not 3", x.see(1, 0, 3, false), 4);
    due("not known", x.deep(0), 2);
    due("by all", x.known(-1), true);
    due("by 2 or 3", x.deep(0), 6);
    due("not 2", x.see(1, 0, 2, false), 5);
    due("those to come too", x.deep(0), 2);
    due("no such turn", x.deep(4), -1);
    due("no such turn", x.deep(-1), -1);
    due("minutes 0", x.see(0, 0, 1, true), -1);
    due("minutes 61", x.see(61, 0, 1, true), -1);
    due("size 0", x.see(1, 0, 0, true), -1);
    due("size 100", x.see(1, 0, 100, true), -1);
    due("no such pile", x.see(1, 3, 1, true), -1);
    due("no such pile", x.see(1, -1, 1, true), -1);
    due("no such seen", x.strike(6), -1);
    due("no such seen", x.strike(-1), -1);
    due("minutes 60", x.see(60, 0, 99, false), 6);
    for (int i = 7; i < 24; i++) {
      due("seen " + i, x.strike(6), i);
    }
    due("there are 24", x.see(1, 0, 1, true), -1);
    due("there are 24", x.strike(0), -1);
    due("24", x.count(13), 24);

    PlatePiles y = Check.of(THREE);
    y.turn(0, 3);
    y.go(5);
    y.see(1, 0, 1, true);
    due("from the text on, nothing by call", y.deep(0), 2);
    y.see(3, 0, 2, true);
    // The third turn of p: 1 3 2 by 3 has 2 on top, by 1 has 1, by 2 has 3, by 4 and 5 nothing is done.
    due("deep of the last", y.deep(3), 4);
    PlatePiles empty = Check.of("maid m 1;pile p;pile q;plate q 1 0;turn m p 1 0;");
    empty.see(1, 0, 1, false);
    due("of none it wasn't", empty.deep(0), 31);
    empty.see(1, 0, 1, true);
    due("of none it never is", empty.deep(0), 0);
    PlatePiles law = Check.of("maid m 1;pile p;plate p 1 0;plate p 2 0;plate p 3 0;turn m p 1 0;law heed depth<>3;");
    law.see(1, 0, 1, true);
    due("by the law with that depth", law.deep(0), 1 + 4 + 8 + 16);
  }

  // Promise 31
  private static void asked() {
    PlatePiles x = Check.of(THREE);
    // p behind a minute: 3 1 2, 1 3 2, 2 1 3, 3 1 2, 3 1 2: on top three alike, in the middle four.
    due("the top", x.ask(0, 1, 0), 0);
    due("three left", x.ask(0, 1, 1), 3);
    x.see(1, 0, 3, true);
    due("1, 4, 5 are alike everywhere", x.ask(0, 1, 0), 0);
    due("three left", x.ask(0, 1, 1), 3);
    x.see(1, 0, 2, true);
    due("none left", x.ask(0, 1, 0), 0);
    due("none left", x.ask(0, 1, 1), 0);
    due("n of 0", x.ask(0, 0, 0), -1);
    due("n of 61", x.ask(0, 61, 0), -1);
    due("n of 60", x.ask(0, 60, 0), 0);
    due("no such turn", x.ask(4, 1, 0), -1);
    due("no such turn", x.ask(-1, 1, 0), -1);
    due("no such what", x.ask(0, 1, 2), -1);
    due("no such what", x.ask(0, 1, -1), -1);
    PlatePiles five = Check.of("maid m 1;pile p;plate p 1 0;plate p 2 0;plate p 3 0;plate p 4 0;plate p 5 0;turn m p 1 0;turn m p 4 1;");
    due("all apart on top", five.ask(0, 1, 1), 1);
    // By the second turn what was on top comes to place 3.
    due("all apart below", five.ask(0, 2, 0), 3);
    due("one left", five.ask(0, 2, 1), 1);
    PlatePiles none = Check.of("maid m 1;pile p;turn m p 1 0;");
    due("none there is an answer", none.ask(0, 1, 1), 5);
    due("the first of several", none.ask(0, 1, 0), 0);
  }

  // Promise 32
  private static void chances() {
    PlatePiles x = Check.of("maid m 1;pile p;plate p 1 0;plate p 2 0;turn m p 2 1;law crack 50;");
    due("none at least", x.chance(5, 1, 0), 10);
    due("not in the first minute", x.chance(5, 1, 1), 0);
    for (int seed : new int[] {0, 1, 5, 99999, HIGHEST}) {
      long number = seed;
      int times = 0;
      for (int i = 0; i < 10; i++) {
        number = (number * 1103515245L + 12345L) % 2147483648L;
        times += number / 65536 % 100 < 50 ? 1 : 0;
      }
      due("one number a time, seed " + seed, x.chance(seed, 2, 1), times);
      due("one number a time, seed " + seed, x.chance(seed, 99, 1), times);
    }
    due("two can't be", x.chance(5, 99, 2), 0);
    x.crack(0, 1);
    x.go(1);
    due("those of now with", x.chance(5, 1, 1), 10);
    due("nothing is done", x.count(9), 1);
    due("seed -1", x.chance(-1, 1, 0), -1);
    due("n of 0", x.chance(0, 0, 0), -1);
    due("n of 100", x.chance(0, 100, 0), -1);
    due("21", x.chance(0, 1, 21), -1);
    due("20", x.chance(0, 1, 20), 0);
    due("-1", x.chance(0, 1, -1), -1);
    PlatePiles sure = Check.of("maid m 1;pile p;plate p 1 0;turn m p 1 0;chip 100;");
    due("no number", sure.chance(0, 1, 1), 10);
  }

  // Promise 33
  private static void tried() {
    PlatePiles x = Check.of(THREE);
    due("heedless", x.tried(0, 0, 3), 2);
    due("deeper", x.tried(1, 0, 3), 2);
    due("without m", x.tried(2, 0, 3), 1);
    due("twice", x.tried(3, 0, 3), 3);
    due("by all", x.tried(4, 0, 3), 2);
    due("n of 0", x.tried(0, 0, 0), 3);
    due("n of 200", x.tried(0, 0, 200), 2);
    due("n of 201", x.tried(0, 0, 201), -1);
    due("n of -1", x.tried(0, 0, -1), -1);
    due("no such what", x.tried(5, 0, 1), -1);
    due("no such what", x.tried(-1, 0, 1), -1);
    due("i of all but 2", x.tried(0, 1, 1), -1);
    due("i of all but 2", x.tried(4, 1, 1), -1);
    due("without n", x.tried(2, 1, 3), 3);
    due("no such maid", x.tried(2, 2, 1), -1);
    due("no such maid", x.tried(2, -1, 1), -1);
    String base = "maid m 1;pile p;plate p 1 0;plate p 3 0;plate p 2 0;turn m p 3 0;";
    // 1 3 2 has the gaps 1 and 3 (isn't lowest); 2 3 1 has 1 and 3.
    due("idle by heed", Check.of("maid m 1;pile p;plate p 2 0;plate p 1 0;turn m p 2 0;law heed 0;").ahead(1, 5, 0), 1);
    due("but not heedless", Check.of("maid m 1;pile p;plate p 2 0;plate p 1 0;turn m p 2 0;law heed 0;").tried(0, 0, 1), 0);
    due("idle by depth all the same", Check.of("maid m 1;pile p;plate p 2 0;plate p 1 0;turn m p 3 0;law heed 0;").tried(0, 0, 1), 1);
    due("6 is idle", Check.of(base + "turn m p 5 0;").tried(1, 0, 1), 2);
    due("by all: heed as that depth", Check.of(base + "law heed depth=3;").tried(4, 0, 1), 2);
    due("by all, 2 1 from 1", Check.of("maid m 1;pile p;plate p 2 0;plate p 1 0;turn m p 1 0;").tried(4, 0, 1), 0);
    due("by all of none", Check.of("maid m 1;pile p;turn m p 1 0;").tried(4, 0, 1), 0);
    // Twice: tired by the first time, so the second one is not heeded.
    due("twice with all that comes of it",
        Check.of("maid m 1;pile p;plate p 2 0;plate p 1 0;turn m p 2 0;law heed tired<1;").tried(3, 0, 1), 0);
    due("twice", Check.of("maid m 1;pile p;plate p 2 0;plate p 1 0;turn m p 2 0;").tried(3, 0, 1), 1);
    due("each behind the other", Check.of("maid m 1;pile p;plate p 2 0;plate p 1 0;plate p 3 0;turn m p 2 0;turn m p 3 0;").tried(3, 0, 1), 1);
    due("nothing is done", x.count(5), 0);
  }

  // Promise 34
  private static void undone() {
    PlatePiles x = Check.of(THREE);
    x.turn(0, 2);
    x.move(2, 1);
    x.crack(1, 0);
    due("wrong ones aren't kept", x.turn(0, 9), -1);
    due("wrong ones aren't kept", x.move(2, 0), -2);
    due("wrong ones aren't kept", x.crack(1, 0), false);
    due("three", x.count(15), 3);
    due("chipping", x.undo(), 2);
    due("not chipped", x.count(9), 0);
    due("moving", x.undo(), 1);
    due("r has it", x.pile(2, 0), 1);
    due("r's face", x.plate(2, 0, 2), 1);
    due("q", x.plate(1, 0, 1), 2);
    due("turning", x.undo(), 0);
    due("p", x.plate(0, 0, 1), 3);
    due("faces", x.count(12), 2);
    due("not turned", x.pile(0, 4), 0);
    due("none", x.undo(), -1);
    for (int i = 0; i < 25; i++) {
      x.turn(0, 1 + i % 3);
    }
    due("20 at most", x.count(15), 20);
    for (int i = 19; i >= 0; i--) {
      due("undo " + i, x.undo(), i);
    }
    due("none", x.undo(), -1);
    due("five stay", x.pile(0, 4), 5);
    PlatePiles same = Check.of(THREE);
    for (int i = 0; i < 5; i++) {
      same.turn(0, 1 + i % 3);
    }
    for (int place = 0; place < 3; place++) {
      due("as by five", x.plate(0, place, 0) * 10 + x.plate(0, place, 2), same.plate(0, place, 0) * 10 + same.plate(0, place, 2));
    }
    x.turn(0, 1);
    x.go(0);
    due("no minute went by", x.undo(), 0);
    x.turn(0, 1);
    x.go(1);
    due("a minute went by", x.undo(), -1);
    x.turn(0, 1);
    x.keep();
    due("an image is no hindrance", x.undo(), 0);
    x.turn(0, 1);
    x.go(-1);
    due("nor is a wrong go", x.undo(), 0);
  }

  // Promises 35, 36
  private static void images() {
    PlatePiles x = Check.of(THREE + "chip 50;");
    due("none", x.back(), -1);
    x.go(1);
    x.turn(1, 1);
    x.crack(2, 0);
    int[] as = lookAt(x);
    due("keep", x.keep(), 1);
    x.turn(0, 2);
    x.move(2, 0);
    x.see(1, 0, 1, true);
    x.go(7);
    x.turn(1, 2);
    due("back", x.back(), 1);
    int[] is = lookAt(x);
    for (int i = 0; i < as.length; i++) {
      due("as in the image " + i, is[i], as[i]);
    }
    due("but what was seen", x.count(13), 1);
    due("nothing to undo", x.undo(), -1);
    x.go(5);
    due("again", x.back(), 1);
    x.go(2);
    due("in place of one ahead", x.keep(), 3);
    x.go(1);
    due("that one", x.back(), 3);
    PlatePiles numbers = Check.of("maid m 1;pile p;plate p 1 0;plate p 2 0;plate p 3 0;plate p 4 0;plate p 5 0;"
        + "turn m p 5 0;turn m p 4 1;turn m p 3 1;turn m p 5 2;turn m p 2 3;turn m p 5 4;seed 11;chip 50;");
    numbers.go(1);
    numbers.keep();
    numbers.go(9);
    int[] once = lookAt(numbers);
    numbers.back();
    numbers.go(9);
    int[] twice = lookAt(numbers);
    for (int i = 0; i < once.length; i++) {
      due("numbers as in the image " + i, twice[i], once[i]);
    }
  }

  private static int[] lookAt(PlatePiles x) {
    int piles = x.count(1);
    int[] made = new int[13 + piles * 25];
    for (int what = 0; what <= 12; what++) {
      made[what] = x.count(what);
    }
    for (int pile = 0; pile < piles; pile++) {
      for (int i = 0; i < 20; i++) {
        made[13 + pile * 25 + i] = x.plate(pile, i % 5, i / 5);
      }
      for (int what = 0; what < 5; what++) {
        made[13 + pile * 25 + 20 + what] = x.pile(pile, what);
      }
    }
    return made;
  }

  // Promise 37
  private static void counts() {
    PlatePiles x = Check.of(THREE + "law heed depth<3 or 1;");
    x.turn(2, 1);
    x.crack(1, 1);
    x.see(1, 0, 9, true);
    x.see(1, 0, 9, true);
    x.known(1);
    int[] due = {2, 3, 6, 4, 5, 0, 1, 1, 3, 1, 0, 0, 1, 2, 1, 2};
    for (int what = 0; what < due.length; what++) {
      due("count " + what, x.count(what), due[what]);
    }
    x.go(3);
    int[] then = {2, 3, 6, 4, 5, 3, 2, 1, 2, 1, 1, 7, 4, 2, 1, 0};
    for (int what = 0; what < then.length; what++) {
      due("count then " + what, x.count(what), then[what]);
    }
    due("16", x.count(16), -1);
    due("-1", x.count(-1), -1);
    due("lowest", x.count(LOWEST), -1);
    due("highest", x.count(HIGHEST), -1);
  }
}
