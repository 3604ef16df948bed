import java.lang.management.ManagementFactory;
import java.lang.reflect.InvocationTargetException;
import java.lang.reflect.Method;
import java.util.Random;

/** Every call with the wildest numbers, in states that went through much: nothing is thrown but by pile(), and little room is taken. */
public final class WildTest {
  private static final int[] NUMBERS = {Integer.MIN_VALUE, Integer.MIN_VALUE + 1, -1000, -3, -2, -1, 0, 0, 0, 1, 1, 1, 2, 2, 3, 4, 5, 6, 7,
      9, 10, 13, 14, 15, 20, 23, 24, 60, 61, 99, 100, 199, 200, 201, 700, 701, 9000, Integer.MAX_VALUE - 1, Integer.MAX_VALUE};
  private static final String[] TEXTS = {"",
      "maid a 9;maid b 9;maid c 9;maid d 9;pile a;pile b;pile c;pile d;plate a 5 1;plate a 4 0;plate a 3 1;plate a 2 0;plate a 1 0;"
          + "plate b 2 0;plate b 1 1;plate b 7 1;plate b 6 0;plate b 9 1;plate c 1 1;plate c 3 1;turn a a 5 0;turn b b 4 0;turn c c 2 0;"
          + "turn d a 1 3;turn a a 3 4;turn a b 5 5;turn d d 1 5;law crack size*gaps*9;law effort 9999/(gaps-1);law heed not tired/gaps=3;chip 7;",
      "maid a 0;pile a;turn a a 5 0;turn a a 1 0;law heed 1/0;law crack 1/0;law effort 1/0;"};

  private static final Check CHECK = new Check("WildTest");
  private static final Random RANDOM = new Random(7);

  public static void main(String[] args) throws Exception {
    Method[] methods = PlatePiles.class.getDeclaredMethods();
    java.util.Arrays.sort(methods, (a, b) -> a.toString().compareTo(b.toString()));
    for (int run = 0; run < 300; run++) {
      PlatePiles x = new PlatePiles();
      for (int call = 0; call < 512; call++) {
        if (call % 100 == 0) {
          Check.tell(x, TEXTS[RANDOM.nextInt(TEXTS.length)]);
        }
        Method method = methods[RANDOM.nextInt(methods.length)];
        if (java.lang.reflect.Modifier.isPublic(method.getModifiers())) {
          call(x, method);
        }
      }
    }
    room();
    CHECK.end();
  }

  private static void call(PlatePiles x, Method method) throws Exception {
    Object[] parts = new Object[method.getParameterCount()];
    StringBuilder told = new StringBuilder(method.getName());
    for (int i = 0; i < parts.length; i++) {
      boolean truth = method.getParameterTypes()[i] == boolean.class;
      parts[i] = truth ? (Object) RANDOM.nextBoolean() : (Object) NUMBERS[RANDOM.nextInt(NUMBERS.length)];
      told.append(' ').append(parts[i]);
    }
    String thrown = "";
    try {
      method.invoke(x, parts);
    } catch (InvocationTargetException e) {
      Throwable cause = e.getCause();
      boolean due = method.getName().equals("pile")
          && (cause.getClass() == IndexOutOfBoundsException.class || cause.getClass() == java.util.NoSuchElementException.class);
      thrown = due ? "" : cause.toString();
    }
    CHECK.due(told + " throws " + thrown, thrown.isEmpty(), true);
  }

  /** The dearest calls, 512 of them: what they take stays far below the room of some 7.3 million elements. */
  private static void room() {
    com.sun.management.ThreadMXBean bean = (com.sun.management.ThreadMXBean) ManagementFactory.getThreadMXBean();
    long before = bean.getThreadAllocatedBytes(Thread.currentThread().getId());
    PlatePiles x = new PlatePiles();
    Check.tell(x, TEXTS[1]);
    for (int i = 0; i < 500; i++) {
      int pile = i % 4;
      switch (i / 4 % 10) {
        case 0: x.fewest(pile, i / 40 % 2); break;
        case 1: x.could(pile, i / 40 % 2, 9); break;
        case 2: x.game(pile, i / 40 % 2, 0); break;
        case 3: x.match(5); break;
        case 4: x.deep(pile); break;
        case 5: x.ask(pile, 60, 1); break;
        case 6: x.chance(i, 99, 3); break;
        case 7: x.tried(pile, 0, 200); break;
        case 8: x.howMany(pile + 2, i / 40 % 2, 3); break;
        default: x.move(pile, i % 3); break;
      }
    }
    long taken = bean.getThreadAllocatedBytes(Thread.currentThread().getId()) - before;
    CHECK.due("bytes taken " + taken + " are below a million", taken < 1000000, true);
  }
}
