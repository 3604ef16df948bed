import java.nio.charset.StandardCharsets;

/** What the tests share: feeding a text, and telling an answer that is not due. */
final class Check {
  private final String name;
  private int asked = 0;
  private int wrong = 0;

  Check(String name) {
    this.name = name;
  }

  void due(String what, long got, long want) {
    asked++;
    if (got != want) {
      wrong++;
      if (wrong <= 50) {
        System.out.println(name + ": " + what + " answered " + got + ", due is " + want);
      }
    }
  }

  void due(String what, boolean got, boolean want) {
    due(what, got ? 1 : 0, want ? 1 : 0);
  }

  int wrong() {
    return wrong;
  }

  void end() {
    System.out.println(name + ": " + asked + " answers, " + wrong + " not as due");
    if (wrong != 0) {
      System.exit(1);
    }
  }

  /** Five ints for each twenty bytes of the text, blanks behind it. */
  static int[] ints(byte[] bytes) {
    int[] made = new int[(bytes.length + 19) / 20 * 5];
    for (int i = 0; i < made.length * 4; i++) {
      int b = i < bytes.length ? bytes[i] & 255 : 32;
      made[i / 4] |= b << 24 - i % 4 * 8;
    }
    return made;
  }

  static byte[] bytes(String text) {
    return text.getBytes(StandardCharsets.ISO_8859_1);
  }

  static int tell(PlatePiles x, String text) {
    byte[] bytes = bytes(text);
    int[] ints = ints(bytes);
    for (int i = 0; i < ints.length; i += 5) {
      x.feed(ints[i], ints[i + 1], ints[i + 2], ints[i + 3], ints[i + 4]);
    }
    return x.text(bytes.length);
  }

  static PlatePiles of(String text) {
    PlatePiles x = new PlatePiles();
    if (tell(x, text) < 0) {
      throw new IllegalStateException("fault " + x.fault(0) + " at " + x.fault(1) + " of " + text);
    }
    return x;
  }

  static int letters(String name) {
    int made = 0;
    for (int i = 0; i < 6; i++) {
      made = made << 5 | (i < name.length() ? name.charAt(i) - 'a' + 1 : 0);
    }
    return made;
  }

  /** 1 IndexOutOfBoundsException, 2 NoSuchElementException, 0 nothing is thrown by pile(). */
  static int thrownByPile(PlatePiles x, int pile, int what) {
    try {
      x.pile(pile, what);
      return 0;
    } catch (IndexOutOfBoundsException e) {
      return 1;
    } catch (java.util.NoSuchElementException e) {
      return 2;
    }
  }
}
