/** Each sentence of the document, by itself: see Bounds. Those that name a boundary case, then those that the others leave. */
public final class BoundsTest {
  public static void main(String[] args) {
    TextBounds.all();
    SculleryBounds.all();
    TurningBounds.all();
    SeenBounds.all();
    UndoBounds.all();
    PlainSentences.all();
    Bounds.everyWordIsTold();
    Bounds.CHECK.end();
  }
}
