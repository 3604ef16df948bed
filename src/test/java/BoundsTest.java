/** Each sentence of the document that names a boundary case, by itself: see Bounds. */
public final class BoundsTest {
  public static void main(String[] args) {
    TextBounds.all();
    SculleryBounds.all();
    TurningBounds.all();
    SeenBounds.all();
    UndoBounds.all();
    Bounds.everySectionIsTold();
    Bounds.CHECK.end();
  }
}
