import java.io.IOException;

/** Each sentence of the document that names a boundary case: just inside, just outside, what is left as it was. */
public final class EdgeTest {
  public static void main(String[] args) throws IOException {
    Edges e = new Edges();
    TermEdges.all(e);
    OrderEdges.all(e);
    BlotEdges.all(e);
    LawTextEdges.all(e);
    LawEdges.all(e);
    MoonEdges.all(e);
    SheetEdges.all(e);
    ShapeEdges.all(e);
    TellingEdges.all(e);
    TapeEdges.all(e);
    AskingEdges.all(e);
    e.end();
  }
}
