import java.io.IOException;

/** Each sentence of the document that names an edge, with a test of its own, in the document's order. */
public final class EdgeTests {
  public static void main(String[] args) throws IOException {
    Edges edges = new Edges();
    new TextEdges(edges).run();
    new TermEdges(edges).run();
    new BureauEdges(edges).run();
    new DeedEdges(edges).run();
    new MatchEdges(edges).run();
    new TrayEdges(edges).run();
    edges.end("edges");
  }
}
