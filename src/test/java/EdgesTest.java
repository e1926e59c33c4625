import java.io.IOException;
import java.nio.file.Files;
import java.nio.file.Path;
import java.util.List;
import java.util.Map;

/** Each sentence of the document that names a boundary case, with a case of its own; none may be left out. */
public final class EdgesTest {
    /** What names no boundary: what it is about, what leads from one sentence to the next, and what is left free. */
    private static final List<String> PLAIN = List.of(
            "Assertions about signals: texts are read into properties, letters come one by one and checkers tell as soon as "
                + "what has come can't be made good any more; two properties are set against one another; rows of a sequence "
                + "are put into classes, and checkers told by flip-flops; and small designs of gates and latches are built or "
                + "read, of which the shortest run is found that makes a property fail.",
            "; what later calls answer is free.", "From a part that begins at place i on:", "The constants:");

    public static void main(String[] args) throws IOException {
        CallEdges.run();
        TextEdges.run();
        FaultEdges.run();
        RowEdges.run();
        FailEdges.run();
        DesignEdges.run();
        NumbersEdges.run();
        SearchEdges.run();
        FlopEdges.run();
        ClassCallEdges.run();
        DesignCallEdges.run();
        Path file = Path.of(System.getProperty("shared", "../shared"), "DOC.md");
        if (Files.exists(file)) {
            againstDocument(new Document(file));
        }
        int sentences = Edge.sentences().values().stream().mapToInt(List::size).sum();
        System.out.println("EdgesTest: " + sentences + " sentences have a case of their own");
        Check.done("EdgesTest");
    }

    private static void againstDocument(Document document) {
        for (Map.Entry<String, List<String>> section : Edge.sentences().entrySet()) {
            for (String sentence : section.getValue()) {
                Check.holds(section.getKey() + " says: " + sentence, document.has(section.getKey(), sentence));
            }
        }
        for (String name : document.names()) {
            for (String left : document.without(name, Edge.sentences().getOrDefault(name, List.of()))) {
                Check.holds(name + " has a case for: " + left, PLAIN.contains(left));
            }
        }
    }
}
