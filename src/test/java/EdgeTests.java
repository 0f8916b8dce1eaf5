/** Each sentence of the document that names an edge, told with its promise, and the answers that it asks for. */
public final class EdgeTests {
    public static void main(String[] args) throws Exception {
        Says.readDocument();
        FaceEdges.all();
        TextEdges.all();
        StrokeEdges.all();
        WayEdges.all();
        LineEdges.all();
        ImageEdges.all();
        if (Says.knowsDocument()) {
            for (int promise = 1; promise <= 32; promise++) {
                Says.allTold("Promise " + promise);
            }
            Says.allTold("Terms", "Words in capitals are told where they come first.", "All numbers are whole;", "======== 1", "======== 2",
                "======== 3", "```text");
            Says.allTold("The public face", "```java", "```");
        }
        Due.end("EdgeTests");
    }
}
