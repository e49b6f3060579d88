/**
 * The document from its first line to its last, sentence by sentence: the walk fails where the
 * document does not go on with what is quoted, so that no sentence of it can be left out.
 */
public final class DocumentTest {
    public static void main(String[] args) {
        DescriptionWalk.walk();
        TextWalk.walk();
        DiagramWalk.walk();
        StateWalk.walk();
        PromiseWalk.walk();
        TablePromiseWalk.walk();
        Walk.end();
        Check.end();
    }
}
