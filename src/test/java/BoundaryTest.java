/** Every boundary case that a sentence of the document names, promise by promise. */
public final class BoundaryTest {
    public static void main(String[] args) {
        GrammarCases.add();
        FactsCases.add();
        TextCases.add();
        TreesCases.add();
        DrawsCases.add();
        AskedBeforeCases.add();
        if (Cases.run() != 0) {
            System.exit(1);
        }
    }
}
