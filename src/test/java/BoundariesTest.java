import java.io.IOException;

/** Every sentence of the document, its Terms too, has tests of its own: at its limits, on both sides of them. */
public final class BoundariesTest {
    public static void main(String[] args) throws IOException, ReflectiveOperationException {
        int wrong = Held.run(TextSentences.class, RuleSentences.class, WeekSentences.class, ActSentences.class,
            AheadSentences.class, ChoiceSentences.class, NoteSentences.class, KeepSentences.class);
        if (wrong != 0) {
            System.exit(1);
        }
    }
}
