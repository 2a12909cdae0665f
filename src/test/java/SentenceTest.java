/** Runs the tests by sentence: for each sentence of DOC.md at least one that would fail if it were broken. */
public final class SentenceTest {
    public static void main(String[] args) throws Exception {
        Sentences.load();
        TextSentences.all();
        PlanSentences.all();
        ChoiceSentences.all();
        MorningSentences.all();
        if (!Sentences.allDue()) System.exit(1);
    }
}
