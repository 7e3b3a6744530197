/** Each sentence of the document, in its terms and in its promises, has a test that names it. */
public final class SentenceTest {
    public static void main(String[] args) {
        TextSentences.all();
        FaultSentences.all();
        LawSentences.all();
        DaySentences.all();
        AheadSentences.all();
        LoreSentences.all();
        CallSentences.all();
        AskSentences.all();
        Doc.noneIsLeft();
        Check.end("SentenceTest");
    }
}
