import java.io.IOException;

/** Each sentence of the document's Terms and Promises has a test of its own, named by it. */
public final class SentencesTest {
  public static void main(String[] args) throws IOException {
    Doc.open();
    Terms1Sentences.all();
    TextSentences.all();
    AskedSentences.all();
    HandSentences.all();
    ActSentences.all();
    Terms3Sentences.all();
    HatersSentences.all();
    OrchardSentences.all();
    YearsSentences.all();
    SeenSentences.all();
    PlanSentences.all();
    JudgeSentences.all();
    TapeSentences.all();
    Doc.close();
    Due.end("SentencesTest");
  }
}
