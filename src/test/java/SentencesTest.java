public final class SentencesTest {
    public static void main(String[] args) {
        TermsSentences.test();
        SpacesSentences.test();
        RulesSentences.test();
        Script.end();
    }
}
