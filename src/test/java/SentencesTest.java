public final class SentencesTest {
    public static void main(String[] args) {
        TermsSentences.test();
        SpacesSentences.test();
        Script.end();
    }
}
