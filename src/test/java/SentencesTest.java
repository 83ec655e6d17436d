import java.util.Set;

/**
 * One test for each sentence of the document that names a boundary: what the call answers there,
 * what it throws, that a call that throws changes nothing, and which of several exceptions it is.
 * A sentence without a test of its own fails, unless it stands in the list below.
 */
public final class SentencesTest {
    /** Sentences that name no boundary of their own; the others of their section are tested. */
    private static final Set<String> WITHOUT_BOUNDARY = Set.of(
        "What it is | The rules of a worker placement game for two to four players: action spaces with one or two places, goods that "
            + "accumulate, rooms and family growth, feeding with conversion of goods, breeding and spoilage, eight buildings that change "
            + "costs and yields, a start marker, scoring, and a search for the best placements of a player in the present round.",
        "Promise 11: goods | Returns the amount.",
        "Promise 12: player | Returns a value of a player.",
        "Promise 12: player | Returns that value.",
        "Promise 14: space | Returns a value of a space.",
        "Promise 14: space | Returns that value.",
        "Promise 15: cost | Returns the cost.",
        "Promise 18: score | Returns a part of the score of a player.",
        "Promise 18: score | Returns that part.",
        "Promise 25: move | Returns that part.",
        "Promise 27: digest | Returns the hash.");

    public static void main(String[] args) {
        TermsSentences.test();
        SpacesSentences.test();
        RulesSentences.test();
        GameSentences.test();
        StateSentences.test();
        CountsSentences.test();
        SearchSentences.test();
        UndoSentences.test();
        Sentence.checkThatAllAreTested(WITHOUT_BOUNDARY);
        Script.end();
    }
}
