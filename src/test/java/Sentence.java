import java.util.LinkedHashSet;
import java.util.List;
import java.util.Set;

/** The test of one sentence of the document, with a name that shows the sentence. */
final class Sentence {
    private static final int KEPT_STATES = 4;
    private static final Set<String> TESTED = new LinkedHashSet<>();

    private final String name;

    private Sentence(String name) {
        this.name = name;
    }

    static Sentence of(String section, String words) {
        String name = section + " | " + words;
        Script.check("the document says: " + name, Document.sentences().contains(name));
        Script.check("one test alone stands for: " + name, TESTED.add(name));
        return new Sentence(name);
    }

    /** A script in which the sentence says what the answers are. */
    Sentence holds(String situation, String script) {
        Script.run(named(situation), script);
        return this;
    }

    /** Each of the calls throws the exception behind a script, and changes nothing. */
    Sentence refuses(String situation, String script, String exception, String... refused) {
        Script.run(named(situation), script);
        for (String call : refused) {
            String got = Script.answer(Script.replay(script), call);
            Script.check(named(situation) + ": " + call + " = throws " + exception + ", answered " + got,
                got.equals("throws " + exception));
            checkNothingChanged(named(situation) + ": " + call, script, call);
        }
        return this;
    }

    /** Each comparison has two new objects, so that none is asked more often than the document allows. */
    private static void checkNothingChanged(String name, String script, String call) {
        for (int undone = 0; undone <= KEPT_STATES; undone++) {
            VillageBoard without = Script.replay(script);
            VillageBoard with = Script.replay(script);
            Script.answer(with, call);
            boolean goesOn = true;
            for (int i = 0; i < undone; i++) {
                String due = Script.answer(without, "undo()");
                Script.check(name + " leaves the undo stack", due.equals(Script.answer(with, "undo()")));
                goesOn = !due.startsWith("throws");
            }
            Script.check(name + " changes nothing, seen " + undone + " states before",
                snapshot(without, script).equals(snapshot(with, script)));
            if (!goesOn) {
                return;
            }
        }
    }

    private static List<String> snapshot(VillageBoard board, String script) {
        List<String> answers = Snapshot.of(board);
        // Four players and three lengths are asked for beside the answers.
        if (answers.size() + 7 + Script.steps(script).size() + 1 + KEPT_STATES > Script.MOST_CALLS) {
            throw new IllegalArgumentException("too many calls on one object: " + script);
        }
        return answers;
    }

    private String named(String situation) {
        return name + " [" + situation + "]";
    }

    /** Fails for each sentence of the document that has no test and is not said to need none. */
    static void checkThatAllAreTested(Set<String> withoutBoundary) {
        for (String sentence : Document.sentences()) {
            Script.check("a test, or the list of sentences without a boundary, has: " + sentence,
                TESTED.contains(sentence) != withoutBoundary.contains(sentence));
        }
        for (String sentence : withoutBoundary) {
            Script.check("the document says: " + sentence, Document.sentences().contains(sentence));
        }
        System.out.println(TESTED.size() + " sentences of the document have a test of their own");
    }
}
