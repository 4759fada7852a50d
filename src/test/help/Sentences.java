import java.io.IOException;
import java.nio.file.Files;
import java.nio.file.Path;
import java.util.BitSet;
import java.util.HashMap;
import java.util.Map;
import java.util.function.ToLongFunction;

/**
 * Looks at one sentence of the document after the other. A test quotes the words that it is about; at the end each
 * quote must stand in the document, and no words of the sections that were looked at may be left without a test.
 */
final class Sentences {
    private static final Path DOCUMENT = Path.of("../shared/DOC.md");

    private final Map<String, String> texts = new HashMap<>();
    private final Map<String, BitSet> quoted = new HashMap<>();
    private String section = "";
    private String sentence = "";
    private int looked = 0;
    private int wrong = 0;
    private boolean sentenceLooked = true;

    Sentences() {
        if (!Files.exists(DOCUMENT)) {
            System.out.println("the document is not there: what is quoted is not looked up");
            return;
        }
        try {
            read(Files.readString(DOCUMENT));
        } catch (IOException e) {
            throw new IllegalStateException(e);
        }
    }

    private void read(String document) {
        String heading = "";
        StringBuilder text = new StringBuilder();
        for (String line : (document + "\n## ").split("\n")) {
            if (line.startsWith("## ")) {
                texts.put(heading, folded(text.toString()));
                heading = line.substring(3).replaceAll(":.*", "");
                text.setLength(0);
            } else if (!line.startsWith("```")) {
                text.append(line).append('\n');
            }
        }
    }

    /** Without the face of a promise, and without the lines that tell only how the interface is parted. */
    private static String folded(String text) {
        return text.replaceAll("\\s+", " ").trim().replaceAll("^`[^`]*`: ", "").replaceAll(" Ahead of the calls .*", "");
    }

    /** A section of the document all of whose words get a test. */
    void section(String heading) {
        partOf(heading);
        quoted.computeIfAbsent(heading, h -> new BitSet());
    }

    void promise(int number) {
        section("Promise " + number);
    }

    /** A section of which only some words are looked at. */
    void partOf(String heading) {
        section = heading;
        if (!texts.isEmpty() && !texts.containsKey(heading)) {
            fault("the document has no such section");
        }
    }

    /** The words of the section that the next looks are about. */
    void says(String words) {
        endSentence();
        sentence = words;
        sentenceLooked = false;
        if (texts.isEmpty()) {
            return;
        }
        String text = texts.getOrDefault(section, "");
        BitSet marks = quoted.getOrDefault(section, new BitSet());
        int at = text.indexOf(words);
        while (at >= 0 && marks.get(at) && text.indexOf(words, at + 1) >= 0) {
            at = text.indexOf(words, at + 1);
        }
        if (at < 0) {
            fault("the document does not say so");
        } else {
            marks.set(at, at + words.length());
        }
    }

    private void endSentence() {
        if (!sentenceLooked) {
            fault("nothing is looked at");
        }
    }

    private void fault(String what) {
        wrong++;
        System.out.println(section + ", \"" + sentence + "\": " + what);
    }

    void due(String call, long got, long want) {
        looked++;
        sentenceLooked = true;
        if (got != want) {
            fault(call + " answered " + got + ", due is " + want);
        }
    }

    /** A call that is refused in these states (in all, if none is told), and that changes nothing that later calls show. */
    void refused(String what, long want, ToLongFunction<LeftStates> call, State... states) {
        for (State state : states.length > 0 ? states : new State[] {State.NEW, State.MIDDLE, State.CROWDED}) {
            String where = what + " of " + state.name;
            due(where, call.applyAsLong(state.made()), want);
            String changed = state.changedBy(call);
            if (changed != null) {
                fault(where + " changed something: " + changed);
            }
        }
    }

    /** Ends the test: with 1, if an answer was wrong or words were left without a test. */
    void end() {
        endSentence();
        for (String heading : quoted.keySet()) {
            lookForUntold(heading);
        }
        System.out.println(looked + " looks, " + wrong + " wrong");
        if (wrong != 0) {
            System.exit(1);
        }
    }

    private void lookForUntold(String heading) {
        String text = texts.getOrDefault(heading, "");
        BitSet marks = quoted.get(heading);
        for (int from = marks.nextClearBit(0); from < text.length(); from = marks.nextClearBit(from)) {
            int to = marks.nextSetBit(from);
            to = to < 0 ? text.length() : to;
            String untold = text.substring(from, to);
            if (untold.chars().anyMatch(Character::isLetterOrDigit)) {
                wrong++;
                System.out.println(heading + ": no test is about \"" + untold + "\"");
            }
            from = to;
        }
    }
}
