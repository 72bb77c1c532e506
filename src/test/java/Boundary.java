import java.io.IOException;
import java.util.ArrayList;
import java.util.List;
import java.util.Set;

/**
 * What all boundary tests share. Each test first says which sentence of the document it is for; every
 * answer that is not as due is then told with that sentence, and a sentence without a test is told, too.
 */
final class Boundary {
    static final int NONE = SpaceWalls.NONE;
    static final int LEAST = Integer.MIN_VALUE;
    static final int GREATEST = Integer.MAX_VALUE;

    private static final int PROMISES = 20;

    interface Maker {
        SpaceWalls make();
    }

    interface Ask {
        int of(SpaceWalls space);
    }

    private final Due due = new Due("BoundariesTest");
    private final Document document;
    private String about = "";
    private int asked = 1;

    Boundary() throws IOException {
        document = new Document();
    }

    void terms(String sentence) {
        begin("Terms", sentence);
    }

    void promise(int number, String sentence) {
        begin("Promise " + number, sentence);
    }

    void begin(String section, String sentence) {
        askedSome();
        about = section + ", \"" + sentence + "\": ";
        asked = 0;
        due.holds(about + "stands in the document, and has this test alone", document.strikeOut(section, sentence));
    }

    private void askedSome() {
        due.holds(about + "is asked about", asked > 0);
    }

    void is(String call, long got, long want) {
        asked++;
        due.is(about + call, got, want);
    }

    void is(String call, boolean got, boolean want) {
        is(call, got ? 1 : 0, want ? 1 : 0);
    }

    /** Two texts of Answers; of another one only the first line that is not as due is told. */
    void same(String what, String got, String want) {
        asked++;
        String[] gotLines = got.split("\n");
        String[] wantLines = want.split("\n");
        int line = 0;
        while (line + 1 < Math.min(gotLines.length, wantLines.length) && gotLines[line].equals(wantLines[line])) {
            line++;
        }
        due.is(about + what + ", line " + line, gotLines[line], wantLines[line]);
        due.is(about + what + ", lines", gotLines.length, wantLines.length);
    }

    /** A refused call: its answer, and that the object answers on as one that never had that call. */
    void refused(String call, Maker maker, Ask ask, int want) {
        String never = Answers.of(maker.make());
        SpaceWalls space = maker.make();
        is(call, ask.of(space), want);
        same("after " + call, Answers.of(space), never);
        // Once more, as the object may by now hold what it found out for the answers.
        is(call + " again", ask.of(space), want);
        same("after " + call + " again", Answers.of(space), never);
    }

    /** The same for calls that answer true or false: false is due. */
    void refusedAsFalse(String call, Maker maker, Ask ask) {
        refused(call, maker, ask, 0);
    }

    void end() {
        askedSome();
        about = "";
        List<String> asked = new ArrayList<>(List.of("What it is", "Terms"));
        for (int number = 1; number <= PROMISES; number++) {
            asked.add("Promise " + number);
        }
        for (String section : asked) {
            String left = document.leftOf(section);
            due.holds(section + " has no test for: " + left, left.isEmpty());
        }
        Set<String> sections = document.sections();
        due.holds("all of " + asked + " are in the document", sections.containsAll(asked));
        sections.removeAll(asked);
        // LanguageTest asks about the face; of what is not promised nothing can be asked.
        sections.removeAll(List.of("The public face", "Not promised"));
        due.holds("sections without a test: " + sections, sections.isEmpty());
        due.end();
    }
}
