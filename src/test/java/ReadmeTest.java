import java.nio.file.Files;
import java.nio.file.Path;
import java.util.List;
import java.util.Set;
import java.util.TreeSet;

/** The examples of README.md, line by line, with the answers that it tells. */
public final class ReadmeTest extends Checks {
    static int four(String text, int at) {
        return text.charAt(at) << 24 | text.charAt(at + 1) << 16 | text.charAt(at + 2) << 8 | text.charAt(at + 3);
    }

    static void enter(ChessNotes notes, String text) {
        String padded = text + " ".repeat(19);
        for (int at = 0; at + 20 <= padded.length(); at += 20) {
            notes.append(four(padded, at), four(padded, at + 4), four(padded, at + 8),
                    four(padded, at + 12), four(padded, at + 16));
        }
        notes.truncateInput(text.length());
    }

    private static ChessNotes addedNote() {
        sentence("README: notes");
        ChessNotes notes = new ChessNotes();
        int positions = notes.addNote(ChessNotes.ROOK, ChessNotes.NONE, 1, ChessNotes.NONE, false, false);
        due(positions, 4);
        long games = notes.gameCount();
        due(games, 4L);
        int open = notes.doubt(0);
        due(open, 4);
        int left = notes.clarify(0, 3, ChessNotes.NONE);
        due(left, 1);
        boolean certain = notes.isCertain();
        due(certain, true);
        int undoable = notes.undo();
        due(undoable, 1);
        due(notes.gameCount(), 4L);
        return notes;
    }

    private static void typedTexts(ChessNotes notes) {
        sentence("README: texts");
        enter(notes, "board 4 3; white king 0 0; white rook 1 0; black king 3 2; black knight 2 2;");
        int pieces = notes.load();
        due(pieces, 4);
        enter(notes, "note rook to 1 2; note king; drop;");
        int commands = notes.play();
        due(commands, 3);
        enter(notes, "note knight to 4 1;");
        int refused = notes.play();
        due(refused, NONE);
        int code = notes.errorCode();
        due(code, 2);
        int offset = notes.errorOffset();
        due(offset, 15);
    }

    private static void shownPosition(ChessNotes notes) {
        sentence("README: a position");
        StringBuilder shown = new StringBuilder();
        int length = notes.writePosition(0);
        for (int i = 0; i < length; i++) {
            shown.append((char) notes.outputByte(i));
        }
        due(shown.toString(), ".Rnk\n....\nK...");
    }

    private static String withoutComment(String line) {
        int comment = line.indexOf("//");
        return (comment < 0 ? line : line.substring(0, comment)).trim();
    }

    /** Each line of a Java example stands in this file, too. */
    private static void sameLines() throws Exception {
        sentence("README: its examples are the ones that are tested here");
        Set<String> here = new TreeSet<>();
        for (String line : Files.readAllLines(Path.of("src", "test", "java", "ReadmeTest.java"))) {
            here.add(line.trim());
        }
        List<String> readme = Files.readAllLines(Path.of("README.md"));
        boolean isJava = false;
        int lines = 0;
        for (String line : readme) {
            if (line.startsWith("```")) {
                isJava = line.equals("```java");
            } else if (isJava && !line.isEmpty()) {
                String code = withoutComment(line);
                due(code + here.contains(code), code + true);
                lines++;
            }
        }
        due(lines > 25, true);
    }

    public static void main(String[] args) throws Exception {
        ChessNotes notes = addedNote();
        typedTexts(notes);
        shownPosition(notes);
        sameLines();
        end();
    }
}
