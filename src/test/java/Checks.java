import java.nio.charset.StandardCharsets;

/** What the tests of the boundary cases share: one sentence of the document at a time, and what it asks for. */
abstract class Checks {
    static final int NONE = ChessNotes.NONE;
    static final int KING = ChessNotes.KING;
    static final int QUEEN = ChessNotes.QUEEN;
    static final int ROOK = ChessNotes.ROOK;
    static final int BISHOP = ChessNotes.BISHOP;
    static final int KNIGHT = ChessNotes.KNIGHT;
    static final int WHITE = ChessNotes.WHITE;
    static final int BLACK = ChessNotes.BLACK;
    static final Class<?> ARGUMENT = IllegalArgumentException.class;
    static final Class<?> INDEX = IndexOutOfBoundsException.class;
    static final Class<?> STATE = IllegalStateException.class;

    static final String KINGS = "board 3 3;white king 0 0;black king 2 2;";
    static final String TEN_PIECES = "board 6 6;white king 0 0;black king 5 5;white rook 1 0;white rook 2 0;"
            + "white rook 3 0;white rook 4 0;black rook 1 5;black rook 2 5;black rook 3 5;black rook 4 5;";

    /** Ten notes that leave one game on the board of KINGS. */
    static final String TEN_NOTES = "note king to 1 0;note king to 1 2;note king to 0 0;note king to 2 2;"
            + "note king to 1 0;note king to 1 2;note king to 0 0;note king to 2 2;note king to 1 0;note king to 1 2;";

    /** White has 3 + 9 + 19 + 9 moves here, and 3 + 13 + 10 + 15 in the other setup. */
    static final String FORTY_MOVES = "board 6 6;white king 0 0;black king 5 5;"
            + "white rook 0 2;white queen 2 3;white rook 1 5;";
    static final String FORTY_ONE_MOVES = "board 6 6;white king 0 0;black king 5 5;"
            + "white queen 5 0;white rook 1 3;white queen 2 2;";

    private static final int MOST_TOLD = 30;

    private static String sentence = "";
    private static int sentences = 0;
    private static int answers = 0;
    private static int wrong = 0;

    interface Call {
        Object make();
    }

    interface Run {
        void on(ChessNotes x);
    }

    /** Tells which sentence the checks that follow belong to. */
    static void sentence(String words) {
        sentence = words;
        sentences++;
    }

    static void due(Object got, Object want) {
        answers++;
        if (!got.equals(want)) {
            wrong++;
        }
        if (!got.equals(want) && wrong <= MOST_TOLD) {
            System.out.println(sentence + ": line " + line() + ": answered " + got + ", due is " + want);
        }
    }

    static void fails(Class<?> want, Call call) {
        Object got;
        try {
            got = call.make();
        } catch (RuntimeException thrown) {
            got = thrown.getClass();
        }
        due(got, want);
    }

    private static int line() {
        for (StackTraceElement call : new Throwable().getStackTrace()) {
            if (!call.getClassName().equals("Checks")) {
                return call.getLineNumber();
            }
        }
        return 0;
    }

    static void end() {
        System.out.println(sentences + " sentences, " + answers + " answers, " + wrong + " of them not as due");
        if (wrong != 0) {
            System.exit(1);
        }
    }

    /** Writes the text into an empty input buffer. */
    static int type(ChessNotes x, String text) {
        byte[] bytes = (text + " ".repeat(19)).getBytes(StandardCharsets.ISO_8859_1);
        for (int from = 0; from + 20 <= bytes.length; from += 20) {
            int[] words = new int[5];
            for (int i = 0; i < 20; i++) {
                words[i / 4] = words[i / 4] << 8 | bytes[from + i] & 255;
            }
            x.append(words[0], words[1], words[2], words[3], words[4]);
        }
        return x.truncateInput(text.length());
    }

    static int load(ChessNotes x, String text) {
        type(x, text);
        return x.load();
    }

    static int play(ChessNotes x, String text) {
        type(x, text);
        return x.play();
    }

    static ChessNotes loaded(String text) {
        ChessNotes x = new ChessNotes();
        if (load(x, text) == NONE) {
            due("code " + x.errorCode() + " at " + x.errorOffset(), "a setup");
        }
        return x;
    }

    static int note(ChessNotes x, int kind, int fromColumn, int toColumn, int toRow) {
        return x.addNote(kind, fromColumn, toColumn, toRow, false, false);
    }

    static String output(ChessNotes x, int length) {
        StringBuilder text = new StringBuilder();
        for (int i = 0; i < length; i++) {
            text.append((char) x.outputByte(i));
        }
        return text.toString();
    }

    static String shown(ChessNotes x, int position) {
        return output(x, x.writePosition(position));
    }

    static String thrownBy(Call call) {
        try {
            return "" + call.make();
        } catch (RuntimeException thrown) {
            return thrown.getClass().getSimpleName();
        }
    }

    static String errors(ChessNotes x) {
        return x.errorCode() + " at " + x.errorOffset();
    }

    /** The board, the notes and what follows from them; the output is written over. */
    static String state(ChessNotes x) {
        int notes = x.noteCount();
        int last = x.positionsAfter(notes) - 1;
        StringBuilder told = new StringBuilder();
        told.append(x.columns()).append(" by ").append(x.rows()).append(", colour ").append(x.colourToMove());
        for (int i = 0; i < notes; i++) {
            int moves = x.doubt(i);
            told.append("; note ").append(x.noteKind(i)).append(' ').append(x.noteFromColumn(i)).append(' ')
                    .append(x.noteFromRow(i)).append(' ').append(x.noteToColumn(i)).append(' ').append(x.noteToRow(i))
                    .append(' ').append(x.noteTakes(i)).append(' ').append(x.noteChecks(i)).append(' ')
                    .append(x.positionsAfter(i)).append(' ').append(moves).append(' ')
                    .append(x.moveOrigin(i, 0)).append(' ').append(x.moveTarget(i, moves - 1)).append(' ')
                    .append(x.gamesWithMove(i, 0));
        }
        told.append("; ").append(last + 1).append(' ').append(x.gameCount()).append(' ').append(x.certainSquares())
                .append(' ').append(x.mostDoubtfulNote()).append(' ').append(x.gamesTo(last)).append(' ')
                .append(x.legalMoves(last)).append(' ').append(x.inconsistencies()).append('\n')
                .append(shown(x, 0)).append('\n').append(last > 0 ? shown(x, last) : "");
        return told.toString();
    }

    /** A few answers that differ between the states that the tests make. */
    static String brief(ChessNotes x) {
        int notes = x.noteCount();
        return x.columns() + "x" + x.rows() + " " + notes + " " + x.positionsAfter(notes) + " " + x.gameCount() + " "
                + x.certainSquares() + " " + x.legalMoves(0) + (notes > 0 ? " " + x.noteFromRow(0) : "") + "; ";
    }

    /** All that an object holds but its input and its reported error; nothing of it is left afterwards. */
    static String rest(ChessNotes x) {
        StringBuilder told = new StringBuilder();
        told.append(x.outputByte(0)).append(' ').append(x.outputByte(5)).append(' ').append(x.outputByte(10)).append(' ')
                .append(x.outputByte(11)).append(' ').append(x.outputByte(14)).append('\n').append(state(x));
        int changes = x.undoableChanges();
        told.append("\nundo ").append(changes).append(": ");
        for (int i = 0; i < changes; i++) {
            told.append(x.undo()).append(' ').append(brief(x));
        }
        told.append(thrownBy(x::undo));
        for (int slot = 0; slot < 2; slot++) {
            int from = slot;
            told.append("\nslot ").append(slot).append(": ").append(thrownBy(() -> x.restore(from))).append(' ').append(brief(x));
        }
        return told.toString();
    }

    /** All that an object holds; nothing of it is left afterwards. */
    static String story(ChessNotes x) {
        StringBuilder told = new StringBuilder(errors(x));
        told.append('\n').append(rest(x));
        int spaces = 0x20202020;
        told.append("\ninput ").append(x.append(spaces, spaces, spaces, spaces, spaces)).append(' ').append(x.play())
                .append(' ').append(errors(x)).append(' ').append(brief(x));
        return told.toString();
    }
}
