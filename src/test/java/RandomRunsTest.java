import java.nio.charset.StandardCharsets;
import java.util.ArrayList;
import java.util.List;
import java.util.Random;
import java.util.function.Supplier;

/** Long runs of drawn calls (the draws are the same each time) against the Reference. */
public final class RandomRunsTest {
    private static final int RUNS = 500;
    private static final int CALLS = 512;
    private static final String[] KINDS = {"king", "queen", "rook", "bishop", "knight"};

    private static int wrong = 0;

    private final Random random;
    private final int run;
    private final ChessNotes notes = new ChessNotes();
    private final Reference reference = new Reference();
    private final List<String> told = new ArrayList<>();
    private boolean differs = false;

    private RandomRunsTest(int run) {
        this.run = run;
        this.random = new Random(run);
    }

    public static void main(String[] args) {
        int runs = args.length > 0 ? Integer.parseInt(args[0]) : RUNS;
        int first = args.length > 1 ? Integer.parseInt(args[1]) : 0;
        for (int run = first; run < first + runs; run++) {
            new RandomRunsTest(run).go();
        }
        System.out.println(runs + " random runs, " + wrong + " of them wrong");
        if (wrong != 0) {
            System.exit(1);
        }
    }

    private void go() {
        // The first runs keep to the first position, the others get a board of their own.
        if (run % 4 != 0) {
            enter(setupText(), true);
        }
        while (told.size() < CALLS && !differs) {
            step();
        }
        if (differs) {
            wrong++;
            System.out.println("run " + run + ", the last calls:");
            told.subList(Math.max(0, told.size() - 15), told.size()).forEach(System.out::println);
        }
    }

    private static String answer(Supplier<Object> call) {
        try {
            return String.valueOf(call.get());
        } catch (RuntimeException thrown) {
            return "throws " + thrown.getClass().getName();
        }
    }

    private String due(String call, Supplier<Object> mine, Supplier<Object> theirs) {
        if (told.size() >= CALLS || differs) {
            return "";
        }
        String got = answer(mine);
        String want = answer(theirs);
        differs = !got.equals(want);
        told.add(call + " -> " + got + (differs ? ", due is " + want : ""));
        return want;
    }

    private int any(int low, int high) {
        return low + random.nextInt(high - low + 1);
    }

    /** Mostly a number from 0 to below the bound, sometimes one just outside, seldom an extreme one. */
    private int around(int bound) {
        int draw = random.nextInt(20);
        if (draw == 0) {
            return new int[] {Integer.MIN_VALUE, Integer.MAX_VALUE, -2, bound + 1}[random.nextInt(4)];
        }
        return draw < 3 || bound < 1 ? any(-1, bound) : random.nextInt(bound);
    }

    private void step() {
        int draw = random.nextInt(100);
        if (draw < 22) {
            note(draw < 16);
        } else if (draw < 28) {
            clarify();
        } else if (draw < 31) {
            due("dropNote()", notes::dropNote, reference::dropNote);
        } else if (draw < 35) {
            due("undo()", notes::undo, reference::undo);
        } else if (draw < 38) {
            int slot = around(2);
            due("save(" + slot + ")", () -> notes.save(slot), () -> reference.save(slot));
        } else if (draw < 41) {
            int slot = around(2);
            due("restore(" + slot + ")", () -> notes.restore(slot), () -> reference.restore(slot));
        } else if (draw < 43) {
            enter(random.nextBoolean() ? setupText() : mutated(setupText()), true);
        } else if (draw < 47) {
            String script = commands(reference.state);
            enter(random.nextBoolean() ? script : mutated(script), false);
        } else if (draw < 49) {
            int length = random.nextInt(3) == 0 ? any(-1, 601) : around(601);
            due("truncateInput(" + length + ")", () -> notes.truncateInput(length), () -> reference.truncateInput(length));
        } else {
            ask(random.nextInt(28));
        }
    }

    private void clarify() {
        int n = around(reference.noteCount());
        boolean exists = n >= 0 && n < reference.noteCount();
        int origin = exists ? reference.moveOrigin(n, random.nextInt(reference.doubt(n))) : 0;
        int fitting = any(0, 3);
        int column = fitting == 0 ? around(reference.columns()) : fitting == 1 ? -1 : origin % reference.columns();
        int row = fitting == 0 ? around(reference.rows()) : fitting == 2 ? -1 : origin / reference.columns();
        due("clarify(" + n + ", " + column + ", " + row + ")",
                () -> notes.clarify(n, column, row), () -> reference.clarify(n, column, row));
    }

    private void note(boolean fitting) {
        Reference.Note drawn = fitting ? fittingNote(reference.state) : null;
        int kind = drawn != null ? drawn.kind() : around(5);
        int fromColumn = drawn != null ? drawn.fromColumn() : around(reference.columns());
        int toColumn = drawn != null ? drawn.toColumn() : around(reference.columns());
        int toRow = drawn != null ? drawn.toRow() : around(reference.rows());
        boolean takes = drawn != null ? drawn.takes() : random.nextInt(3) == 0;
        boolean check = drawn != null ? drawn.check() : random.nextInt(3) == 0;
        String values = kind + ", " + fromColumn + ", " + toColumn + ", " + toRow + ", " + takes + ", " + check + ")";
        due("gamesIfNoted(" + values,
                () -> notes.gamesIfNoted(kind, fromColumn, toColumn, toRow, takes, check),
                () -> reference.gamesIfNoted(kind, fromColumn, toColumn, toRow, takes, check));
        due("addNote(" + values,
                () -> notes.addNote(kind, fromColumn, toColumn, toRow, takes, check),
                () -> reference.addNote(kind, fromColumn, toColumn, toRow, takes, check));
    }

    /** A note with a part of what is true of one of the moves that could follow; null if there is none. */
    private Reference.Note fittingNote(Reference.State state) {
        List<String> positions = state.positions();
        String position = positions.get(random.nextInt(positions.size()));
        int mover = state.notes.size() % 2;
        List<int[]> moves = state.agreeing(position, mover, new Reference.Note(-1, -1, -1, -1, -1, false, false));
        if (moves.isEmpty()) {
            return null;
        }
        int[] move = moves.get(random.nextInt(moves.size()));
        List<int[]> checks = state.agreeing(position, mover, new Reference.Note(-1, -1, -1, -1, -1, false, true));
        boolean isCheck = checks.stream().anyMatch(c -> c[0] == move[0] && c[1] == move[1]);
        int told = random.nextInt(5);
        return new Reference.Note(
                tell(told, Reference.State.kind(position.charAt(move[0]))),
                tell(told, move[0] % state.columns), -1,
                tell(told, move[1] % state.columns), tell(told, move[1] / state.columns),
                position.charAt(move[1]) != '.' && random.nextBoolean(), isCheck && random.nextBoolean());
    }

    private int tell(int told, int value) {
        return random.nextInt(5) < told ? value : -1;
    }

    private String setupText() {
        int columns = any(3, 6);
        int rows = any(3, 6);
        int pieces = any(2, Math.min(11, columns * rows));
        StringBuilder text = new StringBuilder("board " + columns + " " + rows + ";");
        List<Integer> squares = new ArrayList<>();
        for (int i = 0; i < columns * rows; i++) {
            squares.add(i);
        }
        for (int i = 0; i < pieces; i++) {
            int square = squares.get(random.nextInt(squares.size()));
            if (random.nextInt(60) > 0) {
                squares.remove((Integer) square);
            }
            int kind = i < 2 && random.nextInt(30) > 0 ? 0 : any(random.nextInt(60) > 0 ? 1 : 0, 4);
            boolean white = i < 2 ? i == 0 : random.nextBoolean();
            text.append(white ? "white " : " black ").append(KINDS[kind]).append(space())
                    .append(square % columns).append(' ').append(square / columns).append(space()).append(';');
        }
        Reference plain = new Reference();
        if (text.length() <= 600) {
            append(plain, text.toString());
            if (plain.load() != -1 && random.nextInt(3) > 0) {
                text.append(commands(plain.state));
            }
        }
        return text.length() <= 600 ? text.toString() : text.substring(0, 600);
    }

    private String space() {
        return " ".repeat(random.nextInt(6) / 4);
    }

    private String commands(Reference.State first) {
        StringBuilder text = new StringBuilder();
        Reference plain = new Reference();
        plain.state = first;
        int count = any(0, 9);
        for (int i = 0; i < count; i++) {
            int draw = random.nextInt(12);
            Reference.State state = plain.state;
            Reference.Note note = fittingNote(state);
            String command;
            if (draw == 0) {
                command = "drop";
            } else if (draw == 1 || note == null) {
                command = "origin " + any(0, state.notes.size()) + " " + any(0, state.columns - 1) + " 0" + any(0, state.rows - 1);
            } else {
                command = noteText(note);
            }
            text.append(command).append(space()).append(';').append(space());
            append(plain, command + ";");
            if (plain.play() == -1 && random.nextInt(3) > 0) {
                text.setLength(text.length() - command.length() - 1);
                text.append(' ');
            }
        }
        return text.toString();
    }

    private String noteText(Reference.Note note) {
        String command = "note " + (note.kind() == -1 ? "any" : KINDS[note.kind()]);
        if (note.fromColumn() != -1) {
            command += space() + " from" + space() + note.fromColumn();
        }
        if (note.toColumn() != -1 && note.toRow() != -1) {
            command += " to " + note.toColumn() + " " + note.toRow();
        }
        return command + (note.takes() ? " takes" : "") + (note.check() ? " check" : "");
    }

    private String mutated(String text) {
        String[] parts = {" ", ";", "white", "black king", "7", "0003", "99999999999999999999", "note any", "any", "drop;",
            "origin 0 0 0", "to 1 1", "from 0", "takes", "check", "board", "note", "Z", "\n", "\u00ff", "x", "4 ", " 3 3;"};
        StringBuilder changed = new StringBuilder(text);
        for (int i = any(1, 2); i > 0; i--) {
            int at = random.nextInt(changed.length() + 1);
            switch (random.nextInt(4)) {
                case 0 -> changed.insert(at, parts[random.nextInt(parts.length)]);
                case 1 -> changed.delete(at, Math.min(changed.length(), at + any(1, 4)));
                case 2 -> changed.setLength(at);
                default -> {
                    if (at < changed.length()) {
                        changed.setCharAt(at, (char) random.nextInt(256));
                    }
                }
            }
        }
        return changed.toString();
    }

    private static int[] words(String text, int from) {
        byte[] bytes = (text + " ".repeat(20)).substring(from, from + 20).getBytes(StandardCharsets.ISO_8859_1);
        int[] words = new int[5];
        for (int i = 0; i < 20; i++) {
            words[i / 4] = words[i / 4] << 8 | bytes[i] & 255;
        }
        return words;
    }

    private static void append(Reference to, String text) {
        for (int from = 0; from < text.length(); from += 20) {
            int[] w = words(text, from);
            to.append(w[0], w[1], w[2], w[3], w[4]);
        }
    }

    private void enter(String text, boolean setup) {
        due("truncateInput(0)", () -> notes.truncateInput(0), () -> reference.truncateInput(0));
        for (int from = 0; from < text.length(); from += 20) {
            int[] w = words(text, from);
            due("append(" + text.substring(from, Math.min(text.length(), from + 20)) + ")",
                    () -> notes.append(w[0], w[1], w[2], w[3], w[4]), () -> reference.append(w[0], w[1], w[2], w[3], w[4]));
        }
        int length = Math.min(600, text.length());
        due("truncateInput(" + length + ")", () -> notes.truncateInput(length), () -> reference.truncateInput(length));
        if (setup == (random.nextInt(12) > 0)) {
            due("load()", notes::load, reference::load);
        } else {
            due("play()", notes::play, reference::play);
        }
        due("errorCode()", notes::errorCode, reference::errorCode);
        due("errorOffset()", notes::errorOffset, reference::errorOffset);
        due("gameCount()", notes::gameCount, reference::gameCount);
    }

    private void ask(int draw) {
        int note = around(reference.noteCount());
        int position = around(reference.positionsAfter(reference.noteCount()));
        int column = around(reference.columns());
        int row = around(reference.rows());
        int colour = around(2);
        int kind = around(5);
        int moves = note >= 0 && note < reference.noteCount() ? reference.doubt(note) : 1;
        int move = around(moves);
        switch (draw) {
            case 0 -> due("columns()", notes::columns, reference::columns);
            case 1 -> due("rows()", notes::rows, reference::rows);
            case 2 -> due("noteCount()", notes::noteCount, reference::noteCount);
            case 3 -> due("colourToMove()", notes::colourToMove, reference::colourToMove);
            case 4 -> due("undoableChanges()", notes::undoableChanges, reference::undoableChanges);
            case 5 -> {
                due("noteKind(" + note + ")", () -> notes.noteKind(note), () -> reference.noteKind(note));
                due("noteFromColumn(" + note + ")", () -> notes.noteFromColumn(note), () -> reference.noteFromColumn(note));
                due("noteFromRow(" + note + ")", () -> notes.noteFromRow(note), () -> reference.noteFromRow(note));
            }
            case 6 -> {
                due("noteToColumn(" + note + ")", () -> notes.noteToColumn(note), () -> reference.noteToColumn(note));
                due("noteToRow(" + note + ")", () -> notes.noteToRow(note), () -> reference.noteToRow(note));
                due("noteTakes(" + note + ")", () -> notes.noteTakes(note), () -> reference.noteTakes(note));
                due("noteChecks(" + note + ")", () -> notes.noteChecks(note), () -> reference.noteChecks(note));
            }
            case 7, 8 -> {
                int count = around(reference.noteCount() + 1);
                due("positionsAfter(" + count + ")", () -> notes.positionsAfter(count), () -> reference.positionsAfter(count));
            }
            case 9, 10 -> {
                String square = "(" + position + ", " + column + ", " + row + ")";
                due("kindAt" + square, () -> notes.kindAt(position, column, row), () -> reference.kindAt(position, column, row));
                due("colourAt" + square, () -> notes.colourAt(position, column, row), () -> reference.colourAt(position, column, row));
            }
            case 11, 12 -> due("isAttacked(" + position + ", " + column + ", " + row + ", " + colour + ")",
                    () -> notes.isAttacked(position, column, row, colour), () -> reference.isAttacked(position, column, row, colour));
            case 13, 14 -> due("legalMoves(" + position + ")", () -> notes.legalMoves(position), () -> reference.legalMoves(position));
            case 15 -> due("gamesTo(" + position + ")", () -> notes.gamesTo(position), () -> reference.gamesTo(position));
            case 16 -> due("certainSquares()", notes::certainSquares, reference::certainSquares);
            case 17 -> {
                due("gameCount()", notes::gameCount, reference::gameCount);
                due("isCertain()", notes::isCertain, reference::isCertain);
            }
            case 18, 19, 20 -> {
                due("doubt(" + note + ")", () -> notes.doubt(note), () -> reference.doubt(note));
                due("moveOrigin(" + note + ", " + move + ")", () -> notes.moveOrigin(note, move), () -> reference.moveOrigin(note, move));
                due("moveTarget(" + note + ", " + move + ")", () -> notes.moveTarget(note, move), () -> reference.moveTarget(note, move));
                due("gamesWithMove(" + note + ", " + move + ")", () -> notes.gamesWithMove(note, move), () -> reference.gamesWithMove(note, move));
            }
            case 21 -> due("gamesWithPiece(" + column + ", " + row + ", " + colour + ", " + kind + ")",
                    () -> notes.gamesWithPiece(column, row, colour, kind), () -> reference.gamesWithPiece(column, row, colour, kind));
            case 22 -> due("mostDoubtfulNote()", notes::mostDoubtfulNote, reference::mostDoubtfulNote);
            case 23 -> due("inconsistencies()", notes::inconsistencies, reference::inconsistencies);
            case 24 -> due("meanGames()", notes::meanGames, reference::meanGames);
            case 25 -> due("certainShare()", notes::certainShare, reference::certainShare);
            case 26 -> due("writePosition(" + position + ")", () -> notes.writePosition(position), () -> reference.writePosition(position));
            default -> {
                int index = around(41);
                due("outputByte(" + index + ")", () -> notes.outputByte(index), () -> reference.outputByte(index));
            }
        }
    }
}
