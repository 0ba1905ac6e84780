import java.util.ArrayList;
import java.util.List;

/** The boundary cases of "Terms" 5 and of promises 8 to 13: changes, undo, saved states and exceptions. */
public final class ChangeEdgesTest extends Checks {
    private static final int[] EXTREMES = {Integer.MIN_VALUE, -1000000, -3, 1000000, Integer.MAX_VALUE};

    private static ChessNotes after(Run... runs) {
        ChessNotes x = new ChessNotes();
        for (Run run : runs) {
            run.on(x);
        }
        return x;
    }

    private static String told(String name, String text) {
        return name + "\n" + text;
    }

    // ---- what stands before the calls that are tested

    /** Notes, a saved state, changes to undo, an output, a reported error and a text that waits to be played. */
    private static void withNotes(ChessNotes x) {
        load(x, "board 3 4;white king 0 0;black king 2 3;white knight 1 1;");
        x.save(0);
        note(x, KNIGHT, NONE, NONE, NONE);
        note(x, KING, NONE, NONE, NONE);
        x.clarify(0, 1, NONE);
        shown(x, 0);
        play(x, "drop;drop;drop;");
        type(x, "note king;");
    }

    private static void withoutNotes(ChessNotes x) {
        withNotes(x);
        x.dropNote();
        x.dropNote();
    }

    private static void withTenNotes(ChessNotes x) {
        load(x, KINGS + TEN_NOTES);
        play(x, "note any;");
        type(x, "drop;drop;");
    }

    /** 41 positions if the second or the first note were open. */
    private static void withManyMoves(ChessNotes x) {
        load(x, FORTY_ONE_MOVES);
        note(x, NONE, 5, NONE, NONE);
        x.addNote(KING, NONE, NONE, NONE, true, false);
        type(x, "drop; note any");
    }

    private static void withNothingToUndo(ChessNotes x) {
        x.save(1);
        shown(x, 0);
        load(x, "board 9 9;");
        type(x, "note king;");
    }

    // ---- changes

    private static void changes() {
        sentence("Terms 5: successful calls of load(), play(), addNote(), clarify(), dropNote() and restore() are changes");
        ChessNotes x = new ChessNotes();
        due(x.undoableChanges(), 0);
        load(x, KINGS);
        due(x.undoableChanges(), 1);
        play(x, "note any;");
        due(x.undoableChanges(), 2);
        note(x, NONE, NONE, NONE, NONE);
        due(x.undoableChanges(), 3);
        x.clarify(0, 0, NONE);
        due(x.undoableChanges(), 4);
        x.dropNote();
        due(x.undoableChanges(), 5);
        x.save(0);
        due(x.undoableChanges(), 5);
        x.restore(0);
        due(x.undoableChanges(), 6);

        sentence("Terms 5: ... even if they have no effect");
        ChessNotes y = new ChessNotes();
        due(play(y, ""), 0);
        due(y.undoableChanges(), 1);
        note(y, ROOK, 1, NONE, NONE);
        due(play(y, "note any;drop;"), 2);
        due(y.undoableChanges(), 3);
        y.clarify(0, 1, NONE);
        due(y.undoableChanges(), 4);
        y.save(1);
        y.restore(1);
        due(y.undoableChanges(), 5);
        load(y, KINGS);
        load(y, KINGS);
        due(y.undoableChanges(), 7);
        due(y.undo(), 6);
        due(y.columns(), 3);
        due(y.undo(), 5);
        due(y.columns(), 4);
        due(y.undo(), 4);
        due(y.noteFromColumn(0), 1);

        sentence("Terms 5: other calls, and calls without success, are none");
        ChessNotes z = new ChessNotes();
        note(z, ROOK, 1, NONE, NONE);
        load(z, "board");
        play(z, "note queen;");
        fails(STATE, () -> note(z, QUEEN, NONE, NONE, NONE));
        fails(ARGUMENT, () -> note(z, 5, NONE, NONE, NONE));
        fails(STATE, () -> z.clarify(0, 0, 0));
        fails(INDEX, () -> z.clarify(1, 0, 0));
        fails(STATE, () -> z.restore(0));
        z.gamesIfNoted(NONE, NONE, NONE, NONE, false, false);
        z.save(0);
        z.writePosition(0);
        z.append(0, 0, 0, 0, 0);
        z.truncateInput(0);
        due(z.undoableChanges(), 1);
        due(z.undo(), 0);
        due(z.undoableChanges(), 0);
        fails(STATE, z::dropNote);
        due(z.undoableChanges(), 0);
    }

    /** The n-th of a row of changes of every sort; brief() tells the states after them apart. */
    private static void change(ChessNotes x, int n) {
        switch (n % 6) {
            case 0 -> load(x, "board 4 " + (3 + n / 6 % 4) + ";white king 0 0;black king 3 2;white rook 1 1;");
            case 1 -> note(x, ROOK, NONE, NONE, NONE);
            case 2 -> x.clarify(0, 1, 1);
            case 3 -> play(x, "note king;");
            case 4 -> x.dropNote();
            default -> x.restore(1);
        }
    }

    private static void history() {
        sentence("Terms 5: the latest 8 changes can be undone, the latest first");
        for (int total = 0; total <= 30; total++) {
            ChessNotes x = new ChessNotes();
            x.save(1);
            List<String> states = new ArrayList<>();
            for (int n = 0; n < total; n++) {
                states.add(brief(x));
                change(x, n);
                due(x.undoableChanges(), Math.min(n + 1, 8));
            }
            int left = Math.min(total, 8);
            for (int n = total - 1; left > 0; n--) {
                left--;
                due(x.undo(), left);
                due(x.undoableChanges(), left);
                due(brief(x), states.get(n));
            }
            fails(STATE, x::undo);
            due(x.undoableChanges(), 0);
        }

        sentence("Terms 5: a ninth change discards the oldest one");
        ChessNotes eight = changed(8);
        ChessNotes nine = changed(9);
        due(eight.undoableChanges(), 8);
        due(nine.undoableChanges(), 8);
        for (int i = 0; i < 8; i++) {
            eight.undo();
            nine.undo();
        }
        due(eight.columns(), 4);
        due(nine.columns(), 3);
        due(nine.noteCount(), 0);
        fails(STATE, eight::undo);
        fails(STATE, nine::undo);

        sentence("Terms 5: an undone change cannot be redone");
        for (int undone = 1; undone <= 8; undone++) {
            ChessNotes x = changed(8);
            for (int i = 0; i < undone; i++) {
                due(x.undo(), 7 - i);
            }
            String there = state(x);
            due(x.undoableChanges(), 8 - undone);
            // What comes next takes the place of what was undone.
            note(x, KING, NONE, NONE, NONE);
            due(x.undoableChanges(), 9 - undone);
            due(x.undo(), 8 - undone);
            due(state(x), there);
        }
        // Undoing and changing by turns goes round the eight places many times.
        ChessNotes turns = changed(8);
        String seven = state(turns);
        for (int i = 0; i < 20; i++) {
            due(turns.undo(), 7);
            due(turns.undo(), 6);
            due(turns.dropNote(), 4);
            nextNote(turns);
            due(turns.undoableChanges(), 8);
            due(turns.noteCount(), 5);
            due(turns.undo(), 7);
            due(turns.noteCount(), 4);
            due(turns.undo(), 6);
            due(turns.noteCount(), 5);
            nextNote(turns);
            nextNote(turns);
            due(turns.undoableChanges(), 8);
        }
        due(state(turns), seven);
    }

    /** So many changes: the board of KINGS is loaded, then the kings walk to and fro. */
    private static ChessNotes changed(int changes) {
        ChessNotes x = loaded(KINGS);
        for (int i = 1; i < changes; i++) {
            nextNote(x);
        }
        return x;
    }

    private static void nextNote(ChessNotes x) {
        play(x, TEN_NOTES.split("(?<=;)")[x.noteCount()]);
    }

    private static void undoAndTheRest() {
        sentence("Terms 5: undo and restore bring back the board, the start position and the notes");
        Run[] changes = {
            x -> load(x, "board 5 6;white king 4 0;black king 0 5;note king;"),
            x -> play(x, "drop;"),
            x -> note(x, KNIGHT, NONE, NONE, NONE),
            x -> x.clarify(1, 2, 3),
            ChessNotes::dropNote,
            x -> x.restore(0)};
        for (int i = 0; i < changes.length; i++) {
            ChessNotes x = after(ChangeEdgesTest::withNotes);
            String before = state(after(ChangeEdgesTest::withNotes));
            x.truncateInput(0);
            changes[i].on(x);
            due(told("change " + i, x.undoableChanges() + ""), told("change " + i, "5"));
            due(x.undo(), 4);
            due(told("change " + i, state(x)), told("change " + i, before));
        }
        ChessNotes restored = after(ChangeEdgesTest::withNotes, x -> x.save(1), x -> load(x, TEN_PIECES), x -> x.restore(1));
        due(state(restored), state(after(ChangeEdgesTest::withNotes)));

        sentence("Terms 5: they do not affect the input buffer, the reported error, the output or the saved states");
        // These changes leave the buffer alone: afterwards all is as if they had never been.
        for (int i = 2; i < changes.length; i++) {
            Run change = changes[i];
            ChessNotes x = after(ChangeEdgesTest::withNotes, change, ChessNotes::undo);
            due(told("change " + i, story(x)), told("change " + i, story(after(ChangeEdgesTest::withNotes))));
        }
        ChessNotes x = after(ChangeEdgesTest::withNotes, y -> y.restore(0));
        due(errors(x), "6 at 14");
        due(x.outputByte(11) + " " + x.outputByte(12) + " " + x.outputByte(15), "10 75 -1");
        due(x.truncateInput(10), 10);
        fails(ARGUMENT, () -> x.truncateInput(11));
        due(x.play(), 1);
        due(x.restore(0), 0);

        sentence("Terms 5: load() keeps the saved states");
        ChessNotes kept = new ChessNotes();
        note(kept, ROOK, NONE, 1, NONE);
        kept.save(0);
        due(load(kept, KINGS), 2);
        kept.save(1);
        due(load(kept, TEN_PIECES), 10);
        due(load(kept, "board 4 4"), NONE);
        due(kept.restore(0), 1);
        due(kept.gameCount(), 4L);
        due(kept.restore(1), 0);
        due(kept.columns(), 3);
    }

    // ---- exceptions

    private interface Asked {
        Object of(ChessNotes x);
    }

    /** Makes each call on an object of its own, and compares all that it holds with one that was not called. */
    private static void thrown(Run before, Class<?> exception, Asked... calls) {
        String untouched = story(after(before));
        for (int i = 0; i < calls.length; i++) {
            Asked call = calls[i];
            ChessNotes x = after(before);
            fails(exception, () -> call.of(x));
            fails(exception, () -> call.of(x));
            due(told("call " + i, story(x)), told("call " + i, untouched));
        }
    }

    private static void nothingChanges() {
        sentence("Terms 5: a method that throws an exception changes nothing (IllegalArgumentException)");
        thrown(ChangeEdgesTest::withNotes, ARGUMENT,
                x -> x.truncateInput(-1), x -> x.truncateInput(11), x -> note(x, 5, NONE, NONE, NONE),
                x -> note(x, NONE, 3, NONE, NONE), x -> note(x, NONE, NONE, 3, NONE), x -> note(x, NONE, NONE, NONE, 4),
                x -> x.clarify(0, 3, NONE), x -> x.clarify(1, NONE, 4), x -> x.save(-1), x -> x.save(2),
                x -> x.restore(-1), x -> x.restore(2), x -> x.positionsAfter(3), x -> x.positionsAfter(-1),
                x -> x.isAttacked(0, 0, 0, 2), x -> x.gamesWithPiece(0, 0, 2, 0), x -> x.gamesWithPiece(0, 0, 0, 5),
                x -> x.gamesIfNoted(5, NONE, NONE, NONE, false, false));

        sentence("Terms 5: a method that throws an exception changes nothing (IndexOutOfBoundsException)");
        int positions = after(ChangeEdgesTest::withNotes).positionsAfter(2);
        thrown(ChangeEdgesTest::withNotes, INDEX,
                x -> x.clarify(2, NONE, NONE), x -> x.clarify(-1, NONE, NONE), x -> x.noteKind(2),
                x -> x.noteFromColumn(2), x -> x.noteFromRow(2), x -> x.noteToColumn(2), x -> x.noteToRow(2),
                x -> x.noteTakes(2), x -> x.noteChecks(2), x -> x.kindAt(positions, 0, 0), x -> x.colourAt(0, 3, 0),
                x -> x.isAttacked(0, 0, 4, 0), x -> x.legalMoves(positions), x -> x.gamesTo(positions), x -> x.doubt(2),
                x -> x.moveOrigin(0, 100), x -> x.moveTarget(1, 100), x -> x.gamesWithMove(2, 0),
                x -> x.gamesWithPiece(3, 0, 0, 0), x -> x.writePosition(positions), x -> x.writePosition(-1));

        sentence("Terms 5: a method that throws an exception changes nothing (IllegalStateException)");
        thrown(ChangeEdgesTest::withNotes, STATE, x -> note(x, QUEEN, NONE, NONE, NONE), x -> x.clarify(0, 0, 2),
                x -> x.clarify(1, 0, 0), x -> x.restore(1));
        thrown(ChangeEdgesTest::withoutNotes, STATE, ChessNotes::dropNote, x -> x.restore(1),
                x -> note(x, BISHOP, NONE, NONE, NONE));
        thrown(ChangeEdgesTest::withTenNotes, STATE, x -> note(x, NONE, NONE, NONE, NONE),
                x -> note(x, KING, NONE, NONE, NONE), x -> x.clarify(9, 0, 0), x -> x.clarify(0, 2, 2), x -> x.restore(0));
        thrown(ChangeEdgesTest::withManyMoves, STATE, x -> x.clarify(0, NONE, NONE), x -> note(x, KNIGHT, NONE, NONE, NONE),
                x -> x.clarify(1, 0, 0));
        thrown(x -> load(x, FORTY_ONE_MOVES), STATE, x -> note(x, NONE, NONE, NONE, NONE));
        thrown(ChangeEdgesTest::withNothingToUndo, STATE, ChessNotes::undo, ChessNotes::dropNote, x -> x.restore(0));

        sentence("Promise 41: nothing changes");
        for (Run before : new Run[] {ChangeEdgesTest::withNotes, ChangeEdgesTest::withTenNotes, ChangeEdgesTest::withManyMoves}) {
            ChessNotes x = after(before);
            x.gamesIfNoted(NONE, NONE, NONE, NONE, false, false);
            x.gamesIfNoted(KING, NONE, NONE, NONE, false, false);
            x.gamesIfNoted(BISHOP, NONE, NONE, NONE, true, true);
            due(story(x), story(after(before)));
        }

        sentence("What only answers changes nothing");
        ChessNotes q = after(ChangeEdgesTest::withNotes);
        for (int i = 0; i < 2; i++) {
            q.isAttacked(0, 1, 1, i);
            q.legalMoves(i);
            q.kindAt(i, 0, 0);
            q.colourAt(i, 2, 3);
            q.gamesWithMove(i, 0);
            q.gamesWithPiece(0, 0, i, KING);
        }
        q.mostDoubtfulNote();
        q.inconsistencies();
        q.meanGames();
        q.certainShare();
        q.certainSquares();
        due(story(q), story(after(ChangeEdgesTest::withNotes)));
    }

    private static void order() {
        sentence("Terms 5: if several exceptions apply, the one that is listed first is thrown");
        ChessNotes ten = after(ChangeEdgesTest::withTenNotes);
        // addNote(): a wrong argument before ten notes, before no game and before too many positions.
        fails(ARGUMENT, () -> note(ten, 5, NONE, NONE, NONE));
        fails(ARGUMENT, () -> note(ten, -2, NONE, NONE, NONE));
        fails(ARGUMENT, () -> note(ten, NONE, 3, NONE, NONE));
        fails(ARGUMENT, () -> note(ten, NONE, NONE, -2, NONE));
        fails(ARGUMENT, () -> note(ten, NONE, NONE, NONE, 3));
        fails(ARGUMENT, () -> note(new ChessNotes(), QUEEN, NONE, NONE, 4));
        ChessNotes many = loaded(FORTY_ONE_MOVES);
        fails(ARGUMENT, () -> note(many, NONE, 6, NONE, NONE));
        // clarify(): the note before the column and the row, and these before the game.
        ChessNotes x = after(ChangeEdgesTest::withNotes);
        fails(INDEX, () -> x.clarify(2, 3, 4));
        fails(INDEX, () -> x.clarify(-1, -2, -2));
        fails(INDEX, () -> x.clarify(2, 0, 0));
        fails(INDEX, () -> new ChessNotes().clarify(0, 9, 9));
        fails(ARGUMENT, () -> x.clarify(0, 0, 4));
        fails(ARGUMENT, () -> x.clarify(0, 3, 3));
        fails(STATE, () -> x.clarify(0, 0, 3));
        // restore(): the slot before what is saved in it.
        fails(ARGUMENT, () -> new ChessNotes().restore(2));
        fails(ARGUMENT, () -> new ChessNotes().restore(-1));
        // isAttacked(): the position and the square before the colour.
        fails(INDEX, () -> x.isAttacked(100, 0, 0, 2));
        fails(INDEX, () -> x.isAttacked(-1, 0, 0, -1));
        fails(INDEX, () -> x.isAttacked(0, 3, 0, 2));
        fails(INDEX, () -> x.isAttacked(0, 0, 4, 2));
        fails(ARGUMENT, () -> x.isAttacked(0, 2, 3, 2));
        // gamesWithPiece(): the square before the colour and the kind.
        fails(INDEX, () -> x.gamesWithPiece(3, 0, 2, 5));
        fails(INDEX, () -> x.gamesWithPiece(0, 4, 2, 0));
        fails(INDEX, () -> x.gamesWithPiece(0, -1, 0, 5));
        fails(ARGUMENT, () -> x.gamesWithPiece(2, 3, 2, 5));
        // gamesIfNoted(): a wrong argument, where ten notes would answer NONE.
        fails(ARGUMENT, () -> ten.gamesIfNoted(5, NONE, NONE, NONE, false, false));
        fails(ARGUMENT, () -> many.gamesIfNoted(NONE, NONE, NONE, 6, false, false));
    }

    // ---- promises 8 to 13

    private static void addNote() {
        sentence("Promise 8: IllegalArgumentException if kind, fromColumn, toColumn or toRow is neither NONE nor in its range");
        for (int columns = 3; columns <= 6; columns++) {
            for (int rows = 3; rows <= 6; rows++) {
                ChessNotes x = loaded("board " + columns + " " + rows + ";white king 0 0;black king " + (columns - 1) + " "
                        + (rows - 1) + ";");
                int wide = columns;
                int high = rows;
                for (int number = -3; number <= 8; number++) {
                    int value = number;
                    boolean kind = value >= -1 && value <= 4;
                    boolean column = value >= -1 && value < wide;
                    boolean row = value >= -1 && value < high;
                    // The king goes to 1 0 or 0 1, or what is asked for is in range but not possible.
                    noted(x, kind, value == -1 || value == KING, value, NONE, 1, 0);
                    noted(x, column, value == -1 || value == 0, KING, value, 1, 0);
                    noted(x, column, value == -1 || value == 1, KING, 0, value, 0);
                    noted(x, row, value == -1 || value == 1, KING, 0, 0, value);
                }
                for (int extreme : EXTREMES) {
                    noted(x, false, false, extreme, NONE, 1, 0);
                    noted(x, false, false, KING, extreme, 1, 0);
                    noted(x, false, false, KING, 0, extreme, 0);
                    noted(x, false, false, KING, 0, 0, extreme);
                }
            }
        }

        sentence("Promise 8: IllegalStateException if there are 10 notes, or there would be no game or more than 40 positions");
        ChessNotes ten = loaded(KINGS + TEN_NOTES);
        fails(STATE, () -> note(ten, NONE, NONE, NONE, NONE));
        ten.dropNote();
        due(note(ten, NONE, NONE, NONE, NONE), 1);
        fails(STATE, () -> note(ten, NONE, NONE, NONE, NONE));
        fails(STATE, () -> note(new ChessNotes(), BISHOP, NONE, NONE, NONE));
        due(note(loaded(FORTY_MOVES), NONE, NONE, NONE, NONE), 40);
        fails(STATE, () -> note(loaded(FORTY_ONE_MOVES), NONE, NONE, NONE, NONE));
        due(note(loaded(FORTY_ONE_MOVES), QUEEN, NONE, NONE, NONE), 28);

        sentence("Promise 8: adds a note behind the others; it does not state the row of the origin");
        ChessNotes x = new ChessNotes();
        due(note(x, ROOK, 3, 2, 1), 1);
        due(x.addNote(NONE, NONE, NONE, NONE, true, false), 2);
        due(x.noteFromRow(0), NONE);
        due(x.noteFromRow(1), NONE);
        due(x.noteKind(0) * 10 + x.noteFromColumn(0), 23);
        due(x.noteTakes(1), true);
        // Neither does a note in the place of one whose row was stated.
        due(x.clarify(1, NONE, 3), 2);
        x.dropNote();
        note(x, NONE, NONE, NONE, NONE);
        due(x.noteFromRow(1), NONE);
        due(x.noteTakes(1), false);
    }

    private static void noted(ChessNotes x, boolean inRange, boolean possible, int kind, int from, int column, int row) {
        Call add = () -> note(x, kind, from, column, row);
        Call ask = () -> x.gamesIfNoted(kind, from, column, row, false, false);
        due(x.noteCount(), 0);
        if (!inRange) {
            fails(ARGUMENT, add);
            fails(ARGUMENT, ask);
        } else if (possible) {
            due((long) ask.make() > 0, true);
            due((int) add.make() > 0, true);
            x.dropNote();
        } else {
            due(ask.make(), 0L);
            fails(STATE, add);
        }
    }

    private static void clarify() {
        sentence("Promise 9: IndexOutOfBoundsException if the note does not exist");
        ChessNotes x = new ChessNotes();
        for (int notes = 0; notes < 3; notes++) {
            int count = notes;
            fails(INDEX, () -> x.clarify(-1, NONE, NONE));
            fails(INDEX, () -> x.clarify(count, NONE, NONE));
            for (int extreme : EXTREMES) {
                fails(INDEX, () -> x.clarify(extreme, NONE, NONE));
            }
            for (int note = 0; note < notes; note++) {
                due(x.clarify(note, NONE, NONE) > 0, true);
            }
            note(x, notes == 0 ? ROOK : KING, NONE, notes == 0 ? 1 : NONE, NONE);
        }
        ChessNotes ten = loaded(KINGS + TEN_NOTES);
        due(ten.clarify(9, 2, 2), 1);
        fails(INDEX, () -> ten.clarify(10, 2, 2));

        sentence("Promise 9: IllegalArgumentException if column or row is neither NONE nor in its range");
        ChessNotes y = loaded("board 3 5;white king 0 0;black king 2 4;note king;");
        for (int value = -3; value <= 8; value++) {
            int number = value;
            Class<?> column = value < -1 || value > 2 ? ARGUMENT : value > 0 ? STATE : null;
            Class<?> row = value < -1 || value > 4 ? ARGUMENT : value > 0 ? STATE : null;
            clarified(column, () -> y.clarify(0, number, NONE));
            clarified(column, () -> y.clarify(0, number, 0));
            clarified(row, () -> y.clarify(0, NONE, number));
            clarified(row, () -> y.clarify(0, 0, number));
        }
        for (int extreme : EXTREMES) {
            fails(ARGUMENT, () -> y.clarify(0, extreme, 0));
            fails(ARGUMENT, () -> y.clarify(0, 0, extreme));
        }

        sentence("Promise 9: sets what a note states of the origin; NONE takes it back");
        ChessNotes z = new ChessNotes();
        z.addNote(ROOK, 3, 1, NONE, false, false);
        due(z.gameCount(), 1L);
        due(z.clarify(0, NONE, NONE), 4);
        due(z.clarify(0, 1, 0), 3);
        due(z.noteFromColumn(0) * 10 + z.noteFromRow(0), 10);
        due(z.clarify(0, NONE, 1), 1);
        due(z.noteFromColumn(0), NONE);
        due(z.clarify(0, 3, NONE), 1);
        due(z.noteFromRow(0), NONE);
        due(z.noteKind(0) + " " + z.noteToColumn(0) + " " + z.noteToRow(0), "2 1 -1");

        sentence("Promise 9: IllegalStateException if there would be no game, or more than 40 positions after some number of notes");
        fails(STATE, () -> z.clarify(0, 0, 0));
        ChessNotes later = new ChessNotes();
        note(later, ROOK, NONE, NONE, NONE);
        due(later.addNote(KNIGHT, NONE, 0, 1, true, false), 1);
        due(later.clarify(0, 3, 1), 1);
        fails(STATE, () -> later.clarify(0, 1, 0));
        ChessNotes last = loaded("board 6 6;white king 0 0;white rook 1 0;white rook 4 1;white rook 5 0;black king 3 5;black rook 2 5;");
        due(note(last, ROOK, 1, NONE, NONE), 8);
        due(note(last, ROOK, NONE, 2, NONE), 30);
        fails(STATE, () -> last.clarify(0, NONE, NONE));
        due(last.positionsAfter(2), 30);
        ChessNotes middle = after(ChangeEdgesTest::withManyMoves);
        fails(STATE, () -> middle.clarify(0, NONE, NONE));
        due(middle.positionsAfter(1), 13);
        due(middle.positionsAfter(2), 1);
    }

    private static void clarified(Class<?> exception, Call call) {
        if (exception == null) {
            due((int) call.make() > 0, true);
        } else {
            fails(exception, call);
        }
    }

    private static void dropNote() {
        sentence("Promise 10: the number of notes that are left; IllegalStateException if there is no note");
        ChessNotes x = loaded(KINGS + TEN_NOTES);
        for (int left = 9; left >= 0; left--) {
            due(x.dropNote(), left);
            due(x.noteCount(), left);
            int dropped = left;
            fails(INDEX, () -> x.noteKind(dropped));
            fails(ARGUMENT, () -> x.positionsAfter(dropped + 1));
        }
        fails(STATE, x::dropNote);
        fails(STATE, x::dropNote);
        due(x.noteCount(), 0);
        due(shown(x, 0), "..k\n...\nK..");
    }

    private static void undo() {
        sentence("Promise 11: the number of changes that can still be undone; IllegalStateException if there is none");
        ChessNotes x = new ChessNotes();
        fails(STATE, x::undo);
        play(x, "");
        due(x.undo(), 0);
        fails(STATE, x::undo);
        for (int i = 0; i < 9; i++) {
            play(x, "");
        }
        for (int left = 7; left >= 0; left--) {
            due(x.undo(), left);
        }
        fails(STATE, x::undo);
    }

    private static void slots() {
        sentence("Promises 12 and 13: slot 0 or 1");
        ChessNotes x = new ChessNotes();
        for (int slot : new int[] {-2, -1, 2, 3, Integer.MIN_VALUE, Integer.MAX_VALUE}) {
            fails(ARGUMENT, () -> x.save(slot));
            fails(ARGUMENT, () -> x.restore(slot));
        }
        fails(STATE, () -> x.restore(0));
        fails(STATE, () -> x.restore(1));

        sentence("Promise 13: IllegalStateException if nothing is saved in the slot");
        due(x.save(1), 0);
        fails(STATE, () -> x.restore(0));
        due(x.restore(1), 0);
        note(x, ROOK, NONE, 1, NONE);
        due(x.save(0), 1);
        due(x.restore(1), 0);
        due(x.restore(0), 1);

        sentence("Promise 12: overwrites what was saved there; returns the number of notes; this is not a change");
        int changes = x.undoableChanges();
        note(x, KING, NONE, NONE, NONE);
        due(x.save(1), 2);
        due(x.undoableChanges(), changes + 1);
        due(x.restore(0), 1);
        due(x.restore(1), 2);
        due(load(x, KINGS + TEN_NOTES), 2);
        due(x.save(0), 10);
        due(x.restore(1), 2);
        due(x.columns(), 4);
        due(x.restore(0), 10);
        due(x.columns(), 3);

        sentence("Promise 13: the state stays saved");
        ChessNotes y = new ChessNotes();
        note(y, ROOK, NONE, 1, NONE);
        y.save(0);
        String saved = state(y);
        for (int i = 0; i < 3; i++) {
            due(y.restore(0), 1);
            due(state(y), saved);
            y.clarify(0, 3, 1);
            note(y, KING, NONE, NONE, NONE);
            y.dropNote();
            y.dropNote();
        }
        for (int i = 0; i < 8; i++) {
            y.undo();
        }
        due(y.restore(0), 1);
        due(state(y), saved);
    }

    public static void main(String[] args) {
        changes();
        history();
        undoAndTheRest();
        nothingChanges();
        order();
        addNote();
        clarify();
        dropNote();
        undo();
        slots();
        end();
    }
}
