/** The boundary cases of promise 1 and of promises 14 to 46: what a new object and the questions answer. */
public final class AnswerEdgesTest extends Checks {
    private static final String FIRST = "board 4 4; white king 0 0; white rook 1 0; white rook 3 1; white knight 2 0;"
            + " black king 3 3; black bishop 0 3; black knight 1 3;";
    private static final int[] EXTREMES = {Integer.MIN_VALUE, -100, 100, Integer.MAX_VALUE};

    /** Four notes on a board that is not square; the first and the last numbers of all sorts are stated. */
    private static final String FOUR_NOTES = "board 6 3;white king 0 0;white rook 5 1;white knight 2 2;black king 3 0;"
            + "black queen 5 2;black bishop 3 1;note knight from 2 to 0 1;note king from 3 to 4 0;origin 1 3 0;"
            + "note rook from 5 to 5 2 takes;note any check;";

    private interface Numbered {
        Object of(int number);
    }

    /** Every number from 0 to below the count has an answer, and every other one throws. */
    private static void numbers(int count, Class<?> exception, Numbered call) {
        for (int number = 0; number < count; number++) {
            due(call.of(number) != null, true);
        }
        fails(exception, () -> call.of(-1));
        fails(exception, () -> call.of(count));
        for (int extreme : EXTREMES) {
            fails(exception, () -> call.of(extreme));
        }
    }

    private static void newObject() {
        sentence("Promise 1: the state that load() makes of the text");
        due(state(new ChessNotes()), state(loaded(FIRST)));
        due(shown(new ChessNotes(), 0), "bn.k\n....\n...R\nKRN.");
        due(load(new ChessNotes(), FIRST), 7);

        sentence("Promise 1: with an empty input buffer, no reported error, an empty output, no saved state and no change to undo");
        ChessNotes x = new ChessNotes();
        fails(ARGUMENT, () -> x.truncateInput(1));
        due(x.truncateInput(0), 0);
        due(x.append(0, 0, 0, 0, 0), 20);
        due(errors(x), "0 at -1");
        due(x.outputByte(0), NONE);
        fails(STATE, () -> x.restore(0));
        fails(STATE, () -> x.restore(1));
        due(x.undoableChanges(), 0);
        fails(STATE, x::undo);
        due(new ChessNotes().play(), 0);
        ChessNotes empty = new ChessNotes();
        due(empty.load(), NONE);
        due(errors(empty), "1 at 0");
        // One object knows nothing of another.
        ChessNotes other = new ChessNotes();
        x.save(0);
        note(x, ROOK, NONE, NONE, NONE);
        fails(STATE, () -> other.restore(0));
        due(other.noteCount(), 0);
    }

    private static void notes() {
        sentence("Promises 19 to 25: what a note states; NONE if it is not stated");
        ChessNotes x = loaded(FOUR_NOTES);
        int[][] stated = {{KNIGHT, 2, NONE, 0, 1}, {KING, 3, 0, 4, 0}, {ROOK, 5, NONE, 5, 2}, {NONE, NONE, NONE, NONE, NONE}};
        for (int note = 0; note < 4; note++) {
            due(x.noteKind(note), stated[note][0]);
            due(x.noteFromColumn(note), stated[note][1]);
            due(x.noteFromRow(note), stated[note][2]);
            due(x.noteToColumn(note), stated[note][3]);
            due(x.noteToRow(note), stated[note][4]);
            due(x.noteTakes(note), note == 2);
            due(x.noteChecks(note), note == 3);
        }
        ChessNotes edge = loaded("board 3 6;white king 2 4;black king 0 0;white queen 1 4;note king from 2 to 2 5;origin 0 2 4;"
                + "note any;note queen from 1 to 0 5;");
        due(edge.noteToRow(0) * 100 + edge.noteFromRow(0) * 10 + edge.noteToColumn(0), 542);
        due(edge.noteToColumn(2) * 10 + edge.noteKind(2), 1);

        sentence("Promises 19 to 25: IndexOutOfBoundsException if the note does not exist");
        for (int notes = 4; notes >= 0; notes--) {
            int count = notes;
            numbers(count, INDEX, x::noteKind);
            numbers(count, INDEX, x::noteFromColumn);
            numbers(count, INDEX, x::noteFromRow);
            numbers(count, INDEX, x::noteToColumn);
            numbers(count, INDEX, x::noteToRow);
            numbers(count, INDEX, x::noteTakes);
            numbers(count, INDEX, x::noteChecks);
            if (count > 0) {
                x.dropNote();
            }
        }
        ChessNotes ten = loaded(KINGS + TEN_NOTES);
        numbers(10, INDEX, ten::noteKind);
        numbers(10, INDEX, ten::noteFromColumn);
        numbers(10, INDEX, ten::noteFromRow);
        numbers(10, INDEX, ten::noteToColumn);
        numbers(10, INDEX, ten::noteToRow);
        numbers(10, INDEX, ten::noteTakes);
        numbers(10, INDEX, ten::noteChecks);
    }

    private static void counts() {
        sentence("Promise 26: 0 to noteCount(); IllegalArgumentException if notes is out of range");
        ChessNotes x = loaded(FOUR_NOTES);
        for (int notes = 4; notes >= 0; notes--) {
            due(x.noteCount(), notes);
            numbers(notes + 1, ARGUMENT, x::positionsAfter);
            due(x.positionsAfter(0), 1);
            if (notes > 0) {
                x.dropNote();
            }
        }
        ChessNotes ten = loaded(KINGS + TEN_NOTES);
        numbers(11, ARGUMENT, ten::positionsAfter);
        due(ten.positionsAfter(10), 1);
        ChessNotes forty = loaded(FORTY_MOVES + "note any;");
        due(forty.positionsAfter(0), 1);
        due(forty.positionsAfter(1), 40);

        sentence("Promises 35 to 38: IndexOutOfBoundsException if the note or the move does not exist");
        for (int notes = 10; notes >= 0; notes -= 5) {
            numbers(notes, INDEX, ten::doubt);
            numbers(notes, INDEX, note -> ten.moveOrigin(note, 0));
            numbers(notes, INDEX, note -> ten.moveTarget(note, 0));
            numbers(notes, INDEX, note -> ten.gamesWithMove(note, 0));
            for (int i = 0; i < 5 && notes > 0; i++) {
                ten.dropNote();
            }
        }
    }

    private static void places() {
        sentence("Promises 27 to 31 and 45: IndexOutOfBoundsException if the position does not exist");
        ChessNotes[] objects = {new ChessNotes(), loaded(FIRST + "note rook to 1 1;"), loaded(FORTY_MOVES + "note any;")};
        int[] positions = {1, 2, 40};
        for (int i = 0; i < objects.length; i++) {
            ChessNotes x = objects[i];
            due(x.positionsAfter(x.noteCount()), positions[i]);
            numbers(positions[i], INDEX, position -> x.kindAt(position, 0, 0));
            numbers(positions[i], INDEX, position -> x.colourAt(position, 0, 0));
            numbers(positions[i], INDEX, position -> x.isAttacked(position, 0, 0, WHITE));
            numbers(positions[i], INDEX, x::legalMoves);
            numbers(positions[i], INDEX, x::gamesTo);
            numbers(positions[i], INDEX, x::writePosition);
        }

        sentence("Promises 27 to 29 and 39: IndexOutOfBoundsException if the square does not exist");
        for (int size = 0; size < 16; size++) {
            int columns = 3 + size % 4;
            int rows = 3 + size / 4;
            ChessNotes x = loaded("board " + columns + " " + rows + ";white king 0 0;black king " + (columns - 1) + " 0;");
            numbers(columns, INDEX, column -> x.kindAt(0, column, 0));
            numbers(rows, INDEX, row -> x.kindAt(0, 0, row));
            numbers(columns, INDEX, column -> x.colourAt(0, column, rows - 1));
            numbers(rows, INDEX, row -> x.colourAt(0, columns - 1, row));
            numbers(columns, INDEX, column -> x.isAttacked(0, column, 0, BLACK));
            numbers(rows, INDEX, row -> x.isAttacked(0, 0, row, BLACK));
            numbers(columns, INDEX, column -> x.gamesWithPiece(column, 0, WHITE, KING));
            numbers(rows, INDEX, row -> x.gamesWithPiece(0, row, WHITE, KING));
        }

        sentence("Promises 29 and 39: IllegalArgumentException if colour or kind is out of range");
        ChessNotes x = new ChessNotes();
        numbers(2, ARGUMENT, colour -> x.isAttacked(0, 0, 0, colour));
        numbers(2, ARGUMENT, colour -> x.gamesWithPiece(0, 0, colour, KING));
        numbers(5, ARGUMENT, kind -> x.gamesWithPiece(0, 0, WHITE, kind));

        sentence("Promises 27 and 28: the kind and the colour of the piece on a square; NONE if the square is empty");
        String letters = "KQRBNkqrbn";
        ChessNotes all = loaded("board 5 4;white king 4 0;white queen 3 0;white rook 2 0;white bishop 1 0;white knight 0 0;"
                + "black king 0 3;black queen 1 3;black rook 2 3;black bishop 3 3;black knight 4 3;note queen;");
        for (int position = 0; position < all.positionsAfter(1); position++) {
            String text = shown(all, position);
            for (int square = 0; square < 20; square++) {
                int letter = letters.indexOf(text.charAt((3 - square / 5) * 6 + square % 5));
                due(all.kindAt(position, square % 5, square / 5), letter < 0 ? NONE : letter % 5);
                due(all.colourAt(position, square % 5, square / 5), letter < 0 ? NONE : letter / 5);
            }
        }
    }

    private static void moveCounts() {
        sentence("Promise 30: the legal moves of the colour to move, from none to more than 40");
        due(loaded("board 4 4;white king 0 0;black queen 1 1;black king 2 2;").legalMoves(0), 0);
        due(loaded("board 3 3;white king 0 0;black king 2 2;black queen 1 2;").legalMoves(0), 0);
        due(loaded(FORTY_ONE_MOVES).legalMoves(0), 41);
        // Four queens with the upper rows before them, four with the lower rows, and the king.
        ChessNotes queens = loaded("board 6 6;white king 0 0;black king 5 0;white queen 0 2;white queen 1 2;white queen 2 2;"
                + "white queen 3 2;white queen 0 3;white queen 1 3;white queen 2 3;white queen 3 3;");
        due(queens.legalMoves(0), 25 + 22 + 3);
        // After ten notes it is white's move again.
        ChessNotes ten = loaded(KINGS + TEN_NOTES);
        due(ten.legalMoves(0), 2);
        due(ten.colourToMove(), WHITE);
        ten.dropNote();
        due(ten.colourToMove(), BLACK);
        due(ten.legalMoves(0), 1);
    }

    private static void certain() {
        sentence("Promise 32: the same content in all positions: the kind and the colour");
        due(new ChessNotes().certainSquares(), 16);
        // The rook goes to five squares; the black one on 3 3 is taken in one of the positions.
        due(loaded("board 4 4;white king 0 0;white rook 3 0;black rook 3 3;black king 0 3;note rook;").certainSquares(), 11);
        // Two pieces that may come to the same square: it and what they left differ.
        due(loaded("board 4 4;white king 0 0;white rook 1 0;white queen 3 2;black king 3 0;note any to 1 2;").certainSquares(), 13);
        due(loaded("board 4 4;white king 0 0;white rook 1 0;white rook 3 2;black king 3 0;note any to 1 2;").certainSquares(), 14);

        sentence("Promise 44: certainSquares(), converted to float, divided by the number of squares");
        due(new ChessNotes().certainShare(), 1.0f);
        due(loaded("board 6 6;white king 0 0;white rook 3 0;black king 0 5;note rook to 3 5;").certainShare(), 1.0f);
        due(loaded("board 6 5;white king 0 0;white rook 3 0;black king 0 4;note rook;").certainShare(), 22f / 30f);

        sentence("Promise 43: gameCount(), converted to double, divided by the number of positions");
        due(new ChessNotes().meanGames(), 1.0);
        ChessNotes x = loaded("board 6 6;white king 1 0;white rook 0 2;white rook 3 3;black king 5 0;"
                + "note rook to 3 2;note king to 4 0;note rook to 0 3;");
        due(x.meanGames(), 2.0);
        x.dropNote();
        due(x.meanGames(), 1.0);
        x.addNote(ROOK, NONE, NONE, 3, false, false);
        due(x.gameCount(), 7L);
        due(x.meanGames(), 7.0 / 6.0);

        sentence("Promise 34: exactly one game");
        due(new ChessNotes().isCertain(), true);
        due(loaded(KINGS + TEN_NOTES).isCertain(), true);
        due(loaded(KINGS + "note any;").isCertain(), false);
        // Two games that lead to the same position are two.
        ChessNotes two = loaded("board 6 6;white king 1 0;white rook 0 2;white rook 3 3;black king 5 0;"
                + "note rook to 3 2;note king to 4 0;note rook to 0 3;");
        due(two.positionsAfter(3), 1);
        due(two.gameCount(), 2L);
        due(two.isCertain(), false);
    }

    private static void doubts() {
        sentence("Promise 35: moves are different if their origins or their targets are");
        ChessNotes x = new ChessNotes();
        note(x, ROOK, NONE, 1, 1);
        due(x.doubt(0), 2);
        x.dropNote();
        note(x, ROOK, 1, NONE, NONE);
        due(x.doubt(0), 3);
        // The same move from two positions is one move.
        ChessNotes y = loaded(KINGS + "note any;note any to 2 1;");
        due(y.doubt(0), 1);
        ChessNotes both = loaded("board 4 3;white king 0 0;black king 3 2;note king;note king to 3 1;");
        due(both.positionsAfter(1), 3);
        due(both.doubt(0), 3);
        due(both.doubt(1), 1);
        due(both.gamesWithMove(1, 0), 3L);

        sentence("Promises 36 and 37: in ascending order of the origin, and of the target for equal origins, from 0");
        ChessNotes z = new ChessNotes();
        note(z, NONE, NONE, NONE, NONE);
        due(z.doubt(0), 12);
        int before = -1;
        long games = 0;
        for (int move = 0; move < 12; move++) {
            int now = z.moveOrigin(0, move) * 36 + z.moveTarget(0, move);
            due(now > before, true);
            before = now;
            games += z.gamesWithMove(0, move);
        }
        due(games, 12L);
        due(z.moveOrigin(0, 0) * 100 + z.moveTarget(0, 0), 5);
        due(z.moveOrigin(0, 11) * 100 + z.moveTarget(0, 11), 711);
        // From the last square to the first, and back.
        ChessNotes far = loaded("board 6 6;white king 0 5;black king 5 0;white queen 5 5;note queen to 0 0;note king to 4 1;");
        due(far.moveOrigin(0, 0), 35);
        due(far.moveTarget(0, 0), 0);
        ChessNotes back = loaded("board 6 6;white king 0 5;black king 5 0;white queen 0 0;note queen to 5 5;");
        due(back.moveOrigin(0, 0), 0);
        due(back.moveTarget(0, 0), 35);

        sentence("Promises 36 to 38: IndexOutOfBoundsException if the move does not exist");
        numbers(12, INDEX, move -> z.moveOrigin(0, move));
        numbers(12, INDEX, move -> z.moveTarget(0, move));
        numbers(12, INDEX, move -> z.gamesWithMove(0, move));
        numbers(1, INDEX, move -> far.moveOrigin(1, move));
        numbers(1, INDEX, move -> far.moveTarget(1, move));
        numbers(1, INDEX, move -> far.gamesWithMove(1, move));
        ChessNotes forty = loaded(FORTY_MOVES + "note any;");
        numbers(40, INDEX, move -> forty.moveOrigin(0, move));
        numbers(40, INDEX, move -> forty.moveTarget(0, move));
        numbers(40, INDEX, move -> forty.gamesWithMove(0, move));

        sentence("Promise 40: a tie goes to the lowest number");
        // Kings in two far corners, with two moves each in their rows.
        ChessNotes tie = loaded("board 6 6;white king 0 0;black king 5 5;note king to 1 0;note king to 4 5;note king;note king;");
        due(tie.doubt(2) + " " + tie.doubt(3), "5 5");
        due(tie.mostDoubtfulNote(), 2);
        tie.dropNote();
        tie.addNote(KING, NONE, NONE, 5, false, false);
        due(tie.doubt(3), 2);
        due(tie.mostDoubtfulNote(), 2);
        tie.clarify(2, NONE, NONE);
        due(tie.mostDoubtfulNote(), 2);
        ChessNotes late = loaded("board 6 6;white king 0 0;black king 5 5;note king to 1 0;note king;note king to 0 0;note king;");
        due(late.doubt(1) < late.doubt(3), true);
        due(late.mostDoubtfulNote(), 3);
        ChessNotes first = loaded("board 6 6;white king 0 0;black king 5 5;note king;note king to 4 5;");
        due(first.mostDoubtfulNote(), 0);

        sentence("Promise 40: NONE if doubt() is 1 for all notes, or there is no note");
        due(new ChessNotes().mostDoubtfulNote(), NONE);
        due(loaded(KINGS + TEN_NOTES).mostDoubtfulNote(), NONE);
        ChessNotes ten = loaded(KINGS + TEN_NOTES + "drop;drop;note any;note any;");
        due(ten.noteCount(), 10);
        due(ten.doubt(8) + " " + ten.doubt(9) + " " + ten.mostDoubtfulNote(), "2 2 8");
    }

    private static void gamesOfPieces() {
        sentence("Promise 39: the games after which a square holds a certain piece");
        ChessNotes x = loaded("board 6 6;white king 1 0;white rook 0 2;white rook 3 3;black king 5 0;"
                + "note rook to 3 2;note king to 4 0;note rook;");
        for (int column = 0; column < 6; column++) {
            for (int row = 0; row < 6; row++) {
                for (int colour = WHITE; colour <= BLACK; colour++) {
                    for (int kind = KING; kind <= KNIGHT; kind++) {
                        long games = 0;
                        for (int position = 0; position < x.positionsAfter(3); position++) {
                            boolean holds = x.kindAt(position, column, row) == kind && x.colourAt(position, column, row) == colour;
                            games += holds ? x.gamesTo(position) : 0;
                        }
                        due(x.gamesWithPiece(column, row, colour, kind), games);
                    }
                }
            }
        }
        due(x.gamesWithPiece(1, 0, WHITE, KING), x.gameCount());
        due(x.gamesWithPiece(4, 0, BLACK, KING), x.gameCount());
        due(x.gamesWithPiece(4, 0, WHITE, KING), 0L);
        due(x.gamesWithPiece(5, 0, BLACK, KING), 0L);

        sentence("Promise 41: 0 if there would be none; NONE if there are 10 notes, or there would be more than 40 positions");
        due(new ChessNotes().gamesIfNoted(BISHOP, NONE, NONE, NONE, false, false), 0L);
        due(loaded(FORTY_MOVES).gamesIfNoted(NONE, NONE, NONE, NONE, false, false), 40L);
        due(loaded(FORTY_ONE_MOVES).gamesIfNoted(NONE, NONE, NONE, NONE, false, false), -1L);
        due(loaded(FORTY_ONE_MOVES).gamesIfNoted(NONE, NONE, NONE, NONE, true, false), 0L);
        ChessNotes ten = loaded(KINGS + TEN_NOTES);
        due(ten.gamesIfNoted(NONE, NONE, NONE, NONE, false, false), -1L);
        due(ten.gamesIfNoted(KING, NONE, NONE, NONE, false, false), -1L);
        ten.dropNote();
        due(ten.gamesIfNoted(KING, NONE, NONE, NONE, false, false), 1L);
        due(ten.gamesIfNoted(QUEEN, NONE, NONE, NONE, false, false), 0L);
        // Games are counted, not positions.
        ChessNotes meeting = loaded("board 6 6;white king 1 0;white rook 0 2;white rook 3 3;black king 5 0;"
                + "note rook to 3 2;note king to 4 0;");
        due(meeting.gamesIfNoted(ROOK, NONE, 0, 3, false, false), 2L);
        due(meeting.gamesIfNoted(ROOK, NONE, NONE, 3, false, false), 7L);

        sentence("Promise 42: the sum, which is always 0");
        String[] texts = {FIRST, KINGS + TEN_NOTES, FOUR_NOTES, FORTY_MOVES + "note any;",
            "board 4 4;white king 0 0;black queen 1 1;black king 2 2;",
            "board 3 3;white king 0 0;black king 1 1;", "board 4 4;white king 1 0;black king 0 0;note king;",
            "board 6 6;white king 1 0;white rook 0 2;white rook 3 3;black king 5 0;note rook;note king to 4 0;"};
        for (String text : texts) {
            due(loaded(text).inconsistencies(), 0);
        }
    }

    private static void output() {
        sentence("Promise 45: from the highest row number down to 0; a line feed between two rows");
        for (int size = 0; size < 16; size++) {
            int columns = 3 + size % 4;
            int rows = 3 + size / 4;
            ChessNotes x = loaded("board " + columns + " " + rows + ";white king 0 0;black king " + (columns - 1) + " "
                    + (rows - 1) + ";");
            int length = (columns + 1) * rows - 1;
            due(x.writePosition(0), length);
            due(x.outputByte(columns - 1), (int) 'k');
            due(x.outputByte(length - columns), (int) 'K');
            for (int row = 1; row < rows; row++) {
                due(x.outputByte(row * (columns + 1) - 1), 10);
            }
            due(x.outputByte(length - 1), 46);
            due(x.outputByte(length), NONE);
        }

        sentence("Promise 45: K, Q, R, B or N for white, and k, q, r, b or n for black; a full stop for an empty square");
        ChessNotes all = loaded("board 5 4;white king 4 0;white queen 3 0;white rook 2 0;white bishop 1 0;white knight 0 0;"
                + "black king 0 3;black queen 1 3;black rook 2 3;black bishop 3 3;black knight 4 3;");
        due(shown(all, 0), "kqrbn\n.....\n.....\nNBRQK");

        sentence("Promise 46: the byte; NONE if there is no such byte");
        ChessNotes x = new ChessNotes();
        for (int index : new int[] {Integer.MIN_VALUE, -1, 0, 1, 40, 41, Integer.MAX_VALUE}) {
            due(x.outputByte(index), NONE);
        }
        load(x, TEN_PIECES);
        due(x.outputByte(0), NONE);
        due(x.writePosition(0), 41);
        due(x.outputByte(-1), NONE);
        due(x.outputByte(0), 46);
        due(x.outputByte(40), 46);
        due(x.outputByte(41), NONE);
        due(x.outputByte(Integer.MIN_VALUE), NONE);
        due(x.outputByte(Integer.MAX_VALUE), NONE);

        sentence("Promise 45: replaces the previous output");
        load(x, KINGS);
        due(x.outputByte(40), 46);
        due(x.writePosition(0), 11);
        due(output(x, 11), "..k\n...\nK..");
        due(x.outputByte(11), NONE);
        due(x.outputByte(40), NONE);
        fails(INDEX, () -> x.writePosition(1));
        due(output(x, 11), "..k\n...\nK..");
        play(x, "note any;");
        due(output(x, 11), "..k\n...\nK..");
        due(shown(x, 0), "..k\n...\n.K.");
        due(shown(x, 1), "..k\nK..\n...");
    }

    public static void main(String[] args) {
        newObject();
        notes();
        counts();
        places();
        moveCounts();
        certain();
        doubts();
        gamesOfPieces();
        output();
        end();
    }
}
