import java.util.Arrays;

/** A decoder for ambiguous chess notes on a small board. */
public final class ChessNotes {
    public static final int NONE = -1;
    public static final int KING = 0;
    public static final int QUEEN = 1;
    public static final int ROOK = 2;
    public static final int BISHOP = 3;
    public static final int KNIGHT = 4;
    public static final int WHITE = 0;
    public static final int BLACK = 1;

    private static final int MIN_SIDE = 3;
    private static final int MAX_SIDE = 6;
    private static final int MAX_SQUARES = 36;
    private static final int MIN_PIECES = 2;
    private static final int MAX_PIECES = 10;
    private static final int MAX_NOTES = 10;
    private static final int MAX_LAYERS = MAX_NOTES + 1;
    private static final int MAX_POSITIONS = 40;
    private static final int MAX_BYTES = 600;
    private static final int MAX_UNDO = 8;
    private static final int SLOTS = 2;
    private static final int MAX_OUTPUT = MAX_SQUARES + MAX_SIDE - 1;

    private static final int SYNTAX_ERROR = 1;
    private static final int OUT_OF_RANGE = 2;
    private static final int OCCUPIED = 3;
    private static final int TOO_MANY = 4;
    private static final int KING_MISSING = 5;
    private static final int NOT_POSSIBLE = 6;

    // A square's content in four bits: 0 for empty, else 8 * colour + kind + 1.
    private static final int EMPTY = 0;
    private static final int WHITE_KING = 1;
    private static final int BLACK_KING = 9;

    // A move in twelve bits: 64 * origin + target.
    private static final int MOVE_BITS = 12;
    private static final int SQUARE_BITS = 6;
    private static final int SIX_BITS = 63;
    private static final int TWELVE_BITS = 4095;

    private static final char[] LETTERS = {'K', 'Q', 'R', 'B', 'N'};
    private static final int TO_LOWER_CASE = 32;
    private static final char FULL_STOP = 46;
    private static final char LINE_FEED = 10;

    private final Parser parser = new Parser();
    private final Tally tally = new Tally();
    private final Note asked = new Note();

    // The states change places instead of being made anew: a change is built in "work", which then
    // becomes the present one, while the one that was present goes to the older ones.
    private State present = new State();
    private State work = new State();
    private final State[] older = new State[MAX_UNDO];
    private int newest = 0;
    private int changes = 0;

    private final State[] saved = new State[SLOTS];
    private final boolean[] isSaved = new boolean[SLOTS];

    private final byte[] output = new byte[MAX_OUTPUT];
    private int outputLength = 0;

    public ChessNotes() {
        for (int i = 0; i < older.length; i++) {
            older[i] = new State();
        }
        for (int i = 0; i < saved.length; i++) {
            saved[i] = new State();
        }
        present.beginAnew();
    }

    // ---- input

    public int append(int a, int b, int c, int d, int e) {
        Text text = parser.text;
        if (!text.hasRoom()) {
            return NONE;
        }
        text.put(a);
        text.put(b);
        text.put(c);
        text.put(d);
        text.put(e);
        return text.length;
    }

    public int truncateInput(int length) throws IllegalArgumentException {
        Text text = parser.text;
        if (length < 0 || length > text.length) {
            throw new IllegalArgumentException("no such length");
        }
        text.length = length;
        return length;
    }

    public int load() {
        parser.begin();
        boolean done = parser.readSetup(work.board);
        if (done) {
            work.begin();
            done = runCommands();
        }
        return endOfText(done) ? parser.pieces : NONE;
    }

    public int play() {
        parser.begin();
        work.copyFrom(present);
        return endOfText(runCommands()) ? parser.commands : NONE;
    }

    public int errorCode() {
        return parser.errorCode;
    }

    public int errorOffset() {
        return parser.errorOffset;
    }

    // ---- changes

    public int addNote(int kind, int fromColumn, int toColumn, int toRow, boolean takes, boolean check)
            throws IllegalArgumentException, IllegalStateException {
        requireStatable(kind, fromColumn, toColumn, toRow);
        asked.state(kind, fromColumn, toColumn, toRow, takes, check);
        int positions = followAsked();
        if (positions < 1) {
            throw new IllegalStateException("the note is not possible");
        }
        commit();
        return positions;
    }

    public int clarify(int note, int column, int row)
            throws IndexOutOfBoundsException, IllegalArgumentException, IllegalStateException {
        requireNote(note);
        if (!isOpenOrBelow(column, present.board.columns) || !isOpenOrBelow(row, present.board.rows)) {
            throw new IllegalArgumentException("no such column or row");
        }
        work.copyFrom(present);
        work.setOrigin(note, column, row);
        int positions = work.follow(note);
        if (positions < 1) {
            throw new IllegalStateException("the origin is not possible");
        }
        commit();
        return positions;
    }

    public int dropNote() throws IllegalStateException {
        if (present.noteCount == 0) {
            throw new IllegalStateException("there is no note");
        }
        work.copyFrom(present);
        work.noteCount--;
        commit();
        return present.noteCount;
    }

    public int undo() throws IllegalStateException {
        if (changes == 0) {
            throw new IllegalStateException("there is no change to undo");
        }
        State undone = present;
        present = older[newest];
        older[newest] = undone;
        newest = newest == 0 ? MAX_UNDO - 1 : newest - 1;
        changes--;
        tally.countContinuations(present);
        return changes;
    }

    public int save(int slot) throws IllegalArgumentException {
        requireSlot(slot);
        saved[slot].copyFrom(present);
        isSaved[slot] = true;
        return present.noteCount;
    }

    public int restore(int slot) throws IllegalArgumentException, IllegalStateException {
        requireSlot(slot);
        if (!isSaved[slot]) {
            throw new IllegalStateException("nothing is saved in the slot");
        }
        work.copyFrom(saved[slot]);
        commit();
        return present.noteCount;
    }

    // ---- board and notes

    public int columns() {
        return present.board.columns;
    }

    public int rows() {
        return present.board.rows;
    }

    public int noteCount() {
        return present.noteCount;
    }

    public int colourToMove() {
        return present.mover(present.noteCount);
    }

    public int undoableChanges() {
        return changes;
    }

    public int noteKind(int note) throws IndexOutOfBoundsException {
        requireNote(note);
        return present.notes[note].kind;
    }

    public int noteFromColumn(int note) throws IndexOutOfBoundsException {
        requireNote(note);
        return present.notes[note].fromColumn;
    }

    public int noteFromRow(int note) throws IndexOutOfBoundsException {
        requireNote(note);
        return present.notes[note].fromRow;
    }

    public int noteToColumn(int note) throws IndexOutOfBoundsException {
        requireNote(note);
        return present.notes[note].toColumn;
    }

    public int noteToRow(int note) throws IndexOutOfBoundsException {
        requireNote(note);
        return present.notes[note].toRow;
    }

    public boolean noteTakes(int note) throws IndexOutOfBoundsException {
        requireNote(note);
        return present.notes[note].takes;
    }

    public boolean noteChecks(int note) throws IndexOutOfBoundsException {
        requireNote(note);
        return present.notes[note].check;
    }

    // ---- positions

    public int positionsAfter(int notes) throws IllegalArgumentException {
        if (notes < 0 || notes > present.noteCount) {
            throw new IllegalArgumentException("there are fewer notes");
        }
        return present.positions[notes];
    }

    public int kindAt(int position, int column, int row) throws IndexOutOfBoundsException {
        requirePosition(position);
        requireSquare(column, row);
        return kindOf(present.contentAt(position, present.board.squareOf(column, row)));
    }

    public int colourAt(int position, int column, int row) throws IndexOutOfBoundsException {
        requirePosition(position);
        requireSquare(column, row);
        return colourOf(present.contentAt(position, present.board.squareOf(column, row)));
    }

    public boolean isAttacked(int position, int column, int row, int colour)
            throws IndexOutOfBoundsException, IllegalArgumentException {
        requirePosition(position);
        requireSquare(column, row);
        requireColour(colour);
        present.show(present.noteCount, position);
        return present.board.isReached(present.board.placeOf(column, row), colour);
    }

    public int legalMoves(int position) throws IndexOutOfBoundsException {
        requirePosition(position);
        asked.state(NONE, NONE, NONE, NONE, false, false);
        present.show(present.noteCount, position);
        return present.board.findMoves(asked, present.mover(present.noteCount));
    }

    public long gamesTo(int position) throws IndexOutOfBoundsException {
        requirePosition(position);
        return present.gamesToLast(position);
    }

    public int certainSquares() {
        int certain = 0;
        int squares = present.board.squareCount();
        for (int square = 0; square < squares; square++) {
            if (present.isSameEverywhere(square)) {
                certain++;
            }
        }
        return certain;
    }

    // ---- games

    public long gameCount() {
        return present.gameTotal();
    }

    public boolean isCertain() {
        return present.gameTotal() == 1;
    }

    public int doubt(int note) throws IndexOutOfBoundsException {
        requireNote(note);
        tally.countGames(present, note);
        return tally.moveCount();
    }

    public int moveOrigin(int note, int move) throws IndexOutOfBoundsException {
        return requireMove(note, move) >> SQUARE_BITS;
    }

    public int moveTarget(int note, int move) throws IndexOutOfBoundsException {
        return requireMove(note, move) & SIX_BITS;
    }

    public long gamesWithMove(int note, int move) throws IndexOutOfBoundsException {
        return tally.games[requireMove(note, move)];
    }

    public long gamesWithPiece(int column, int row, int colour, int kind)
            throws IndexOutOfBoundsException, IllegalArgumentException {
        requireSquare(column, row);
        requireColour(colour);
        if (kind < KING || kind > KNIGHT) {
            throw new IllegalArgumentException("no such kind");
        }
        int square = present.board.squareOf(column, row);
        int content = contentOf(colour, kind);
        long games = 0;
        for (int position = 0; position < present.positionCount(); position++) {
            if (present.contentAt(position, square) == content) {
                games += present.gamesToLast(position);
            }
        }
        return games;
    }

    public int mostDoubtfulNote() {
        int found = NONE;
        int greatest = 1;
        for (int note = 0; note < present.noteCount; note++) {
            tally.countGames(present, note);
            int moves = tally.moveCount();
            if (moves > greatest) {
                greatest = moves;
                found = note;
            }
        }
        return found;
    }

    public long gamesIfNoted(int kind, int fromColumn, int toColumn, int toRow, boolean takes, boolean check)
            throws IllegalArgumentException {
        requireStatable(kind, fromColumn, toColumn, toRow);
        asked.state(kind, fromColumn, toColumn, toRow, takes, check);
        int positions = followAsked();
        return positions < 1 ? positions : work.gameTotal();
    }

    // ---- consistency and averages

    public int inconsistencies() {
        int sum = 0;
        long games = present.gameTotal();
        for (int note = 0; note < present.noteCount; note++) {
            tally.countGames(present, note);
            if (tally.total() != games) {
                sum++;
            }
        }
        for (int position = 0; position < present.positionCount(); position++) {
            present.show(present.noteCount, position);
            if (!areKingsInOrder()) {
                sum++;
            }
        }
        return tally.gamesFromStart() == games ? sum : sum + 1;
    }

    public double meanGames() {
        int positions = present.positionCount();
        return positions > 0 ? (double) present.gameTotal() / (double) positions : 0.0;
    }

    public float certainShare() {
        int squares = present.board.squareCount();
        return squares > 0 ? (float) certainSquares() / (float) squares : 0.0f;
    }

    // ---- output

    public int writePosition(int position) throws IndexOutOfBoundsException {
        requirePosition(position);
        Board board = present.board;
        outputLength = 0;
        for (int row = board.rows - 1; row >= 0; row--) {
            for (int column = 0; column < board.columns; column++) {
                writeByte(letterOf(present.contentAt(position, board.squareOf(column, row))));
            }
            if (row > 0) {
                writeByte(LINE_FEED);
            }
        }
        return outputLength;
    }

    public int outputByte(int index) {
        return index < 0 || index >= outputLength ? NONE : output[index];
    }

    // ---- what several calls need

    private static int contentOf(int colour, int kind) {
        return 8 * colour + kind + 1;
    }

    private static int kindOf(int content) {
        return (content & 7) - 1;
    }

    private static int colourOf(int content) {
        return content == EMPTY ? NONE : content >> 3;
    }

    private static boolean isOpenOrBelow(int value, int bound) {
        return value >= NONE && value < bound;
    }

    private static int letterOf(int content) {
        int kind = kindOf(content);
        if (kind < 0 || kind >= LETTERS.length) {
            return FULL_STOP;
        }
        return colourOf(content) == WHITE ? LETTERS[kind] : LETTERS[kind] + TO_LOWER_CASE;
    }

    private void writeByte(int value) {
        if (outputLength < output.length) {
            output[outputLength++] = (byte) value;
        }
    }

    private void requireNote(int note) {
        if (note < 0 || note >= present.noteCount) {
            throw new IndexOutOfBoundsException("no such note");
        }
    }

    private void requirePosition(int position) {
        if (position < 0 || position >= present.positionCount()) {
            throw new IndexOutOfBoundsException("no such position");
        }
    }

    private void requireSquare(int column, int row) {
        if (column < 0 || column >= present.board.columns || row < 0 || row >= present.board.rows) {
            throw new IndexOutOfBoundsException("no such square");
        }
    }

    private void requireColour(int colour) {
        if (colour != WHITE && colour != BLACK) {
            throw new IllegalArgumentException("no such colour");
        }
    }

    private void requireSlot(int slot) {
        if (slot < 0 || slot >= SLOTS) {
            throw new IllegalArgumentException("no such slot");
        }
    }

    private void requireStatable(int kind, int fromColumn, int toColumn, int toRow) {
        Board board = present.board;
        if (!isOpenOrBelow(kind, KNIGHT + 1) || !isOpenOrBelow(fromColumn, board.columns)
                || !isOpenOrBelow(toColumn, board.columns) || !isOpenOrBelow(toRow, board.rows)) {
            throw new IllegalArgumentException("no such kind, column or row");
        }
    }

    /** Counts the games by their moves for the note, and answers the move with the given number. */
    private int requireMove(int note, int number) {
        requireNote(note);
        tally.countGames(present, note);
        int move = tally.moveAt(number);
        if (move == NONE) {
            throw new IndexOutOfBoundsException("no such move");
        }
        return move;
    }

    /** Follows the asked note in "work": the number of positions, 0 without a game, NONE if too many. */
    private int followAsked() {
        work.copyFrom(present);
        return work.addLast(asked) ? work.follow(work.noteCount - 1) : NONE;
    }

    /** Executes the commands from the current token to the end of the text on "work". */
    private boolean runCommands() {
        for (int count = 0; count < MAX_BYTES && !parser.isAtEnd(); count++) {
            if (!parser.readCommand(work)) {
                return false;
            }
            boolean possible = true;
            if (parser.command == Parser.NOTE) {
                possible = work.addLast(parser.noted) && work.follow(work.noteCount - 1) > 0;
            } else if (parser.command == Parser.ORIGIN) {
                work.setOrigin(parser.number, parser.column, parser.row);
                possible = work.follow(parser.number) > 0;
            } else if (work.noteCount > 0) {
                work.noteCount--;
            } else {
                possible = false;
            }
            if (!parser.endCommand(possible)) {
                return false;
            }
        }
        return true;
    }

    private boolean endOfText(boolean done) {
        parser.text.length = 0;
        if (done) {
            commit();
        }
        return done;
    }

    /** Makes "work" the present state; the state that drops out of the older ones is the next "work". */
    private void commit() {
        newest = newest + 1 < MAX_UNDO ? newest + 1 : 0;
        State discarded = older[newest];
        older[newest] = present;
        present = work;
        work = discarded;
        if (changes < MAX_UNDO) {
            changes++;
        }
        tally.countContinuations(present);
    }

    private boolean areKingsInOrder() {
        Board board = present.board;
        if (board.count(WHITE_KING) != 1 || board.count(BLACK_KING) != 1) {
            return false;
        }
        if (present.noteCount == 0) {
            return true;
        }
        int toMove = present.mover(present.noteCount);
        return !board.isReached(board.kingPlace(1 - toMove), toMove);
    }

    /** What a note states; NONE and false stand for what it leaves open. */
    private static final class Note {
        int kind = NONE;
        int fromColumn = NONE;
        int fromRow = NONE;
        int toColumn = NONE;
        int toRow = NONE;
        boolean takes = false;
        boolean check = false;

        void state(int newKind, int newFromColumn, int newToColumn, int newToRow,
                boolean newTakes, boolean newCheck) {
            kind = newKind;
            fromColumn = newFromColumn;
            fromRow = NONE;
            toColumn = newToColumn;
            toRow = newToRow;
            takes = newTakes;
            check = newCheck;
        }

        void copyFrom(Note other) {
            kind = other.kind;
            fromColumn = other.fromColumn;
            fromRow = other.fromRow;
            toColumn = other.toColumn;
            toRow = other.toRow;
            takes = other.takes;
            check = other.check;
        }

        boolean allowsOrigin(int movedKind, int column, int row) {
            return (kind == NONE || kind == movedKind) && (fromColumn == NONE || fromColumn == column)
                    && (fromRow == NONE || fromRow == row);
        }

        boolean allowsTarget(int column, int row, boolean isCapture) {
            return (toColumn == NONE || toColumn == column) && (toRow == NONE || toRow == row)
                    && (isCapture || !takes);
        }
    }

    /**
     * One position, spread out so that pieces can walk on it. The board lies in rows of 8 places and
     * has a border of two places on each side, so that each step and each jump off the board meets the border.
     */
    private static final class Board {
        private static final int STRIDE = 8;
        private static final int PLACES = 88;
        private static final int FIRST_PLACE = 18;
        private static final int OUTSIDE = 15;
        private static final int MAX_MOVES = (MAX_PIECES - 1) * (MAX_SQUARES - 1);
        private static final int STRAIGHT_WAYS = 4;

        // The straight ways stand before the diagonal ones.
        private static final int[] WAYS = {1, -1, 8, -8, 9, -9, 7, -7};
        private static final int[] JUMPS = {10, -10, 6, -6, 17, -17, 15, -15};

        int columns = 0;
        int rows = 0;
        final int[] moves = new int[MAX_MOVES];
        private int moveCount = 0;
        private final int[] contents = new int[PLACES];
        private int whiteKing = FIRST_PLACE;
        private int blackKing = FIRST_PLACE;

        void resize(int newColumns, int newRows) {
            columns = newColumns;
            rows = newRows;
            Arrays.fill(contents, OUTSIDE);
            for (int row = 0; row < rows; row++) {
                for (int column = 0; column < columns; column++) {
                    put(column, row, EMPTY);
                }
            }
        }

        int squareCount() {
            return columns * rows;
        }

        int squareOf(int column, int row) {
            return row * columns + column;
        }

        int placeOf(int column, int row) {
            return FIRST_PLACE + row * STRIDE + column;
        }

        int at(int column, int row) {
            return on(placeOf(column, row));
        }

        private int on(int place) {
            return place >= 0 && place < contents.length ? contents[place] : OUTSIDE;
        }

        private void set(int place, int content) {
            if (place >= 0 && place < contents.length) {
                contents[place] = content;
            }
        }

        void put(int column, int row, int content) {
            int place = placeOf(column, row);
            set(place, content);
            if (content == WHITE_KING) {
                whiteKing = place;
            } else if (content == BLACK_KING) {
                blackKing = place;
            }
        }

        int count(int content) {
            int found = 0;
            for (int place = 0; place < contents.length; place++) {
                if (contents[place] == content) {
                    found++;
                }
            }
            return found;
        }

        int kingPlace(int colour) {
            return colour == WHITE ? whiteKing : blackKing;
        }

        /** Tells whether a piece of the colour has the place in its range, looking outwards from the place. */
        boolean isReached(int place, int colour) {
            int king = colour == WHITE ? WHITE_KING : BLACK_KING;
            for (int way = 0; way < WAYS.length; way++) {
                int from = place + WAYS[way];
                int met = on(from);
                if (met == king) {
                    return true;
                }
                for (int step = 1; step < MAX_SIDE && met == EMPTY; step++) {
                    from += WAYS[way];
                    met = on(from);
                }
                int slider = met - king;
                if (slider == QUEEN || slider == (way < STRAIGHT_WAYS ? ROOK : BISHOP)) {
                    return true;
                }
            }
            for (int jump = 0; jump < JUMPS.length; jump++) {
                if (on(place + JUMPS[jump]) - king == KNIGHT) {
                    return true;
                }
            }
            return false;
        }

        /** Lists the legal moves that agree with the note, ascending, and answers how many there are. */
        int findMoves(Note note, int mover) {
            moveCount = 0;
            for (int row = 0; row < rows; row++) {
                for (int column = 0; column < columns; column++) {
                    int content = at(column, row);
                    if (colourOf(content) == mover && note.allowsOrigin(kindOf(content), column, row)) {
                        findMovesFrom(column, row, note);
                    }
                }
            }
            return moveCount;
        }

        private void findMovesFrom(int fromColumn, int fromRow, Note note) {
            int from = placeOf(fromColumn, fromRow);
            int mover = colourOf(on(from));
            long range = rangeOf(from);
            for (int row = 0; row < rows; row++) {
                for (int column = 0; column < columns; column++) {
                    int to = placeOf(column, row);
                    if ((range & bitOf(to)) == 0) {
                        continue;
                    }
                    int taken = on(to);
                    boolean isFree = taken == EMPTY;
                    if (!isFree && (colourOf(taken) == mover || kindOf(taken) == KING)) {
                        continue;
                    }
                    if (note.allowsTarget(column, row, !isFree) && isLegal(from, to, note.check)
                            && moveCount < moves.length) {
                        moves[moveCount++] = squareOf(fromColumn, fromRow) << SQUARE_BITS | squareOf(column, row);
                    }
                }
            }
        }

        private static long bitOf(int place) {
            return 1L << (place - FIRST_PLACE);
        }

        private long rangeOf(int place) {
            int kind = kindOf(on(place));
            long range = 0;
            if (kind == KNIGHT) {
                for (int jump = 0; jump < JUMPS.length; jump++) {
                    int to = place + JUMPS[jump];
                    if (on(to) != OUTSIDE) {
                        range |= bitOf(to);
                    }
                }
                return range;
            }
            int first = kind == BISHOP ? STRAIGHT_WAYS : 0;
            int end = kind == ROOK ? STRAIGHT_WAYS : WAYS.length;
            int steps = kind == KING ? 1 : MAX_SIDE - 1;
            for (int way = first; way < end; way++) {
                int to = place;
                int met = EMPTY;
                for (int step = 0; step < steps && met == EMPTY; step++) {
                    to += WAYS[way];
                    met = on(to);
                    if (met != OUTSIDE) {
                        range |= bitOf(to);
                    }
                }
            }
            return range;
        }

        private boolean isLegal(int from, int to, boolean mustCheck) {
            int piece = on(from);
            int taken = on(to);
            int mover = colourOf(piece);
            set(to, piece);
            set(from, EMPTY);
            int ownKing = kindOf(piece) == KING ? to : kingPlace(mover);
            boolean legal = !isReached(ownKing, 1 - mover)
                    && (!mustCheck || isReached(kingPlace(1 - mover), mover));
            set(from, piece);
            set(to, taken);
            return legal;
        }
    }

    /**
     * The notes and what follows from them: a layer of positions after each number of notes, and the
     * links, which are the moves that lead from a position of a layer to one of the next.
     */
    private static final class State {
        // A position is three words of sixteen squares each, four bits a square.
        private static final int WORDS = 3;
        private static final int WORD_BITS = 4;
        private static final int CONTENT_BITS = 2;
        private static final long CONTENT_MASK = 15L;
        private static final int FIRST_LINKS = 250;

        final Board board = new Board();
        int noteCount = 0;
        final Note[] notes = new Note[MAX_NOTES];
        final int[] positions = new int[MAX_LAYERS];
        private final long[] games = new long[MAX_LAYERS * MAX_POSITIONS];
        private final long[] words = new long[MAX_LAYERS * MAX_POSITIONS * WORDS];
        private final long[] reached = new long[WORDS];

        // The links of a note stand from linkEnds[note] on, up to linkEnds[note + 1].
        // A link is its move and, above it, the numbers of the two positions.
        final int[] linkEnds = new int[MAX_LAYERS];
        int[] links = new int[FIRST_LINKS];

        State() {
            for (int i = 0; i < notes.length; i++) {
                notes[i] = new Note();
            }
        }

        static int linkFrom(int link) {
            return link >> MOVE_BITS & SIX_BITS;
        }

        static int linkTo(int link) {
            return link >> (MOVE_BITS + SQUARE_BITS);
        }

        static int linkMove(int link) {
            return link & TWELVE_BITS;
        }

        /** Where a row with one element for each position of each layer holds that of a position; NONE if nowhere. */
        static int cellOf(int layer, int position) {
            boolean exists = layer >= 0 && layer < MAX_LAYERS && position >= 0 && position < MAX_POSITIONS;
            return exists ? layer * MAX_POSITIONS + position : NONE;
        }

        int mover(int noteNumber) {
            return noteNumber % 2 == 0 ? WHITE : BLACK;
        }

        /** Begins with the setup that every new object has. */
        void beginAnew() {
            board.resize(4, 4);
            board.put(0, 0, WHITE_KING);
            board.put(1, 0, contentOf(WHITE, ROOK));
            board.put(3, 1, contentOf(WHITE, ROOK));
            board.put(2, 0, contentOf(WHITE, KNIGHT));
            board.put(3, 3, BLACK_KING);
            board.put(0, 3, contentOf(BLACK, BISHOP));
            board.put(1, 3, contentOf(BLACK, KNIGHT));
            begin();
        }

        /** Makes what stands on the board the start position, without notes. */
        void begin() {
            noteCount = 0;
            Arrays.fill(reached, 0L);
            for (int row = 0; row < board.rows; row++) {
                for (int column = 0; column < board.columns; column++) {
                    setReached(board.squareOf(column, row), board.at(column, row));
                }
            }
            System.arraycopy(reached, 0, words, 0, WORDS);
            positions[0] = 1;
            games[0] = 1;
        }

        void copyFrom(State other) {
            board.resize(other.board.columns, other.board.rows);
            noteCount = other.noteCount;
            for (int note = 0; note < noteCount; note++) {
                notes[note].copyFrom(other.notes[note]);
            }
            int layers = noteCount + 1;
            System.arraycopy(other.positions, 0, positions, 0, layers);
            System.arraycopy(other.games, 0, games, 0, layers * MAX_POSITIONS);
            System.arraycopy(other.words, 0, words, 0, layers * MAX_POSITIONS * WORDS);
            System.arraycopy(other.linkEnds, 0, linkEnds, 0, layers);
            if (links.length < linkEnds[noteCount]) {
                links = new int[other.links.length];
            }
            System.arraycopy(other.links, 0, links, 0, linkEnds[noteCount]);
        }

        /** Puts the note behind the others if there is room; its moves are still to be followed. */
        boolean addLast(Note note) {
            if (noteCount >= MAX_NOTES) {
                return false;
            }
            notes[noteCount++].copyFrom(note);
            return true;
        }

        /** Sets the origin that a note states; the notes from it on are still to be followed. */
        void setOrigin(int note, int column, int row) {
            if (note >= 0 && note < noteCount) {
                notes[note].fromColumn = column;
                notes[note].fromRow = row;
            }
        }

        /**
         * Finds the positions after each note from the first one on. Answers the number of positions after
         * all notes; 0 if there is no game, NONE if a layer has too many positions: then the state is spoilt.
         */
        int follow(int first) {
            for (int note = Math.max(first, 0); note < noteCount; note++) {
                positions[note + 1] = 0;
                linkEnds[note + 1] = linkEnds[note];
                for (int from = 0; from < positions[note]; from++) {
                    show(note, from);
                    int count = board.findMoves(notes[note], mover(note));
                    for (int i = 0; i < count; i++) {
                        if (!makeMove(note, from, board.moves[i])) {
                            return NONE;
                        }
                    }
                }
                if (positions[note + 1] == 0) {
                    return 0;
                }
            }
            return positions[noteCount];
        }

        /** Spreads a position out on the board. */
        void show(int layer, int position) {
            int square = 0;
            for (int row = 0; row < board.rows; row++) {
                for (int column = 0; column < board.columns; column++) {
                    board.put(column, row, read(layer, position, square));
                    square++;
                }
            }
        }

        int positionCount() {
            return positions[noteCount];
        }

        /** The content of a square in a position after all notes. */
        int contentAt(int position, int square) {
            return read(noteCount, position, square);
        }

        /** The number of games that lead to a position after all notes. */
        long gamesToLast(int position) {
            return gamesAt(noteCount, position);
        }

        long gamesAt(int layer, int position) {
            int cell = cellOf(layer, position);
            return cell == NONE ? 0 : games[cell];
        }

        long gameTotal() {
            long total = 0;
            for (int position = 0; position < positions[noteCount]; position++) {
                total += gamesToLast(position);
            }
            return total;
        }

        boolean isSameEverywhere(int square) {
            int content = contentAt(0, square);
            for (int position = 1; position < positions[noteCount]; position++) {
                if (contentAt(position, square) != content) {
                    return false;
                }
            }
            return true;
        }

        private int read(int layer, int position, int square) {
            int cell = cellOf(layer, position);
            int word = square >> WORD_BITS;
            if (cell == NONE || word < 0 || word >= WORDS) {
                return EMPTY;
            }
            return (int) (words[cell * WORDS + word] >>> shiftOf(square) & CONTENT_MASK);
        }

        private static int shiftOf(int square) {
            return (square & 15) << CONTENT_BITS;
        }

        private void setReached(int square, int content) {
            int word = square >> WORD_BITS;
            if (word < 0 || word >= WORDS) {
                return;
            }
            int shift = shiftOf(square);
            reached[word] = reached[word] & ~(CONTENT_MASK << shift) | (long) content << shift;
        }

        /** Notes down where a move of a position leads; false if that is one position too many. */
        private boolean makeMove(int note, int from, int move) {
            int cell = cellOf(note, from);
            if (cell == NONE) {
                return false;
            }
            int origin = move >> SQUARE_BITS;
            System.arraycopy(words, cell * WORDS, reached, 0, WORDS);
            setReached(move & SIX_BITS, read(note, from, origin));
            setReached(origin, EMPTY);
            int to = findReached(note + 1);
            int reachedCell = cellOf(note + 1, to);
            if (reachedCell == NONE) {
                return false;
            }
            games[reachedCell] += games[cell];
            addLink(note, (to << SQUARE_BITS | from) << MOVE_BITS | move);
            return true;
        }

        /** The number of the reached position in the layer, which gets it if it is new; NONE if it is full. */
        private int findReached(int layer) {
            if (layer < 0 || layer >= MAX_LAYERS) {
                return NONE;
            }
            int known = positions[layer];
            int at = layer * MAX_POSITIONS * WORDS;
            for (int position = 0; position < known; position++) {
                if (words[at] == reached[0] && words[at + 1] == reached[1] && words[at + 2] == reached[2]) {
                    return position;
                }
                at += WORDS;
            }
            if (known >= MAX_POSITIONS) {
                return NONE;
            }
            System.arraycopy(reached, 0, words, at, WORDS);
            games[layer * MAX_POSITIONS + known] = 0;
            positions[layer] = known + 1;
            return known;
        }

        private void addLink(int note, int link) {
            int end = linkEnds[note + 1];
            if (end >= links.length) {
                links = Arrays.copyOf(links, 2 * links.length);
            }
            links[end] = link;
            linkEnds[note + 1] = end + 1;
        }
    }

    /** Counts games by the moves that they make. */
    private static final class Tally {
        // By move; only the games that go on to the last note count.
        final long[] games = new long[MAX_SQUARES << SQUARE_BITS];
        private int moveEnd = 0;

        // In how many ways a position of a layer can be played on to the last note.
        private final long[] continuations = new long[MAX_LAYERS * MAX_POSITIONS];

        Tally() {
            // What countContinuations() finds for a state without notes, as a new object has it.
            continuations[0] = 1;
        }

        void countContinuations(State state) {
            Arrays.fill(continuations, 0L);
            int last = state.noteCount * MAX_POSITIONS;
            Arrays.fill(continuations, last, last + state.positionCount(), 1L);
            for (int note = state.noteCount - 1; note >= 0; note--) {
                for (int i = state.linkEnds[note]; i < state.linkEnds[note + 1]; i++) {
                    int link = state.links[i];
                    int cell = State.cellOf(note, State.linkFrom(link));
                    if (cell != NONE) {
                        continuations[cell] += continuationsAt(note + 1, State.linkTo(link));
                    }
                }
            }
        }

        private long continuationsAt(int layer, int position) {
            int cell = State.cellOf(layer, position);
            return cell == NONE ? 0 : continuations[cell];
        }

        void countGames(State state, int note) {
            moveEnd = state.board.squareCount() << SQUARE_BITS;
            Arrays.fill(games, 0, moveEnd, 0L);
            for (int i = state.linkEnds[note]; i < state.linkEnds[note + 1]; i++) {
                int link = state.links[i];
                int move = State.linkMove(link);
                if (move < moveEnd) {
                    games[move] += state.gamesAt(note, State.linkFrom(link))
                            * continuationsAt(note + 1, State.linkTo(link));
                }
            }
        }

        long gamesFromStart() {
            return continuations[0];
        }

        int moveCount() {
            int count = 0;
            for (int move = 0; move < moveEnd; move++) {
                if (games[move] != 0) {
                    count++;
                }
            }
            return count;
        }

        /** The move with the given number in ascending order; NONE if there is none. */
        int moveAt(int number) {
            int count = 0;
            for (int move = 0; move < moveEnd; move++) {
                if (games[move] != 0) {
                    if (count == number) {
                        return move;
                    }
                    count++;
                }
            }
            return NONE;
        }

        long total() {
            long total = 0;
            for (int move = 0; move < moveEnd; move++) {
                total += games[move];
            }
            return total;
        }
    }

    /** The input buffer, and the token of it that is being read. */
    private static final class Text {
        static final int END = 0;
        static final int STRAY = 1;
        static final int WORD = 2;
        static final int NUMBER = 3;
        static final int SEMICOLON = 4;

        // Far above every number that a text may state, so that longer ones need not be told apart.
        private static final int LARGE = 1000;
        private static final int APPENDED_BYTES = 20;
        private static final int SPACE = 32;
        private static final int BYTE_MASK = 255;

        int length = 0;
        int sort = END;
        int start = 0;
        int value = 0;
        private int end = 0;
        private final byte[] bytes = new byte[MAX_BYTES];

        boolean hasRoom() {
            return length + APPENDED_BYTES <= bytes.length;
        }

        void put(int four) {
            for (int shift = 24; shift >= 0 && length < bytes.length; shift -= 8) {
                bytes[length++] = (byte) (four >> shift);
            }
        }

        void readFirst() {
            end = 0;
            readNext();
        }

        void readNext() {
            start = end;
            for (int i = 0; i < MAX_BYTES && byteAt(start) == SPACE; i++) {
                start++;
            }
            end = start;
            sort = sortOf(byteAt(start));
            value = 0;
            boolean goesOn = sort != END;
            for (int i = 0; i < MAX_BYTES && goesOn; i++) {
                if (sort == NUMBER) {
                    value = Math.min(10 * value + byteAt(end) - '0', LARGE);
                }
                end++;
                goesOn = (sort == WORD || sort == NUMBER) && sortOf(byteAt(end)) == sort;
            }
        }

        boolean is(String word) {
            if (sort != WORD || end - start != word.length()) {
                return false;
            }
            for (int i = 0; i < word.length(); i++) {
                if (byteAt(start + i) != word.charAt(i)) {
                    return false;
                }
            }
            return true;
        }

        private static int sortOf(int oneByte) {
            if (oneByte == NONE) {
                return END;
            }
            if (oneByte >= 'a' && oneByte <= 'z') {
                return WORD;
            }
            if (oneByte >= '0' && oneByte <= '9') {
                return NUMBER;
            }
            return oneByte == ';' ? SEMICOLON : STRAY;
        }

        /** A byte as 0 to 255; NONE behind the end of the text. */
        private int byteAt(int index) {
            return index >= 0 && index < length && index < bytes.length ? bytes[index] & BYTE_MASK : NONE;
        }
    }

    /** Reads setups and commands; a method that meets a wrong token reports it and answers false or NONE. */
    private static final class Parser {
        static final int NOTE = 0;
        static final int ORIGIN = 1;
        static final int DROP = 2;

        private static final int BOTH_KINGS = 3;

        final Text text = new Text();
        int errorCode = 0;
        int errorOffset = NONE;
        int pieces = 0;
        int commands = 0;

        // The latest command: "noted" belongs to NOTE, the three numbers belong to ORIGIN.
        int command = DROP;
        final Note noted = new Note();
        int number = 0;
        int column = 0;
        int row = 0;

        private int kings = 0;

        void begin() {
            errorCode = 0;
            errorOffset = NONE;
            pieces = 0;
            commands = 0;
            kings = 0;
            text.readFirst();
        }

        boolean isAtEnd() {
            return text.sort == Text.END;
        }

        /** Reads a setup up to its first command. */
        boolean readSetup(Board board) {
            if (!readBoard(board)) {
                return false;
            }
            for (int i = 0; i < MAX_BYTES && (isColour() || pieces < MIN_PIECES); i++) {
                if (!isColour()) {
                    return reject(SYNTAX_ERROR);
                }
                if (pieces == MAX_PIECES) {
                    return reject(TOO_MANY);
                }
                if (!readPiece(board)) {
                    return false;
                }
                pieces++;
            }
            boolean mayEndPieces = isAtEnd() || text.is("note") || text.is("origin") || text.is("drop");
            if (mayEndPieces && kings != BOTH_KINGS) {
                return reject(KING_MISSING);
            }
            return mayEndPieces || reject(SYNTAX_ERROR);
        }

        /** Reads a command up to its semicolon, which stays the current token until endCommand(). */
        boolean readCommand(State state) {
            if (text.is("note")) {
                command = NOTE;
                return readNote(state.board);
            }
            if (text.is("origin")) {
                command = ORIGIN;
                text.readNext();
                return readOrigin(state) && isSemicolon();
            }
            if (text.is("drop")) {
                command = DROP;
                text.readNext();
                return isSemicolon();
            }
            return reject(SYNTAX_ERROR);
        }

        boolean endCommand(boolean possible) {
            if (!possible) {
                return reject(NOT_POSSIBLE);
            }
            commands++;
            text.readNext();
            return true;
        }

        private boolean readBoard(Board board) {
            if (!text.is("board")) {
                return reject(SYNTAX_ERROR);
            }
            text.readNext();
            int columns = readNumber(MIN_SIDE, MAX_SIDE);
            if (columns == NONE) {
                return false;
            }
            int rows = readNumber(MIN_SIDE, MAX_SIDE);
            if (rows == NONE || !isSemicolon()) {
                return false;
            }
            text.readNext();
            board.resize(columns, rows);
            return true;
        }

        private boolean isColour() {
            return text.is("white") || text.is("black");
        }

        private boolean readPiece(Board board) {
            int colour = text.is("white") ? WHITE : BLACK;
            text.readNext();
            int kind = kindHere();
            if (kind == NONE) {
                return reject(SYNTAX_ERROR);
            }
            if (kind == KING) {
                if ((kings & 1 << colour) != 0) {
                    return reject(TOO_MANY);
                }
                kings |= 1 << colour;
            }
            text.readNext();
            int pieceColumn = readNumber(0, board.columns - 1);
            if (pieceColumn == NONE) {
                return false;
            }
            int rowOffset = text.start;
            int pieceRow = readNumber(0, board.rows - 1);
            if (pieceRow == NONE) {
                return false;
            }
            if (board.at(pieceColumn, pieceRow) != EMPTY) {
                return rejectAt(rowOffset, OCCUPIED);
            }
            board.put(pieceColumn, pieceRow, contentOf(colour, kind));
            if (!isSemicolon()) {
                return false;
            }
            text.readNext();
            return true;
        }

        private int kindHere() {
            if (text.is("king")) {
                return KING;
            }
            if (text.is("queen")) {
                return QUEEN;
            }
            if (text.is("rook")) {
                return ROOK;
            }
            if (text.is("bishop")) {
                return BISHOP;
            }
            return text.is("knight") ? KNIGHT : NONE;
        }

        private boolean readNote(Board board) {
            text.readNext();
            int kind = kindHere();
            if (kind == NONE && !text.is("any")) {
                return reject(SYNTAX_ERROR);
            }
            text.readNext();
            noted.state(kind, NONE, NONE, NONE, false, false);
            if (isPassed("from")) {
                noted.fromColumn = readNumber(0, board.columns - 1);
                if (noted.fromColumn == NONE) {
                    return false;
                }
            }
            if (isPassed("to")) {
                noted.toColumn = readNumber(0, board.columns - 1);
                if (noted.toColumn == NONE) {
                    return false;
                }
                noted.toRow = readNumber(0, board.rows - 1);
                if (noted.toRow == NONE) {
                    return false;
                }
            }
            noted.takes = isPassed("takes");
            noted.check = isPassed("check");
            return isSemicolon();
        }

        private boolean readOrigin(State state) {
            number = readNumber(0, state.noteCount - 1);
            if (number == NONE) {
                return false;
            }
            column = readNumber(0, state.board.columns - 1);
            if (column == NONE) {
                return false;
            }
            row = readNumber(0, state.board.rows - 1);
            return row != NONE;
        }

        private boolean isPassed(String word) {
            if (!text.is(word)) {
                return false;
            }
            text.readNext();
            return true;
        }

        private int readNumber(int lowest, int highest) {
            if (text.sort != Text.NUMBER) {
                reject(SYNTAX_ERROR);
                return NONE;
            }
            if (text.value < lowest || text.value > highest) {
                reject(OUT_OF_RANGE);
                return NONE;
            }
            int value = text.value;
            text.readNext();
            return value;
        }

        private boolean isSemicolon() {
            return text.sort == Text.SEMICOLON || reject(SYNTAX_ERROR);
        }

        private boolean reject(int code) {
            return rejectAt(text.start, code);
        }

        private boolean rejectAt(int offset, int code) {
            errorCode = code;
            errorOffset = offset;
            return false;
        }
    }
}
