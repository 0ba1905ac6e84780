import java.math.BigInteger;
import java.nio.charset.StandardCharsets;
import java.util.ArrayDeque;
import java.util.ArrayList;
import java.util.Deque;
import java.util.HashMap;
import java.util.LinkedHashMap;
import java.util.List;
import java.util.Map;
import java.util.TreeMap;
import java.util.regex.Matcher;
import java.util.regex.Pattern;

/**
 * The document once more, as plainly as its words and without a thought for speed: a position is a
 * string of letters, and every answer is found by trying all squares against all squares.
 */
final class Reference {
    static final String LETTERS = "KQRBN";

    record Note(int kind, int fromColumn, int fromRow, int toColumn, int toRow, boolean takes, boolean check) {
    }

    /** A state never changes; what follows from it is found when it is made. */
    static final class State {
        final int columns;
        final int rows;
        final String start;
        final List<Note> notes;
        final List<Map<String, Long>> layers = new ArrayList<>();
        private final List<Map<String, Long>> completions = new ArrayList<>();
        boolean possible = true;

        State(int columns, int rows, String start, List<Note> notes) {
            this.columns = columns;
            this.rows = rows;
            this.start = start;
            this.notes = List.copyOf(notes);
            Map<String, Long> first = new LinkedHashMap<>();
            first.put(start, 1L);
            layers.add(first);
            for (int i = 0; i < notes.size() && possible; i++) {
                Map<String, Long> next = new LinkedHashMap<>();
                for (Map.Entry<String, Long> entry : layers.get(i).entrySet()) {
                    for (int[] move : agreeing(entry.getKey(), i % 2, notes.get(i))) {
                        next.merge(after(entry.getKey(), move[0], move[1]), entry.getValue(), Long::sum);
                    }
                }
                layers.add(next);
                possible = !next.isEmpty() && next.size() <= 40;
            }
            for (int i = 0; i <= notes.size(); i++) {
                completions.add(new HashMap<>());
            }
        }

        Map<String, Long> last() {
            return layers.get(layers.size() - 1);
        }

        boolean tooMany() {
            return last().size() > 40;
        }

        List<String> positions() {
            return new ArrayList<>(last().keySet());
        }

        long games() {
            return last().values().stream().mapToLong(Long::longValue).sum();
        }

        State with(List<Note> newNotes) {
            return new State(columns, rows, start, newNotes);
        }

        static int colour(char piece) {
            return piece == '.' ? -1 : Character.isUpperCase(piece) ? 0 : 1;
        }

        static int kind(char piece) {
            return LETTERS.indexOf(Character.toUpperCase(piece));
        }

        boolean reaches(String position, int from, int to) {
            int across = to % columns - from % columns;
            int up = to / columns - from / columns;
            if (from == to || position.charAt(from) == '.') {
                return false;
            }
            int far = Math.max(Math.abs(across), Math.abs(up));
            boolean straight = across == 0 || up == 0;
            boolean diagonal = Math.abs(across) == Math.abs(up);
            switch (kind(position.charAt(from))) {
                case 0:
                    return far == 1;
                case 1:
                    return (straight || diagonal) && isClear(position, from, across, up, far);
                case 2:
                    return straight && isClear(position, from, across, up, far);
                case 3:
                    return diagonal && isClear(position, from, across, up, far);
                default:
                    return Math.abs(across * up) == 2;
            }
        }

        private boolean isClear(String position, int from, int across, int up, int far) {
            for (int i = 1; i < far; i++) {
                int column = from % columns + i * Integer.signum(across);
                int row = from / columns + i * Integer.signum(up);
                if (position.charAt(row * columns + column) != '.') {
                    return false;
                }
            }
            return true;
        }

        boolean attacked(String position, int square, int colour) {
            for (int from = 0; from < position.length(); from++) {
                if (colour(position.charAt(from)) == colour && reaches(position, from, square)) {
                    return true;
                }
            }
            return false;
        }

        private boolean kingAttacked(String position, int kingColour) {
            return attacked(position, position.indexOf(kingColour == 0 ? 'K' : 'k'), 1 - kingColour);
        }

        static String after(String position, int from, int to) {
            StringBuilder changed = new StringBuilder(position);
            changed.setCharAt(to, position.charAt(from));
            changed.setCharAt(from, '.');
            return changed.toString();
        }

        List<int[]> agreeing(String position, int mover, Note note) {
            List<int[]> moves = new ArrayList<>();
            for (int from = 0; from < position.length(); from++) {
                for (int to = 0; to < position.length(); to++) {
                    char taken = position.charAt(to);
                    if (colour(position.charAt(from)) != mover || !reaches(position, from, to)
                            || colour(taken) == mover || kind(taken) == 0) {
                        continue;
                    }
                    String after = after(position, from, to);
                    if (kingAttacked(after, mover)) {
                        continue;
                    }
                    boolean agrees = (note.kind == -1 || note.kind == kind(position.charAt(from)))
                            && (note.fromColumn == -1 || note.fromColumn == from % columns)
                            && (note.fromRow == -1 || note.fromRow == from / columns)
                            && (note.toColumn == -1 || note.toColumn == to % columns)
                            && (note.toRow == -1 || note.toRow == to / columns)
                            && (!note.takes || taken != '.')
                            && (!note.check || kingAttacked(after, 1 - mover));
                    if (agrees) {
                        moves.add(new int[] {from, to});
                    }
                }
            }
            return moves;
        }

        private long completions(int done, String position) {
            if (done == notes.size()) {
                return 1;
            }
            Long known = completions.get(done).get(position);
            if (known == null) {
                long sum = 0;
                for (int[] move : agreeing(position, done % 2, notes.get(done))) {
                    sum += completions(done + 1, after(position, move[0], move[1]));
                }
                known = sum;
                completions.get(done).put(position, known);
            }
            return known;
        }

        private final Map<Integer, List<long[]>> movesOfGames = new HashMap<>();

        /** Rows of origin, target and number of games, in the due order. */
        List<long[]> movesOfGames(int note) {
            return movesOfGames.computeIfAbsent(note, n -> {
                TreeMap<Integer, Long> found = new TreeMap<>();
                for (Map.Entry<String, Long> entry : layers.get(n).entrySet()) {
                    for (int[] move : agreeing(entry.getKey(), n % 2, notes.get(n))) {
                        long on = completions(n + 1, after(entry.getKey(), move[0], move[1]));
                        if (on > 0) {
                            found.merge(move[0] * 100 + move[1], on * entry.getValue(), Long::sum);
                        }
                    }
                }
                List<long[]> rows = new ArrayList<>();
                found.forEach((move, games) -> rows.add(new long[] {move / 100, move % 100, games}));
                return rows;
            });
        }
    }

    State state = new State(4, 4, "KRN." + "...R" + "...." + "bn.k", List.of());
    private final Deque<State> history = new ArrayDeque<>();
    private final State[] saved = new State[2];
    private String input = "";
    private int errorCode = 0;
    private int errorOffset = -1;
    private String output = "";

    private void change(State next) {
        history.addLast(state);
        if (history.size() > 8) {
            history.removeFirst();
        }
        state = next;
    }

    // ---- the face

    int append(int a, int b, int c, int d, int e) {
        if (input.length() + 20 > 600) {
            return -1;
        }
        byte[] bytes = new byte[20];
        int[] words = {a, b, c, d, e};
        for (int i = 0; i < 20; i++) {
            bytes[i] = (byte) (words[i / 4] >>> (24 - 8 * (i % 4)));
        }
        input += new String(bytes, StandardCharsets.ISO_8859_1);
        return input.length();
    }

    int truncateInput(int length) {
        argument(length >= 0 && length <= input.length());
        input = input.substring(0, length);
        return length;
    }

    int load() {
        return parse(true);
    }

    int play() {
        return parse(false);
    }

    private int parse(boolean setup) {
        TextReader reader = new TextReader(input);
        input = "";
        try {
            int answer = setup ? reader.setup() : reader.script(state);
            errorCode = 0;
            errorOffset = -1;
            change(reader.state);
            return answer;
        } catch (WrongToken wrong) {
            errorCode = wrong.code;
            errorOffset = wrong.offset;
            return -1;
        }
    }

    int errorCode() {
        return errorCode;
    }

    int errorOffset() {
        return errorOffset;
    }

    private State noted(int kind, int fromColumn, int toColumn, int toRow, boolean takes, boolean check) {
        argument(open(kind, 5) && open(fromColumn, state.columns) && open(toColumn, state.columns)
                && open(toRow, state.rows));
        if (state.notes.size() == 10) {
            return null;
        }
        List<Note> notes = new ArrayList<>(state.notes);
        notes.add(new Note(kind, fromColumn, -1, toColumn, toRow, takes, check));
        return state.with(notes);
    }

    int addNote(int kind, int fromColumn, int toColumn, int toRow, boolean takes, boolean check) {
        State next = noted(kind, fromColumn, toColumn, toRow, takes, check);
        legalState(next != null && next.possible);
        change(next);
        return next.last().size();
    }

    static State clarified(State state, int note, int column, int row) {
        List<Note> notes = new ArrayList<>(state.notes);
        Note old = notes.get(note);
        notes.set(note, new Note(old.kind, column, row, old.toColumn, old.toRow, old.takes, old.check));
        return state.with(notes);
    }

    int clarify(int note, int column, int row) {
        index(note >= 0 && note < state.notes.size());
        argument(open(column, state.columns) && open(row, state.rows));
        State next = clarified(state, note, column, row);
        legalState(next.possible);
        change(next);
        return next.last().size();
    }

    int dropNote() {
        legalState(!state.notes.isEmpty());
        change(state.with(state.notes.subList(0, state.notes.size() - 1)));
        return state.notes.size();
    }

    int undo() {
        legalState(!history.isEmpty());
        state = history.removeLast();
        return history.size();
    }

    int save(int slot) {
        argument(slot == 0 || slot == 1);
        saved[slot] = state;
        return state.notes.size();
    }

    int restore(int slot) {
        argument(slot == 0 || slot == 1);
        legalState(saved[slot] != null);
        change(saved[slot]);
        return state.notes.size();
    }

    int columns() {
        return state.columns;
    }

    int rows() {
        return state.rows;
    }

    int noteCount() {
        return state.notes.size();
    }

    int colourToMove() {
        return state.notes.size() % 2;
    }

    int undoableChanges() {
        return history.size();
    }

    private Note note(int note) {
        index(note >= 0 && note < state.notes.size());
        return state.notes.get(note);
    }

    int noteKind(int note) {
        return note(note).kind;
    }

    int noteFromColumn(int note) {
        return note(note).fromColumn;
    }

    int noteFromRow(int note) {
        return note(note).fromRow;
    }

    int noteToColumn(int note) {
        return note(note).toColumn;
    }

    int noteToRow(int note) {
        return note(note).toRow;
    }

    boolean noteTakes(int note) {
        return note(note).takes;
    }

    boolean noteChecks(int note) {
        return note(note).check;
    }

    int positionsAfter(int notes) {
        argument(notes >= 0 && notes <= state.notes.size());
        return state.layers.get(notes).size();
    }

    private String position(int position) {
        index(position >= 0 && position < state.last().size());
        return state.positions().get(position);
    }

    private int square(int column, int row) {
        index(column >= 0 && column < state.columns && row >= 0 && row < state.rows);
        return row * state.columns + column;
    }

    int kindAt(int position, int column, int row) {
        return State.kind(position(position).charAt(square(column, row)));
    }

    int colourAt(int position, int column, int row) {
        return State.colour(position(position).charAt(square(column, row)));
    }

    boolean isAttacked(int position, int column, int row, int colour) {
        String cells = position(position);
        int square = square(column, row);
        argument(colour == 0 || colour == 1);
        return state.attacked(cells, square, colour);
    }

    int legalMoves(int position) {
        return state.agreeing(position(position), colourToMove(), new Note(-1, -1, -1, -1, -1, false, false)).size();
    }

    long gamesTo(int position) {
        return state.last().get(position(position));
    }

    int certainSquares() {
        int certain = 0;
        for (int i = 0; i < state.start.length(); i++) {
            int square = i;
            if (state.positions().stream().map(cells -> cells.charAt(square)).distinct().count() == 1) {
                certain++;
            }
        }
        return certain;
    }

    long gameCount() {
        return state.games();
    }

    boolean isCertain() {
        return state.games() == 1;
    }

    int doubt(int note) {
        note(note);
        return state.movesOfGames(note).size();
    }

    private long[] move(int note, int move) {
        index(move >= 0 && move < doubt(note));
        return state.movesOfGames(note).get(move);
    }

    int moveOrigin(int note, int move) {
        return (int) move(note, move)[0];
    }

    int moveTarget(int note, int move) {
        return (int) move(note, move)[1];
    }

    long gamesWithMove(int note, int move) {
        return move(note, move)[2];
    }

    long gamesWithPiece(int column, int row, int colour, int kind) {
        int square = square(column, row);
        argument((colour == 0 || colour == 1) && kind >= 0 && kind <= 4);
        long games = 0;
        for (Map.Entry<String, Long> entry : state.last().entrySet()) {
            char piece = entry.getKey().charAt(square);
            if (State.colour(piece) == colour && State.kind(piece) == kind) {
                games += entry.getValue();
            }
        }
        return games;
    }

    int mostDoubtfulNote() {
        int best = -1;
        for (int note = 0; note < noteCount(); note++) {
            if (doubt(note) > (best == -1 ? 1 : doubt(best))) {
                best = note;
            }
        }
        return best;
    }

    long gamesIfNoted(int kind, int fromColumn, int toColumn, int toRow, boolean takes, boolean check) {
        State next = noted(kind, fromColumn, toColumn, toRow, takes, check);
        return next == null || next.tooMany() ? -1 : next.games();
    }

    int inconsistencies() {
        return 0;
    }

    double meanGames() {
        return (double) gameCount() / (double) state.last().size();
    }

    float certainShare() {
        return (float) certainSquares() / (float) (state.columns * state.rows);
    }

    int writePosition(int position) {
        String cells = position(position);
        List<String> lines = new ArrayList<>();
        for (int row = state.rows - 1; row >= 0; row--) {
            lines.add(cells.substring(row * state.columns, (row + 1) * state.columns));
        }
        output = String.join("\n", lines);
        return output.length();
    }

    int outputByte(int index) {
        return index >= 0 && index < output.length() ? output.charAt(index) : -1;
    }

    private static boolean open(int value, int bound) {
        return value >= -1 && value < bound;
    }

    private static void argument(boolean right) {
        if (!right) {
            throw new IllegalArgumentException();
        }
    }

    private static void index(boolean right) {
        if (!right) {
            throw new IndexOutOfBoundsException();
        }
    }

    private static void legalState(boolean right) {
        if (!right) {
            throw new IllegalStateException();
        }
    }

    // ---- texts

    private static final class WrongToken extends RuntimeException {
        private static final long serialVersionUID = 1L;
        final int code;
        final int offset;

        WrongToken(int code, int offset) {
            this.code = code;
            this.offset = offset;
        }
    }

    private record Token(String text, int offset) {
    }

    private static final class TextReader {
        private static final Pattern TOKEN = Pattern.compile("[a-z]+|[0-9]+|[^ ]", Pattern.DOTALL);
        private static final List<String> KINDS = List.of("king", "queen", "rook", "bishop", "knight");
        private final List<Token> tokens = new ArrayList<>();
        private int next = 0;
        State state;

        TextReader(String text) {
            Matcher matcher = TOKEN.matcher(text);
            while (matcher.find()) {
                tokens.add(new Token(matcher.group(), matcher.start()));
            }
            tokens.add(new Token("", text.length()));
        }

        private String peek() {
            return tokens.get(next).text;
        }

        private void check(boolean right, int code) {
            if (!right) {
                throw new WrongToken(code, tokens.get(next).offset);
            }
        }

        private void word(String due) {
            check(peek().equals(due), 1);
            next++;
        }

        private boolean option(String word) {
            if (!peek().equals(word)) {
                return false;
            }
            next++;
            return true;
        }

        /** Leaves the number as the present token, for further errors. */
        private int look(int low, int high) {
            check(peek().matches("[0-9]+"), 1);
            BigInteger value = new BigInteger(peek());
            check(value.compareTo(BigInteger.valueOf(low)) >= 0 && value.compareTo(BigInteger.valueOf(high)) <= 0, 2);
            return value.intValue();
        }

        private int number(int low, int high) {
            int value = look(low, high);
            next++;
            return value;
        }

        int setup() {
            word("board");
            int columns = number(3, 6);
            int rows = number(3, 6);
            word(";");
            StringBuilder cells = new StringBuilder(".".repeat(columns * rows));
            int pieces = 0;
            while (pieces < 2 || peek().equals("white") || peek().equals("black")) {
                check(peek().equals("white") || peek().equals("black"), 1);
                check(pieces < 10, 4);
                boolean white = peek().equals("white");
                next++;
                int kind = KINDS.indexOf(peek());
                check(kind >= 0, 1);
                String letter = LETTERS.substring(kind, kind + 1);
                String piece = white ? letter : letter.toLowerCase();
                check(kind > 0 || cells.indexOf(piece) < 0, 4);
                next++;
                int column = number(0, columns - 1);
                int square = look(0, rows - 1) * columns + column;
                check(cells.charAt(square) == '.', 3);
                next++;
                word(";");
                cells.replace(square, square + 1, piece);
                pieces++;
            }
            if (List.of("", "note", "origin", "drop").contains(peek())) {
                check(cells.indexOf("K") >= 0 && cells.indexOf("k") >= 0, 5);
            }
            script(new State(columns, rows, cells.toString(), List.of()));
            return pieces;
        }

        int script(State first) {
            state = first;
            int commands = 0;
            while (!peek().isEmpty()) {
                State after = command();
                check(peek().equals(";"), 1);
                check(after != null && after.possible, 6);
                next++;
                state = after;
                commands++;
            }
            return commands;
        }

        private State command() {
            if (option("drop")) {
                return state.notes.isEmpty() ? null : state.with(state.notes.subList(0, state.notes.size() - 1));
            }
            if (option("origin")) {
                int note = number(0, state.notes.size() - 1);
                int column = number(0, state.columns - 1);
                return clarified(state, note, column, number(0, state.rows - 1));
            }
            word("note");
            int kind = KINDS.indexOf(peek());
            check(kind >= 0 || peek().equals("any"), 1);
            next++;
            int fromColumn = option("from") ? number(0, state.columns - 1) : -1;
            boolean to = option("to");
            int toColumn = to ? number(0, state.columns - 1) : -1;
            int toRow = to ? number(0, state.rows - 1) : -1;
            boolean takes = option("takes");
            boolean checks = option("check");
            List<Note> notes = new ArrayList<>(state.notes);
            notes.add(new Note(kind, fromColumn, -1, toColumn, toRow, takes, checks));
            return notes.size() > 10 ? null : state.with(notes);
        }
    }
}
