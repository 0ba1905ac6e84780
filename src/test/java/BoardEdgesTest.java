import java.util.List;

/** The boundary cases of "What it is" and of "Terms" 1 to 3, sentence by sentence. */
public final class BoardEdgesTest extends Checks {
    private static final String FAR_KINGS = "board 6 6;white king 0 0;black king 5 5;";
    private static final String[] KINDS = {"king", "queen", "rook", "bishop", "knight"};

    private static void calls() {
        sentence("What it is: used for at most 512 calls");
        ChessNotes x = new ChessNotes();
        for (int call = 1; call < 512; call++) {
            x.addNote(ROOK, NONE, 1, NONE, false, false);
            call++;
            if (call < 512) {
                x.dropNote();
            }
        }
        due(x.gameCount(), 4L);
        ChessNotes y = loaded(FORTY_MOVES);
        int calls = 3 + (FORTY_MOVES.length() + 19) / 20;
        note(y, NONE, NONE, NONE, NONE);
        for (; calls < 511; calls++) {
            due(y.mostDoubtfulNote(), 0);
        }
        due(y.gamesWithMove(0, 39), 1L);
        ChessNotes z = new ChessNotes();
        for (calls = 1; calls < 512; calls++) {
            z.append(0, 0, 0, 0, 0);
        }
        due(z.play(), NONE);
        ChessNotes saved = new ChessNotes();
        for (calls = 1; calls < 512; calls++) {
            saved.save(calls % 2);
        }
        due(saved.restore(1), 0);
    }

    private static void constants() {
        sentence("The constants");
        due(ChessNotes.NONE, -1);
        due(ChessNotes.KING, 0);
        due(ChessNotes.QUEEN, 1);
        due(ChessNotes.ROOK, 2);
        due(ChessNotes.BISHOP, 3);
        due(ChessNotes.KNIGHT, 4);
        due(ChessNotes.WHITE, 0);
        due(ChessNotes.BLACK, 1);
    }

    private static void sizes() {
        sentence("Terms 1: the board has 3 to 6 columns and 3 to 6 rows, numbered from 0");
        for (int columns = 2; columns <= 7; columns++) {
            for (int rows = 2; rows <= 7; rows++) {
                int right = columns - 1;
                int top = rows - 1;
                String text = "board " + columns + " " + rows + ";white king 0 0;black king " + right + " " + top + ";";
                ChessNotes x = new ChessNotes();
                boolean wide = columns >= 3 && columns <= 6;
                boolean high = rows >= 3 && rows <= 6;
                due(load(x, text), wide && high ? 2 : NONE);
                due(errors(x), wide && high ? "0 at -1" : wide ? "2 at 8" : "2 at 6");
                if (wide && high) {
                    due(x.columns() * 10 + x.rows(), columns * 10 + rows);
                    due(x.writePosition(0), (columns + 1) * rows - 1);
                    due(x.kindAt(0, right, top), KING);
                    due(x.colourAt(0, right, top), BLACK);
                    fails(INDEX, () -> x.kindAt(0, right + 1, top));
                    fails(INDEX, () -> x.kindAt(0, right, top + 1));
                    due(x.certainSquares(), columns * rows);
                    due(x.legalMoves(0), columns == 3 && rows == 3 ? 2 : 3);
                } else {
                    due(x.columns() * 10 + x.rows(), 44);
                }
            }
        }
    }

    private static void squareNumbers() {
        sentence("Terms 1: the number of a square is row * columns + column");
        for (int columns = 3; columns <= 6; columns++) {
            for (int rows = 3; rows <= 6; rows++) {
                int right = columns - 1;
                int top = rows - 1;
                ChessNotes x = loaded("board " + columns + " " + rows + ";white king 0 0;black king " + right + " 0;"
                        + "white rook 1 " + top + ";note rook to " + right + " " + top + ";");
                due(x.moveOrigin(0, 0), top * columns + 1);
                due(x.moveTarget(0, 0), top * columns + columns - 1);
                ChessNotes y = loaded("board " + columns + " " + rows + ";white king 0 " + top + ";black king " + right
                        + " " + top + ";white rook 0 0;note rook to 1 0;");
                due(y.moveOrigin(0, 0), 0);
                due(y.moveTarget(0, 0), 1);
            }
        }
    }

    private static void pieces() {
        sentence("Terms 1: no pawns and no castling");
        ChessNotes x = new ChessNotes();
        due(load(x, "board 4 4;white king 0 0;white pawn 1 1;black king 3 3;"), NONE);
        due(errors(x), "1 at 31");
        ChessNotes home = loaded("board 6 6;white king 2 0;white rook 0 0;white rook 5 0;black king 2 5;");
        due(home.gamesIfNoted(KING, NONE, 0, NONE, false, false), 0L);
        due(home.gamesIfNoted(KING, NONE, 4, NONE, false, false), 0L);
        due(home.gamesIfNoted(KING, NONE, NONE, NONE, false, false), 5L);

        sentence("Terms 1: at the start there are 2 to 10 pieces");
        String head = "board 6 6;white king 0 0;";
        due(load(x, head), NONE);
        due(errors(x), "1 at 25");
        due(load(x, head + "black king 5 5;"), 2);
        due(load(x, TEN_PIECES), 10);
        due(load(x, TEN_PIECES + "black rook 4 5;"), NONE);
        due(errors(x), "4 at " + TEN_PIECES.length());

        sentence("Terms 1: on different squares");
        due(load(x, "board 3 5;white king 0 0;black king 2 4;white rook 2 4;"), NONE);
        due(errors(x), "3 at 53");
        due(load(x, "board 3 5;white king 0 0;black king 2 4;white rook 2 3;white rook 1 4;white rook 0 4;"), 5);
        due(load(x, "board 5 3;white king 0 0;black king 4 2;white rook 4 0;white rook 0 2;white rook 0 1;"), 5);

        sentence("Terms 1: with exactly one king of each colour");
        for (String colour : new String[] {"white", "black"}) {
            String other = colour.equals("white") ? "black" : "white";
            due(load(x, "board 4 4;" + colour + " king 0 0;" + other + " rook 3 2;"), NONE);
            due(errors(x), "5 at 40");
            due(load(x, "board 4 4;" + colour + " king 0 0;" + colour + " king 3 2;"), NONE);
            due(errors(x), "4 at 31");
            due(load(x, "board 4 4;" + colour + " king 0 0;" + other + " king 3 2;"), 2);
        }
    }

    private static void turns() {
        sentence("Terms 1: white moves first, and then the colours take turns");
        ChessNotes x = loaded(KINGS);
        due(x.colourToMove(), WHITE);
        String[] to = {"1 0", "1 2", "0 0", "2 2", "1 0", "1 2", "0 0", "2 2", "1 0", "1 2"};
        int white = 0;
        int black = 8;
        for (int i = 0; i < 10; i++) {
            due(play(x, "note king to " + to[i] + ";"), 1);
            due(x.colourToMove(), i % 2 == 0 ? BLACK : WHITE);
            due(x.moveOrigin(i, 0), i % 2 == 0 ? white : black);
            white = i % 2 == 0 ? x.moveTarget(i, 0) : white;
            black = i % 2 == 1 ? x.moveTarget(i, 0) : black;
        }
        due(x.dropNote(), 9);
        due(x.colourToMove(), BLACK);
    }

    private static String attacked(String setup, int colour) {
        ChessNotes x = loaded(setup);
        StringBuilder found = new StringBuilder();
        for (int row = x.rows() - 1; row >= 0; row--) {
            for (int column = 0; column < x.columns(); column++) {
                found.append(x.isAttacked(0, column, row, colour) ? '#' : '.');
            }
            found.append(row > 0 ? "/" : "");
        }
        return found.toString();
    }

    private static void kingRange() {
        sentence("Terms 1: a king reaches the up to 8 adjacent squares");
        String[][] places = {
            {"0 0", "5 5", "....../....../....../....../##..../.#...."},
            {"5 0", "0 5", "....../....../....../....../....##/....#."},
            {"0 5", "5 0", ".#..../##..../....../....../....../......"},
            {"5 5", "0 0", "....#./....##/....../....../....../......"},
            {"0 2", "5 5", "....../....../##..../.#..../##..../......"},
            {"5 3", "0 0", "....../....##/....#./....##/....../......"},
            {"3 0", "5 5", "....../....../....../....../..###./..#.#."},
            {"2 5", "0 0", ".#.#../.###../....../....../....../......"},
            {"2 2", "5 5", "....../....../.###../.#.#../.###../......"}};
        for (String[] place : places) {
            due(attacked("board 6 6;white king " + place[0] + ";black king " + place[1] + ";", WHITE), place[2]);
            due(attacked("board 6 6;white king " + place[1] + ";black king " + place[0] + ";", BLACK), place[2]);
        }
        due(attacked("board 3 3;white king 1 1;black king 0 0;", WHITE), "###/#.#/###");
        due(attacked("board 3 3;white king 1 1;black king 0 0;", BLACK), ".../##./.#.");
    }

    private static void slides() {
        sentence("Terms 1: a rook slides along its row and its column, to the edge of the board");
        due(attacked(FAR_KINGS + "white rook 2 3;", WHITE), "..#.../..#.../##.###/..#.../###.../.##...");
        due(attacked(FAR_KINGS + "white rook 0 5;", WHITE), ".#####/#...../#...../#...../##..../##....");
        due(attacked("board 6 6;white king 0 5;black king 0 0;white rook 5 0;", WHITE),
                ".#...#/##...#/.....#/.....#/.....#/#####.");
        due(attacked("board 3 3;white king 0 0;black king 2 2;white rook 1 1;", WHITE), ".#./###/.#.");

        sentence("Terms 1: a bishop slides along its diagonals, to the edge of the board");
        due(attacked(FAR_KINGS + "white bishop 2 3;", WHITE), "#...#./.#.#../....../.#.#../##..#./.#...#");
        due(attacked(FAR_KINGS + "white bishop 0 5;", WHITE), "....../.#..../..#.../...#../##..#./.#...#");
        due(attacked("board 6 6;white king 0 5;black king 5 0;white bishop 0 0;", WHITE),
                ".#...#/##..#./...#../..#.../.#..../......");
        due(attacked("board 6 6;white king 0 0;black king 0 5;white bishop 5 3;", WHITE),
                "...#../....#./....../....#./##.#../.##...");
        due(attacked("board 3 3;white king 0 0;black king 2 2;white bishop 1 2;", WHITE), ".../###/.#.");

        sentence("Terms 1: a queen slides like both");
        due(attacked(FAR_KINGS + "white queen 2 3;", WHITE), "#.#.#./.###../##.###/.###../###.#./.##..#");
        due(attacked(FAR_KINGS + "black queen 5 0;", BLACK), "#...##/.#..##/..#..#/...#.#/....##/#####.");

        sentence("Terms 1: a slide ends at the first square that is not empty, which is part of the range");
        for (String colour : new String[] {"white", "black"}) {
            for (int bar = 1; bar < 5; bar++) {
                String inRow = colour + " knight " + bar + " 0;";
                String inColumn = colour + " bishop 0 " + bar + ";";
                String inDiagonal = colour + " rook " + bar + " " + bar + ";";
                ChessNotes row = loaded("board 6 6;white king 5 2;black king 5 4;white rook 0 0;" + inRow);
                ChessNotes column = loaded("board 6 6;white king 5 2;black king 5 4;white queen 0 5;" + inColumn);
                ChessNotes diagonal = loaded("board 6 6;white king 5 0;black king 0 5;white bishop 0 0;" + inDiagonal);
                for (int i = 1; i <= 5; i++) {
                    due(row.isAttacked(0, i, 0, WHITE), i <= bar);
                    due(column.isAttacked(0, 0, i - 1, WHITE), i - 1 >= bar);
                    due(diagonal.isAttacked(0, i, i, WHITE), i <= bar);
                }
            }
        }
        due(attacked(FAR_KINGS + "black rook 0 5;white rook 2 5;", WHITE), "##.###/..#.../..#.../..#.../###.../.##...");
        due(attacked(FAR_KINGS + "white rook 1 0;", WHITE), ".#..../.#..../.#..../.#..../##..../######");
        due(attacked(FAR_KINGS + "white rook 1 0;", BLACK), "....#./....##/....../....../....../......");
    }

    private static void knightRange() {
        sentence("Terms 1: a knight reaches two columns and one row, or one column and two rows away");
        due(attacked(FAR_KINGS + "white knight 2 3;", WHITE), ".#.#../#...#./....../#...#./##.#../.#....");
        due(attacked(FAR_KINGS + "white knight 5 0;", WHITE), "....../....../....../....#./##.#../.#....");
        due(attacked(FAR_KINGS + "white knight 0 5;", WHITE), "....../..#.../.#..../....../##..../.#....");
        due(attacked("board 6 6;white king 0 5;black king 5 5;black knight 0 0;", BLACK),
                "....#./....##/....../.#..../..#.../......");
        due(attacked("board 6 6;white king 0 5;black king 0 0;black knight 5 5;", BLACK),
                "....../...#../....#./....../##..../.#....");
        due(attacked("board 6 6;white king 0 0;black king 0 5;black knight 4 3;", BLACK),
                ".#.#.#/###.../....../..#.../...#.#/......");
        due(attacked("board 3 3;white king 0 0;black king 2 2;white knight 1 1;", WHITE), ".../##./.#.");
        // It jumps: the squares next to it are all held.
        due(attacked("board 3 5;white king 0 0;black king 2 4;white knight 1 2;black rook 1 1;black rook 1 3;"
                + "black rook 0 2;black rook 2 2;", WHITE), "#.#/.../.../##./###");
    }

    private static boolean reaches(int kind, int across, int up) {
        int wide = Math.abs(across);
        int high = Math.abs(up);
        boolean straight = wide == 0 || high == 0;
        boolean diagonal = wide == high;
        boolean moves = wide + high > 0;
        return switch (kind) {
            case KING -> moves && wide <= 1 && high <= 1;
            case QUEEN -> moves && (straight || diagonal);
            case ROOK -> moves && straight;
            case BISHOP -> moves && diagonal;
            default -> wide == 2 && high == 1 || wide == 1 && high == 2;
        };
    }

    /** Every kind on every square of every board: what it attacks, and where it may go. */
    private static void rangesEverywhere() {
        sentence("Terms 1: the ranges at every edge of every board");
        for (int size = 0; size < 16; size++) {
            int columns = 3 + size % 4;
            int rows = 3 + size / 4;
            for (int square = 0; square < columns * rows; square++) {
                for (int kind = QUEEN; kind <= KNIGHT; kind++) {
                    rangeFrom(columns, rows, square % columns, square / columns, kind);
                }
            }
        }
    }

    private static void rangeFrom(int columns, int rows, int column, int row, int kind) {
        int white = column + row * columns == 0 ? 1 : 0;
        int black = columns * rows - 1 - (column + row * columns == columns * rows - 1 ? 1 : 0);
        ChessNotes x = loaded("board " + columns + " " + rows + ";black king " + black % columns + " " + black / columns
                + ";white king " + white + " 0;white " + KINDS[kind] + " " + column + " " + row + ";");
        for (int square = 0; square < columns * rows; square++) {
            int toColumn = square % columns;
            int toRow = square / columns;
            boolean barred = isBetween(column, row, toColumn, toRow, white, 0)
                    || isBetween(column, row, toColumn, toRow, black % columns, black / columns);
            boolean byPiece = reaches(kind, toColumn - column, toRow - row) && (kind == KNIGHT || !barred);
            due(x.isAttacked(0, toColumn, toRow, WHITE), byPiece || reaches(KING, toColumn - white, toRow));
            boolean isKing = square == white || square == black;
            boolean areApart = !reaches(KING, black % columns - white, black / columns);
            due(x.gamesIfNoted(kind, column, toColumn, toRow, false, false), byPiece && !isKing && areApart ? 1L : 0L);
        }
    }

    private static boolean isBetween(int column, int row, int toColumn, int toRow, int barColumn, int barRow) {
        int across = toColumn - column;
        int up = toRow - row;
        int steps = Math.max(Math.abs(across), Math.abs(up));
        for (int i = 1; i < steps; i++) {
            if (column * steps + across * i == barColumn * steps && row * steps + up * i == barRow * steps) {
                return true;
            }
        }
        return false;
    }

    private static void attacks() {
        sentence("Terms 1: a square is attacked by a colour if it is in the range of a piece of that colour");
        // The squares of a colour's own pieces count, a piece's own square does not.
        ChessNotes x = loaded("board 4 4;white king 0 0;white rook 0 1;white knight 3 0;black king 3 3;");
        due(x.isAttacked(0, 0, 0, WHITE), true);
        due(x.isAttacked(0, 0, 1, WHITE), true);
        due(x.isAttacked(0, 3, 0, WHITE), false);
        due(x.isAttacked(0, 3, 3, BLACK), false);
        due(x.isAttacked(0, 2, 2, BLACK), true);
        // Each position by itself, whichever was asked about before.
        ChessNotes two = loaded("board 4 4;white king 0 0;white rook 2 1;black king 0 3;note rook to 2 2;drop;note rook from 2;");
        for (int i = 0; i < 2; i++) {
            for (int position = two.positionsAfter(1) - 1; position >= 0; position--) {
                for (int square = 0; square < 16; square++) {
                    due(two.isAttacked(position, square % 4, square / 4, WHITE), isByRookOrKing(two, position, square));
                }
                two.legalMoves(0);
            }
        }
        // A piece that may not move attacks all the same.
        ChessNotes pinned = loaded("board 5 5;white king 4 3;white rook 0 4;black rook 0 2;black king 0 0;");
        due(pinned.isAttacked(0, 4, 2, BLACK), true);
        due(pinned.gamesIfNoted(KING, NONE, NONE, 2, false, false), 0L);
        due(pinned.gamesIfNoted(KING, NONE, NONE, NONE, false, false), 3L);
    }

    /** The only rook stands on an otherwise open board, and the white king in its corner. */
    private static boolean isByRookOrKing(ChessNotes x, int position, int square) {
        int column = square % 4;
        int row = square / 4;
        boolean found = column <= 1 && row <= 1 && square > 0;
        for (int from = 0; from < 16; from++) {
            if (x.kindAt(position, from % 4, from / 4) == ROOK && x.colourAt(position, from % 4, from / 4) == WHITE) {
                boolean reached = reaches(ROOK, column - from % 4, row - from / 4);
                found |= reached && !isBetween(from % 4, from / 4, column, row, 0, 0)
                        && !isBetween(from % 4, from / 4, column, row, 0, 3);
            }
        }
        return found;
    }

    private static void moves() {
        sentence("Terms 1: the target is empty or holds a piece of the other colour that is not a king");
        ChessNotes x = loaded("board 4 4;white king 0 0;white rook 1 0;white knight 1 2;black king 3 0;black rook 1 3;");
        // The rook: up one square to its own knight, one step along the row, and the king of black is not taken.
        due(x.gamesIfNoted(ROOK, NONE, NONE, NONE, false, false), 2L);
        due(x.gamesIfNoted(ROOK, NONE, 1, 1, false, false), 1L);
        due(x.gamesIfNoted(ROOK, NONE, 2, 0, false, false), 1L);
        due(x.gamesIfNoted(NONE, NONE, 3, 0, false, false), 0L);
        due(x.gamesIfNoted(NONE, NONE, NONE, NONE, true, false), 0L);
        due(loaded("board 4 4;white king 0 0;white rook 3 0;black king 3 3;").legalMoves(0), 3 + 2 + 2);

        sentence("Terms 1: a capture takes that piece off the board");
        ChessNotes y = new ChessNotes();
        due(y.addNote(NONE, NONE, NONE, NONE, true, false), 1);
        due(shown(y, 0), "bR.k\n....\n...R\nK.N.");
        due(y.kindAt(0, 1, 3), ROOK);
        due(y.colourAt(0, 1, 3), WHITE);
        due(y.gamesWithPiece(1, 3, BLACK, KNIGHT), 0L);
        due(y.gamesIfNoted(KNIGHT, NONE, NONE, NONE, false, false), 0L);
    }

    private static void legality() {
        sentence("Terms 1: a move is legal if the king of the colour that moved is not attacked afterwards");
        // A rook that covers its king from another may move in its column alone.
        due(loaded("board 5 5;white king 0 0;white rook 0 1;black rook 0 4;black king 4 4;").legalMoves(0), 5);
        // A king cannot get out of a rook's reach along the line on which it is attacked.
        ChessNotes line = loaded("board 5 3;white king 1 0;black rook 3 0;black king 4 2;");
        due(line.legalMoves(0), 3);
        due(line.gamesIfNoted(KING, NONE, NONE, 0, false, false), 0L);
        // The attacker may be taken, though no other move of the rook helps.
        ChessNotes taken = loaded("board 5 3;white king 1 0;white rook 3 2;black rook 3 0;black king 4 2;");
        due(taken.legalMoves(0), 4);
        due(taken.gamesIfNoted(ROOK, NONE, 3, 0, true, false), 1L);
        // A piece that is covered by another is not taken by the king.
        due(loaded("board 4 4;white king 0 0;black queen 1 1;black king 2 2;").legalMoves(0), 0);
        due(loaded("board 4 4;white king 0 0;black queen 1 1;black king 3 3;").legalMoves(0), 1);
        // Kings that stand side by side at the start have to part.
        ChessNotes near = loaded("board 4 4;white king 1 0;white rook 3 3;black king 0 0;");
        due(near.legalMoves(0), 2);
        due(near.gamesIfNoted(KING, NONE, 2, NONE, false, false), 2L);
        // Nor does a king go next to the other.
        ChessNotes apart = loaded(KINGS);
        due(apart.legalMoves(0), 2);
        due(apart.gamesIfNoted(KING, NONE, 1, 1, false, false), 0L);

        sentence("Terms 1: a move gives check if the king of the other colour is attacked afterwards");
        ChessNotes x = new ChessNotes();
        // Black's king is attacked before: the knight on 3 2 and the rook's own steps aside end that.
        due(x.gamesIfNoted(NONE, NONE, NONE, NONE, false, true), 8L);
        due(x.gamesIfNoted(KNIGHT, NONE, 3, 2, false, true), 0L);
        due(x.gamesIfNoted(KNIGHT, NONE, 1, 2, false, true), 1L);
        due(x.gamesIfNoted(ROOK, 3, 3, NONE, false, true), 2L);
        due(x.gamesIfNoted(ROOK, 3, 1, NONE, false, true), 0L);
        // The piece that moves away lets another give check; black gives check, too.
        ChessNotes open = loaded("board 4 4;white king 0 0;white rook 0 3;white knight 1 3;black king 3 3;black rook 3 1;");
        due(open.gamesIfNoted(KNIGHT, NONE, NONE, NONE, false, true), 3L);
        note(open, KING, NONE, 1, 0);
        due(open.gamesIfNoted(ROOK, NONE, NONE, NONE, false, true), 2L);
        due(open.gamesIfNoted(ROOK, NONE, 1, 1, false, true), 1L);
        due(open.gamesIfNoted(ROOK, NONE, 3, 0, false, true), 1L);
        due(open.gamesIfNoted(ROOK, NONE, 3, 2, false, true), 0L);
    }

    private static void noteNumbers() {
        sentence("Terms 2: there are 0 to 10 notes, numbered from 0");
        ChessNotes x = loaded(KINGS);
        due(x.noteCount(), 0);
        fails(INDEX, () -> x.noteKind(0));
        play(x, TEN_NOTES);
        due(x.noteCount(), 10);
        due(x.noteKind(0), KING);
        due(x.noteKind(9), KING);
        fails(INDEX, () -> x.noteKind(10));
        fails(INDEX, () -> x.noteKind(-1));
        fails(STATE, () -> note(x, NONE, NONE, NONE, NONE));
        due(x.noteCount(), 10);
        due(x.dropNote(), 9);
        due(note(x, NONE, NONE, NONE, NONE) > 0, true);
        due(x.noteCount(), 10);

        sentence("Terms 2: note 0 is about the first move of white, note 1 about the first move of black, and so on");
        ChessNotes y = new ChessNotes();
        note(y, KNIGHT, NONE, NONE, NONE);
        due(y.moveOrigin(0, 0), 2);
        note(y, KNIGHT, NONE, 2, NONE);
        due(y.moveOrigin(1, 0), 13);
        due(y.moveTarget(1, 0), 6);
    }

    private static void statements() {
        ChessNotes x = new ChessNotes();
        sentence("Terms 2: a note can state a kind");
        due(x.gamesIfNoted(KING, NONE, NONE, NONE, false, false), 1L);
        due(x.gamesIfNoted(QUEEN, NONE, NONE, NONE, false, false), 0L);
        due(x.gamesIfNoted(ROOK, NONE, NONE, NONE, false, false), 8L);
        due(x.gamesIfNoted(BISHOP, NONE, NONE, NONE, false, false), 0L);
        due(x.gamesIfNoted(KNIGHT, NONE, NONE, NONE, false, false), 3L);
        sentence("Terms 2: ... the column of the origin");
        long[] fromColumn = {1, 3, 3, 5};
        long[] toColumn = {2, 6, 1, 3};
        long[] toRow = {1, 6, 4, 1};
        for (int i = 0; i < 4; i++) {
            due(x.gamesIfNoted(NONE, i, NONE, NONE, false, false), fromColumn[i]);
        }
        sentence("Terms 2: ... the column of the target");
        for (int i = 0; i < 4; i++) {
            due(x.gamesIfNoted(NONE, NONE, i, NONE, false, false), toColumn[i]);
        }
        sentence("Terms 2: ... the row of the target");
        for (int i = 0; i < 4; i++) {
            due(x.gamesIfNoted(NONE, NONE, NONE, i, false, false), toRow[i]);
        }
        sentence("Terms 2: ... that the move is a capture, and that it gives check");
        due(x.gamesIfNoted(NONE, NONE, NONE, NONE, true, false), 1L);
        due(x.gamesIfNoted(NONE, NONE, NONE, NONE, false, true), 8L);
        due(x.gamesIfNoted(NONE, NONE, NONE, NONE, true, true), 1L);
        sentence("Terms 2: whatever a note does not state is open");
        due(x.gamesIfNoted(NONE, NONE, NONE, NONE, false, false), 12L);
        sentence("Terms 2: ... the row of the origin");
        note(x, NONE, NONE, NONE, NONE);
        due(x.clarify(0, NONE, 0), 7);
        due(x.clarify(0, NONE, 1), 5);
        fails(STATE, () -> x.clarify(0, NONE, 2));
        fails(STATE, () -> x.clarify(0, NONE, 3));
        due(x.clarify(0, 1, 0), 3);
        due(x.clarify(0, NONE, NONE), 12);
        sentence("Terms 2: a note that does not state a capture agrees with captures, too, and likewise with checks");
        x.dropNote();
        due(x.gamesIfNoted(ROOK, 1, NONE, NONE, false, false), 3L);
        due(x.gamesIfNoted(ROOK, 1, NONE, 3, false, false), 1L);
        due(x.gamesIfNoted(ROOK, 3, NONE, NONE, false, false), 5L);
        due(x.gamesIfNoted(ROOK, 3, 3, 2, false, false), 1L);
    }

    /** Rooks, or what is named, that come to the same two squares in two ways. */
    private static ChessNotes meeting(String second, String lastTarget) {
        return loaded("board 6 6;white king 1 0;white rook 0 2;" + second + " 3 3;black king 5 0;"
                + "note any to 3 2;note king to 4 0;" + lastTarget);
    }

    private static void positions() {
        sentence("Terms 3: pieces of one kind and colour are not told apart");
        ChessNotes same = meeting("white rook", "note any to 0 3;");
        due(same.positionsAfter(1), 2);
        due(same.positionsAfter(3), 1);
        due(same.gameCount(), 2L);
        due(same.gamesTo(0), 2L);
        due(same.isCertain(), false);
        due(same.meanGames(), 2.0);
        due(same.certainSquares(), 36);
        ChessNotes different = meeting("white queen", "note any to 0 3;");
        due(different.positionsAfter(3), 2);
        due(different.gamesTo(1), 1L);
        due(different.certainSquares(), 34);

        sentence("Terms 3: a position that was found before keeps its number");
        ChessNotes x = meeting("white rook", "");
        due(shown(x, 0), "......\n......\n...R..\n...R..\n......\n.K..k.");
        due(shown(x, 1), "......\n......\n......\nR..R..\n......\n.K..k.");
        due(x.addNote(ROOK, NONE, NONE, 3, false, false), 6);
        int[] columns = {0, 1, 2, 4, 5};
        for (int i = 0; i < 5; i++) {
            due(x.kindAt(i, columns[i], 3), ROOK);
            due(x.kindAt(i, 3, 2), ROOK);
            due(x.gamesTo(i), i == 0 ? 2L : 1L);
        }
        due(shown(x, 5), "......\n......\n...R..\nR.....\n......\n.K..k.");
        due(x.gamesTo(5), 1L);

        // The two rooks take turns on the last squares of the largest board: most positions are found again.
        ChessNotes corner = loaded("board 6 6;white king 0 0;black king 5 0;white rook 3 5;white rook 4 4;");
        note(corner, ROOK, NONE, NONE, 5);
        note(corner, KING, NONE, 5, NONE);
        note(corner, ROOK, NONE, NONE, 5);
        Reference plain = new Reference();
        plain.state = new Reference.State(6, 6, "K....k" + "......" + "......" + "......" + "....R." + "...R..", List.of());
        plain.addNote(ROOK, NONE, NONE, 5, false, false);
        plain.addNote(KING, NONE, 5, NONE, false, false);
        plain.addNote(ROOK, NONE, NONE, 5, false, false);
        sameAs(plain, corner);

        sentence("Terms 3: in ascending order of the origin, and of the target for equal origins");
        ChessNotes y = new ChessNotes();
        due(note(y, NONE, NONE, NONE, NONE), 12);
        int[] origins = {0, 1, 1, 1, 2, 2, 2, 7, 7, 7, 7, 7};
        int[] targets = {5, 5, 9, 13, 4, 9, 11, 3, 4, 5, 6, 11};
        for (int i = 0; i < 12; i++) {
            due(y.kindAt(i, origins[i] % 4, origins[i] / 4), NONE);
            due(y.colourAt(i, targets[i] % 4, targets[i] / 4), WHITE);
            due(y.moveOrigin(0, i), origins[i]);
            due(y.moveTarget(0, i), targets[i]);
        }

        sentence("Terms 3: the positions after a number of notes are those of the games of just these notes");
        // Only two of the rook's moves let black's knight take it, but all of them count after the first note.
        ChessNotes dead = loaded("board 4 4;white king 0 0;white rook 1 1;black king 3 3;black knight 3 1;");
        int open = note(dead, ROOK, NONE, NONE, NONE);
        due(open, 6);
        due(dead.addNote(KNIGHT, NONE, NONE, NONE, true, false), 2);
        due(dead.positionsAfter(1), 6);
        due(dead.doubt(0), 2);
        due(dead.gamesWithMove(0, 1), 1L);
        fails(INDEX, () -> dead.gamesWithMove(0, 2));
        due(dead.dropNote(), 1);
        due(dead.doubt(0), 6);
    }

    /** All positions and games after all notes, as the plain reference finds them. */
    private static void sameAs(Reference plain, ChessNotes x) {
        int notes = plain.noteCount();
        due(x.noteCount(), notes);
        for (int i = 0; i <= notes; i++) {
            due(x.positionsAfter(i), plain.positionsAfter(i));
        }
        for (int i = 0; i < notes; i++) {
            due(x.doubt(i), plain.doubt(i));
        }
        for (int i = 0; i < plain.positionsAfter(notes); i++) {
            due(x.gamesTo(i), plain.gamesTo(i));
            due(x.writePosition(i), plain.writePosition(i));
            for (int square = 0; square < plain.columns() * plain.rows(); square++) {
                due(x.outputByte(square), plain.outputByte(square));
            }
        }
    }

    /** Two rooks that go up and down in their columns: five moves each time, and 36 positions. */
    private static void manyGames() {
        sentence("Terms 3: many games between few positions, up to the tenth note");
        ChessNotes x = loaded("board 6 6;white king 0 0;white knight 2 0;white rook 1 1;"
                + "black king 5 5;black knight 3 5;black rook 4 4;");
        int[] positions = {1, 5, 25, 30, 36, 36, 36, 36, 36, 36, 36};
        int[] doubts = {5, 5, 25, 25, 30, 30, 30, 30, 30, 30};
        long games = 1;
        for (int i = 0; i < 10; i++) {
            games *= 5;
            due(x.gamesIfNoted(ROOK, NONE, i % 2 == 0 ? 1 : 4, NONE, false, false), games);
            due(note(x, ROOK, NONE, i % 2 == 0 ? 1 : 4, NONE), positions[i + 1]);
            due(x.gameCount(), games);
            due(x.doubt(i), doubts[i]);
        }
        due(x.gameCount(), 9765625L);
        due(x.meanGames(), 9765625.0 / 36.0);
        due(x.inconsistencies(), 0);
        due(x.gamesWithMove(0, 0), 9765625L / 5);
        due(x.gamesWithMove(9, 0) + x.gamesWithMove(9, 1) > 0, true);
        due(x.certainSquares(), 36 - 12);
        String all = state(x);
        due(x.save(0), 10);
        due(x.clarify(0, 1, 1), 36);
        due(load(x, KINGS), 2);
        due(x.restore(0), 10);
        due(state(x), all);
        x.undo();
        x.undo();
        due(x.noteFromRow(0), 1);
        x.undo();
        due(state(x), all);
    }

    private static void fullLayers() {
        sentence("Terms 3: 40 positions after one note, and fewer after the next ones");
        ChessNotes x = loaded(FORTY_MOVES + "note any;");
        Reference plain = new Reference();
        plain.state = new Reference.State(6, 6, "K....." + "......" + "R....." + "..Q..." + "......" + ".R...k", List.of());
        plain.addNote(NONE, NONE, NONE, NONE, false, false);
        due(x.addNote(KING, NONE, 4, NONE, false, false), plain.addNote(KING, NONE, 4, NONE, false, false));
        due(x.addNote(KING, NONE, 1, 0, false, false), plain.addNote(KING, NONE, 1, 0, false, false));
        sameAs(plain, x);
        x.dropNote();
        plain.dropNote();
        for (int square = 0; square < 36; square++) {
            for (int kind = KING; kind <= KNIGHT; kind++) {
                due(x.gamesWithPiece(square % 6, square / 6, WHITE, kind), plain.gamesWithPiece(square % 6, square / 6, WHITE, kind));
            }
        }
        // One position less than before: the last one is forgotten.
        ChessNotes less = new ChessNotes();
        due(note(less, ROOK, NONE, 1, NONE), 4);
        due(less.gamesWithPiece(1, 1, WHITE, ROOK), 2L);
        due(less.clarify(0, 1, NONE), 3);
        due(less.gamesWithPiece(1, 0, WHITE, ROOK), 0L);
        due(less.gamesWithPiece(3, 1, WHITE, ROOK), 3L);
        due(less.gameCount(), 3L);
        due(less.certainSquares(), 13);
        due(less.clarify(0, 3, NONE), 1);
        due(less.gamesWithPiece(1, 0, WHITE, ROOK), 1L);
        due(less.gamesWithPiece(3, 1, WHITE, ROOK), 0L);
        due(less.certainSquares(), 16);
    }

    private static void limits() {
        sentence("Terms 3: there must always be at least one game");
        ChessNotes stale = loaded("board 3 3;white king 0 0;black king 2 2;black queen 1 2;");
        due(stale.isAttacked(0, 0, 0, BLACK), false);
        due(stale.legalMoves(0), 0);
        fails(STATE, () -> note(stale, NONE, NONE, NONE, NONE));
        ChessNotes mate = loaded("board 4 4;white king 0 0;black queen 1 1;black king 2 2;");
        due(mate.gameCount(), 1L);
        due(mate.legalMoves(0), 0);
        fails(STATE, () -> note(mate, NONE, NONE, NONE, NONE));
        due(mate.gamesIfNoted(NONE, NONE, NONE, NONE, false, false), 0L);
        due(mate.noteCount(), 0);
        // One move alone: what it does not agree with is refused.
        ChessNotes one = loaded("board 4 4;white king 0 0;black queen 1 1;black king 3 3;");
        fails(STATE, () -> note(one, ROOK, NONE, NONE, NONE));
        fails(STATE, () -> one.addNote(KING, NONE, NONE, NONE, false, true));
        due(one.addNote(KING, 0, 1, 1, true, false), 1);
        // A note in the middle that leaves the last one without a move, and one without any of its own.
        ChessNotes middle = new ChessNotes();
        note(middle, ROOK, NONE, NONE, NONE);
        middle.addNote(NONE, NONE, NONE, NONE, true, false);
        due(middle.doubt(0), 4);
        String before = state(middle);
        fails(STATE, () -> middle.clarify(0, 0, 0));
        fails(STATE, () -> middle.clarify(1, 3, 0));
        due(state(middle), before);

        sentence("Terms 3: at most 40 positions after any number of notes");
        ChessNotes forty = loaded(FORTY_MOVES);
        due(forty.legalMoves(0), 40);
        due(forty.gamesIfNoted(NONE, NONE, NONE, NONE, false, false), 40L);
        due(note(forty, NONE, NONE, NONE, NONE), 40);
        due(forty.positionsAfter(1), 40);
        ChessNotes more = loaded(FORTY_ONE_MOVES);
        due(more.legalMoves(0), 41);
        due(more.gamesIfNoted(NONE, NONE, NONE, NONE, false, false), (long) NONE);
        fails(STATE, () -> note(more, NONE, NONE, NONE, NONE));
        due(more.noteCount(), 0);
        // 41 positions after the first note, although only a few would be left after the second.
        due(note(more, NONE, 5, NONE, NONE), 13);
        due(more.addNote(KING, NONE, NONE, NONE, true, false), 1);
        fails(STATE, () -> more.clarify(0, NONE, NONE));
        due(more.noteFromColumn(0), 5);
        due(more.positionsAfter(1), 13);
        due(more.positionsAfter(2), 1);
        // 40 of them are not too many, with the same second note.
        ChessNotes enough = loaded(FORTY_MOVES + "note any from 0;");
        due(enough.gameCount(), 12L);
        due(enough.clarify(0, NONE, NONE), 40);
        due(enough.clarify(0, 2, 3), 19);
    }

    public static void main(String[] args) {
        calls();
        constants();
        sizes();
        squareNumbers();
        pieces();
        turns();
        kingRange();
        slides();
        knightRange();
        rangesEverywhere();
        attacks();
        moves();
        legality();
        noteNumbers();
        statements();
        positions();
        limits();
        manyGames();
        fullLayers();
        end();
    }
}
