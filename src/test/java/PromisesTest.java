import java.nio.charset.StandardCharsets;

/** Each promise of the document by itself: ordinary inputs, the edges that it names, and wrong inputs. */
public final class PromisesTest {
    private static final int NONE = ChessNotes.NONE;
    private static final int KING = ChessNotes.KING;
    private static final int QUEEN = ChessNotes.QUEEN;
    private static final int ROOK = ChessNotes.ROOK;
    private static final int BISHOP = ChessNotes.BISHOP;
    private static final int KNIGHT = ChessNotes.KNIGHT;
    private static final int WHITE = ChessNotes.WHITE;
    private static final int BLACK = ChessNotes.BLACK;
    private static final Class<?> ARGUMENT = IllegalArgumentException.class;
    private static final Class<?> INDEX = IndexOutOfBoundsException.class;
    private static final Class<?> STATE = IllegalStateException.class;
    private static final int[] WRONG_NUMBERS = {Integer.MIN_VALUE, -2, -1, 1000, Integer.MAX_VALUE};

    private static final String KINGS = "board 3 3; white king 0 0; black king 2 2;";
    private static final String TEN = "board 6 6; white king 0 0; black king 5 5; white rook 1 0; white rook 2 0;"
            + " white rook 3 0; white rook 4 0; black rook 0 5; black rook 1 5; black rook 2 5; black rook 3 5;";

    private static int count = 0;
    private static int wrong = 0;

    private interface Call {
        Object make();
    }

    private static void due(int promise, Object got, Object want) {
        count++;
        if (!got.equals(want)) {
            wrong++;
            StackTraceElement caller = new Throwable().getStackTrace()[1];
            System.out.println("promise " + promise + ", line " + caller.getLineNumber() + ": answered " + got + ", due is " + want);
        }
    }

    private static void fails(int promise, Class<?> want, Call call) {
        Object got;
        try {
            got = call.make();
        } catch (RuntimeException thrown) {
            got = thrown.getClass();
        }
        count++;
        if (got != want) {
            wrong++;
            StackTraceElement caller = new Throwable().getStackTrace()[1];
            System.out.println("promise " + promise + ", line " + caller.getLineNumber() + ": answered " + got + ", due is " + want);
        }
    }

    private static int type(ChessNotes x, String text) {
        byte[] bytes = (text + " ".repeat(19)).getBytes(StandardCharsets.ISO_8859_1);
        int before = x.append(0, 0, 0, 0, 0) - 20;
        x.truncateInput(before);
        for (int from = 0; from + 20 <= bytes.length; from += 20) {
            int[] words = new int[5];
            for (int i = 0; i < 20; i++) {
                words[i / 4] = words[i / 4] << 8 | bytes[from + i] & 255;
            }
            x.append(words[0], words[1], words[2], words[3], words[4]);
        }
        return x.truncateInput(before + text.length());
    }

    private static int load(ChessNotes x, String text) {
        type(x, text);
        return x.load();
    }

    private static int play(ChessNotes x, String text) {
        type(x, text);
        return x.play();
    }

    private static ChessNotes loaded(String text) {
        ChessNotes x = new ChessNotes();
        due(4, load(x, text) > 0, true);
        return x;
    }

    private static int note(ChessNotes x, int kind, int fromColumn, int toColumn, int toRow) {
        return x.addNote(kind, fromColumn, toColumn, toRow, false, false);
    }

    private static String shown(ChessNotes x, int position) {
        int length = x.writePosition(position);
        StringBuilder text = new StringBuilder();
        for (int i = 0; i < length; i++) {
            text.append((char) x.outputByte(i));
        }
        return text.toString();
    }

    /** load() or play() with an error: NONE, the code and the offset, and the state as it was. */
    private static void rejected(boolean setup, String before, String text, int code, int offset) {
        ChessNotes x = loaded(before);
        String shown = shown(x, 0);
        int notes = x.noteCount();
        int promise = setup ? 4 : 5;
        due(promise, setup ? load(x, text) : play(x, text), NONE);
        due(6, x.errorCode(), code);
        due(7, x.errorOffset(), offset);
        due(promise, x.noteCount(), notes);
        due(promise, shown(x, 0), shown);
        due(promise, x.undoableChanges(), 1);
        due(promise, x.truncateInput(0), 0);
        fails(promise, ARGUMENT, () -> x.truncateInput(1));
    }

    private static void newObject() {
        ChessNotes x = new ChessNotes();
        due(1, x.columns() * 10 + x.rows(), 44);
        due(1, shown(x, 0), "bn.k\n....\n...R\nKRN.");
        ChessNotes y = new ChessNotes();
        due(1, y.outputByte(0), NONE);
        due(1, y.noteCount(), 0);
        due(1, y.errorCode(), 0);
        due(1, y.errorOffset(), NONE);
        due(1, y.undoableChanges(), 0);
        due(1, y.gameCount(), 1L);
        fails(1, ARGUMENT, () -> y.truncateInput(1));
        fails(1, STATE, () -> y.restore(0));
        fails(1, STATE, () -> y.restore(1));
        fails(1, STATE, y::undo);
        due(1, ChessNotes.NONE, -1);
        due(1, "" + KING + QUEEN + ROOK + BISHOP + KNIGHT + WHITE + BLACK, "0123401");
    }

    private static void append() {
        ChessNotes x = new ChessNotes();
        for (int i = 1; i <= 30; i++) {
            due(2, x.append(i, i, i, i, i), 20 * i);
        }
        due(2, x.append(1, 2, 3, 4, 5), NONE);
        due(2, x.truncateInput(600), 600);
        due(2, x.truncateInput(581), 581);
        due(2, x.append(1, 2, 3, 4, 5), NONE);
        due(2, x.truncateInput(580), 580);
        due(2, x.append(1, 2, 3, 4, 5), 600);
        // The order of the bytes: "note", " any", " tak", "es c", "heck" and a semicolon behind them.
        ChessNotes y = loaded("board 4 4;white king 0 0;white rook 0 3;black king 3 2;black rook 3 3;");
        y.append(0x6e6f7465, 0x20616e79, 0x2074616b, 0x65732063, 0x6865636b);
        y.append(0x3b202020, 0x20202020, 0x20202020, 0x20202020, 0x20202020);
        due(2, y.play(), 1);
        due(2, y.noteTakes(0), true);
        due(2, y.noteChecks(0), true);
        y.undo();
        y.append(0x6e6f7465, 0x20616e79, 0x2074616b, 0x65733b20, 0xff000000);
        y.truncateInput(16);
        due(2, y.play(), 1);
        due(2, y.noteTakes(0), true);
        y.append(0x20202020, 0x20202020, 0x20202020, 0x20202020, 0x202020ff);
        due(2, y.play(), NONE);
        due(2, y.errorOffset(), 19);
    }

    private static void truncateInput() {
        ChessNotes x = new ChessNotes();
        due(3, x.truncateInput(0), 0);
        x.append(0, 0, 0, 0, 0);
        due(3, x.truncateInput(20), 20);
        fails(3, ARGUMENT, () -> x.truncateInput(21));
        fails(3, ARGUMENT, () -> x.truncateInput(-1));
        fails(3, ARGUMENT, () -> x.truncateInput(Integer.MIN_VALUE));
        due(3, x.truncateInput(7), 7);
        fails(3, ARGUMENT, () -> x.truncateInput(8));
        due(3, x.append(0, 0, 0, 0, 0), 27);
        due(3, x.truncateInput(0), 0);
        fails(3, ARGUMENT, () -> x.truncateInput(1));
    }

    private static void load() {
        ChessNotes x = new ChessNotes();
        due(4, load(x, KINGS), 2);
        due(4, x.columns(), 3);
        due(4, x.rows(), 3);
        due(4, shown(x, 0), "..k\n...\nK..");
        due(4, x.undoableChanges(), 1);
        fails(4, ARGUMENT, () -> x.truncateInput(1));
        due(4, load(x, "  board03 0006;white king2 5;black knight0 0 ;black king 0 5;note any;note knight to 1 2;  "), 3);
        due(4, x.rows(), 6);
        due(4, x.noteCount(), 2);
        due(4, x.noteKind(1), KNIGHT);
        due(4, x.undoableChanges(), 2);
        due(4, load(x, TEN), 10);
        due(4, shown(x, 0), "rrrr.k\n......\n......\n......\n......\nKRRRR.");
        due(4, load(x, "board 4 5;black queen 3 4;white bishop 1 1;white king 0 0;black king 3 0;"), 4);
        due(4, shown(x, 0), "...q\n....\n....\n.B..\nK..k");
        due(4, x.undo(), 3);
        due(4, x.columns(), 6);
    }

    private static void wrongSetups() {
        String head = "board 4 4; ";
        String king = head + "white king 0 0; ";
        rejected(true, KINGS, "", 1, 0);
        rejected(true, KINGS, "   ", 1, 3);
        rejected(true, KINGS, "note any;", 1, 0);
        rejected(true, KINGS, "boards 4 4;", 1, 0);
        rejected(true, KINGS, "Board 4 4;", 1, 0);
        rejected(true, KINGS, "boardz 4 4;", 1, 0);
        rejected(true, KINGS, "aboard 4 4;", 1, 0);
        rejected(true, KINGS, "xoard 4 4;", 1, 0);
        rejected(true, KINGS, "boar 4 4;", 1, 0);
        rejected(true, KINGS, " ".repeat(600), 1, 600);
        rejected(true, KINGS, "a".repeat(600), 1, 0);
        rejected(true, KINGS, "board " + "9".repeat(594), 2, 6);
        rejected(true, KINGS, "board 4 " + "0".repeat(591) + "4", 1, 600);
        rejected(true, KINGS, "board", 1, 5);
        rejected(true, KINGS, "board 4  ", 1, 9);
        rejected(true, KINGS, "board 2 4;", 2, 6);
        rejected(true, KINGS, "board 7 4;", 2, 6);
        rejected(true, KINGS, "board 44;", 2, 6);
        rejected(true, KINGS, "board 4 2;", 2, 8);
        rejected(true, KINGS, "board 4 99999999999999999999999999;", 2, 8);
        rejected(true, KINGS, "board 4 4294967300;", 2, 8);
        rejected(true, KINGS, "board 4 4 4;", 1, 10);
        rejected(true, KINGS, "board 4 4;\n", 1, 10);
        rejected(true, KINGS, head, 1, 11);
        rejected(true, KINGS, head + "red king 0 0;", 1, 11);
        rejected(true, KINGS, head + "whiteking 0 0;", 1, 11);
        rejected(true, KINGS, head + "white any 0 0;", 1, 17);
        rejected(true, KINGS, head + "white king 4 0;", 2, 22);
        rejected(true, KINGS, head + "white king 0 4;", 2, 24);
        rejected(true, KINGS, head + "white king 0 ;", 1, 24);
        rejected(true, KINGS, head + "white king 0 0", 1, 25);
        rejected(true, KINGS, king, 1, 27);
        rejected(true, KINGS, king + "note any;", 1, 27);
        rejected(true, KINGS, king + "black rook 0 0;", 3, 40);
        rejected(true, KINGS, king + "black rook 0 0 0", 3, 40);
        rejected(true, KINGS, king + "black rook 0 4;", 2, 40);
        rejected(true, KINGS, king + "white king 1 1;", 4, 33);
        rejected(true, KINGS, king + "white rook 1 1;", 5, 42);
        rejected(true, KINGS, king + "white rook 1 1; note any;", 5, 43);
        rejected(true, KINGS, king + "white rook 1 1; drop;", 5, 43);
        rejected(true, KINGS, king + "white rook 1 1; origin;", 5, 43);
        rejected(true, KINGS, king + "white rook 1 1; takes;", 1, 43);
        rejected(true, KINGS, king + "white rook 1 1; ;", 1, 43);
        rejected(true, KINGS, head + "black rook 0 0; black king 1 1;", 5, 42);
        rejected(true, KINGS, TEN + "black rook 4 5;", 4, TEN.length());
        rejected(true, KINGS, TEN + "red rook 4 5;", 1, TEN.length());
        rejected(true, KINGS, KINGS + "note any; white rook 1 1;", 1, KINGS.length() + 10);
        rejected(true, KINGS, KINGS + "note rook;", 6, KINGS.length() + 9);
        rejected(true, KINGS, KINGS + "drop;", 6, KINGS.length() + 4);
    }

    private static void play() {
        ChessNotes x = new ChessNotes();
        due(5, play(x, ""), 0);
        due(5, x.undoableChanges(), 1);
        due(5, play(x, "note rook from 3;note any;origin 0 3 1;drop;note king to 2 2 ;"), 5);
        due(5, x.undoableChanges(), 2);
        due(5, x.noteCount(), 2);
        due(5, x.noteFromColumn(0), 3);
        due(5, x.noteFromRow(0), 1);
        due(5, x.noteToColumn(1), 2);
        due(5, x.noteToRow(1), 2);
        fails(5, ARGUMENT, () -> x.truncateInput(1));
        due(5, x.undo(), 1);
        due(5, x.noteCount(), 0);
        due(5, play(x, "note rook from 3 to 0 1 check;"), NONE);
        due(5, play(x, "note rook from 3 to 3 2;origin 0 3 1;drop;"), 3);
        due(5, play(x, "note rook to 3 3;"), NONE);
        due(5, x.errorCode(), 6);
        due(5, x.undo(), 1);
        due(5, play(x, "note rook from 1 to 1 3 takes;"), 1);
        due(5, x.noteTakes(0), true);
        due(5, x.noteChecks(0), false);
        due(5, play(x, "drop;note rook from 1 to 1 3 takes check;"), 2);
        due(5, x.noteChecks(0), true);
    }

    private static void wrongScripts() {
        rejected(false, KINGS, "note any; note any", 1, 18);
        rejected(false, KINGS, "note any; note any takes; note any;", 6, 24);
        rejected(false, KINGS, "note", 1, 4);
        rejected(false, KINGS, "note 1;", 1, 5);
        rejected(false, KINGS, "note pawn;", 1, 5);
        rejected(false, KINGS, "note any from;", 1, 13);
        rejected(false, KINGS, "note any from 3;", 2, 14);
        rejected(false, KINGS, "note any to 3 0;", 2, 12);
        rejected(false, KINGS, "note any to 1;", 1, 13);
        rejected(false, KINGS, "note any to 1 3;", 2, 14);
        rejected(false, KINGS, "note any to 1 1 from 0;", 1, 16);
        rejected(false, KINGS, "note any check takes;", 1, 15);
        rejected(false, KINGS, "note any any;", 1, 9);
        rejected(false, KINGS, "note any; ?", 1, 10);
        rejected(false, KINGS, ";", 1, 0);
        rejected(false, KINGS, "board 4 4;", 1, 0);
        rejected(false, KINGS, "drop;", 6, 4);
        rejected(false, KINGS, "drop drop;", 1, 5);
        rejected(false, KINGS, "origin 0 0 0;", 2, 7);
        rejected(false, KINGS, "note any; origin 1 0 0;", 2, 17);
        rejected(false, KINGS, "note any; origin 0 3 0;", 2, 19);
        rejected(false, KINGS, "note any; origin 0 0 3;", 2, 21);
        rejected(false, KINGS, "note any; origin 0 0;", 1, 20);
        rejected(false, KINGS, "note any; origin 0 1 1;", 6, 22);
        String three = "note any;note any;note any;";
        rejected(false, "board 3 3; white king 0 0; black king 0 2; white knight 2 2;"
                + "note king to 1 0;note king to 1 2;note king to 0 0;note king to 0 2;"
                + "note king to 1 0;note king to 1 2;note king to 0 0;note king to 0 2;"
                + "note king to 1 0;note king to 1 2;", three, 6, 8);
    }

    private static void errorReport() {
        ChessNotes x = new ChessNotes();
        due(6, x.errorCode(), 0);
        due(7, x.errorOffset(), NONE);
        due(4, load(x, "board 4 9;"), NONE);
        due(6, x.errorCode(), 2);
        due(7, x.errorOffset(), 8);
        note(x, KNIGHT, NONE, NONE, NONE);
        x.undo();
        x.save(0);
        x.restore(0);
        due(6, x.errorCode(), 2);
        due(7, x.errorOffset(), 8);
        due(5, play(x, " drop;"), NONE);
        due(6, x.errorCode(), 6);
        due(7, x.errorOffset(), 5);
        due(5, play(x, ""), 0);
        due(6, x.errorCode(), 0);
        due(7, x.errorOffset(), NONE);
    }

    private static void addNote() {
        ChessNotes x = new ChessNotes();
        fails(8, ARGUMENT, () -> note(x, -2, NONE, NONE, NONE));
        fails(8, ARGUMENT, () -> note(x, 5, NONE, NONE, NONE));
        fails(8, ARGUMENT, () -> note(x, NONE, -2, NONE, NONE));
        fails(8, ARGUMENT, () -> note(x, NONE, 4, NONE, NONE));
        fails(8, ARGUMENT, () -> note(x, NONE, NONE, -2, NONE));
        fails(8, ARGUMENT, () -> note(x, NONE, NONE, 4, NONE));
        fails(8, ARGUMENT, () -> note(x, NONE, NONE, NONE, -2));
        fails(8, ARGUMENT, () -> note(x, NONE, NONE, NONE, 4));
        fails(8, STATE, () -> note(x, QUEEN, NONE, NONE, NONE));
        due(8, x.undoableChanges(), 0);
        // In the order of origin and target: the rook to 1 1, 1 2 and 1 3, then the other one to 1 1.
        due(8, note(x, ROOK, NONE, 1, NONE), 4);
        due(8, shown(x, 0), "bn.k\n....\n.R.R\nK.N.");
        due(8, shown(x, 2), "bR.k\n....\n...R\nK.N.");
        due(8, shown(x, 3), "bn.k\n....\n.R..\nKRN.");
        due(8, x.noteFromRow(0), NONE);
        due(8, x.undoableChanges(), 1);
        due(8, note(x, KING, NONE, NONE, NONE), 6);
        due(8, x.noteCount(), 2);
        ChessNotes ten = loaded(KINGS);
        for (int i = 0; i < 10; i++) {
            int to = i % 4 < 2 ? 1 : i % 2 == 0 ? 0 : 2;
            due(8, ten.addNote(KING, NONE, to, i % 2 == 0 ? 0 : 2, false, false), 1);
        }
        fails(8, STATE, () -> note(ten, NONE, NONE, NONE, NONE));
        fails(8, ARGUMENT, () -> note(ten, 5, NONE, NONE, NONE));
        due(8, ten.noteCount(), 10);
    }

    private static void positionLimit() {
        // White has 3 + 9 + 19 + 9 moves, and 3 + 13 + 10 + 15 in the other setup.
        String kings = "board 6 6;white king 0 0;black king 5 5;";
        ChessNotes forty = loaded(kings + "white rook 0 2;white queen 2 3;white rook 1 5;");
        due(41, forty.gamesIfNoted(NONE, NONE, NONE, NONE, false, false), 40L);
        due(8, note(forty, NONE, NONE, NONE, NONE), 40);
        due(27, forty.kindAt(39, 1, 5), NONE);
        fails(27, INDEX, () -> forty.kindAt(40, 0, 0));
        ChessNotes more = loaded(kings + "white queen 5 0;white rook 1 3;white queen 2 2;");
        due(30, more.legalMoves(0), 41);
        due(41, more.gamesIfNoted(NONE, NONE, NONE, NONE, false, false), (long) NONE);
        fails(8, STATE, () -> note(more, NONE, NONE, NONE, NONE));
        rejected(false, kings + "white queen 5 0;white rook 1 3;white queen 2 2;", "note any;", 6, 8);
        ChessNotes y = loaded("board 6 6;white king 0 0;white queen 2 2;black king 5 4;black rook 4 5;");
        int first = y.addNote(QUEEN, NONE, NONE, NONE, false, false);
        due(8, first > 10 && first <= 40, true);
        String last = shown(y, first - 1);
        fails(8, STATE, () -> note(y, NONE, NONE, NONE, NONE));
        due(8, y.noteCount(), 1);
        due(8, y.positionsAfter(1), first);
        due(8, shown(y, first - 1), last);
        due(41, y.gamesIfNoted(NONE, NONE, NONE, NONE, false, false), (long) NONE);
        due(8, y.undoableChanges(), 2);
    }

    private static void clarify() {
        ChessNotes x = new ChessNotes();
        fails(9, INDEX, () -> x.clarify(0, 9, 9));
        note(x, ROOK, NONE, 1, NONE);
        note(x, KING, NONE, NONE, NONE);
        due(9, x.positionsAfter(2), 6);
        fails(9, INDEX, () -> x.clarify(2, 0, 0));
        fails(9, INDEX, () -> x.clarify(-1, 9, 9));
        fails(9, ARGUMENT, () -> x.clarify(0, 4, 0));
        fails(9, ARGUMENT, () -> x.clarify(0, -2, 0));
        fails(9, ARGUMENT, () -> x.clarify(0, 0, 4));
        fails(9, ARGUMENT, () -> x.clarify(0, 0, -2));
        fails(9, STATE, () -> x.clarify(0, 0, 0));
        due(9, x.noteFromColumn(0), NONE);
        due(9, x.positionsAfter(1), 4);
        due(9, x.positionsAfter(2), 6);
        due(9, x.undoableChanges(), 2);
        due(9, x.clarify(0, 3, 1), 2);
        due(9, x.positionsAfter(1), 1);
        due(9, x.noteFromColumn(0) * 10 + x.noteFromRow(0), 31);
        due(9, x.clarify(0, NONE, 0), 4);
        due(9, x.noteFromColumn(0), NONE);
        due(9, x.noteFromRow(0), 0);
        due(9, x.clarify(0, NONE, NONE), 6);
        due(9, x.undoableChanges(), 5);
        due(9, x.clarify(1, 3, 3), 6);
    }

    private static void clarifyTooMany() {
        // Six of the first rook's eight moves leave black's rook five squares of its column, and so do three of
        // the second rook's.
        ChessNotes x = loaded("board 6 6;white king 0 0;white rook 1 0;white rook 4 1;white rook 5 0;black king 3 5;black rook 2 5;");
        due(8, note(x, ROOK, 1, NONE, NONE), 8);
        due(8, note(x, ROOK, NONE, 2, NONE), 30);
        fails(9, STATE, () -> x.clarify(0, NONE, NONE));
        due(9, x.noteFromColumn(0), 1);
        due(9, x.positionsAfter(1), 8);
        due(9, x.positionsAfter(2), 30);
        due(9, x.doubt(0), 6);
        due(9, x.undoableChanges(), 3);
    }

    private static void dropNote() {
        ChessNotes x = new ChessNotes();
        fails(10, STATE, x::dropNote);
        note(x, ROOK, NONE, 1, NONE);
        note(x, KING, NONE, NONE, NONE);
        due(10, x.dropNote(), 1);
        due(10, x.gameCount(), 4L);
        due(10, x.undoableChanges(), 3);
        due(10, x.dropNote(), 0);
        due(10, shown(x, 0), "bn.k\n....\n...R\nKRN.");
        fails(10, STATE, x::dropNote);
        due(10, x.undoableChanges(), 4);
        due(10, x.undo(), 3);
        due(10, x.noteCount(), 1);
        due(10, x.noteKind(0), ROOK);
    }

    private static void undo() {
        ChessNotes x = new ChessNotes();
        fails(11, STATE, x::undo);
        for (int i = 0; i < 12; i++) {
            note(x, i % 2 == 0 ? ROOK : KING, NONE, NONE, NONE);
            x.dropNote();
        }
        due(11, x.undoableChanges(), 8);
        for (int left = 7; left >= 0; left--) {
            due(11, x.undo(), left);
            due(11, x.noteCount(), left % 2);
        }
        fails(11, STATE, x::undo);
        due(11, x.undoableChanges(), 0);
        load(x, KINGS);
        play(x, "note any;note any;");
        x.clarify(0, 0, 0);
        x.save(1);
        load(x, TEN);
        x.restore(1);
        due(11, x.undo(), 4);
        due(11, x.columns(), 6);
        due(11, x.undo(), 3);
        due(11, x.noteFromRow(0), 0);
        due(11, x.undo(), 2);
        due(11, x.noteFromRow(0), NONE);
        due(11, x.undo(), 1);
        due(11, x.noteCount(), 0);
        due(11, x.undo(), 0);
        due(11, x.columns(), 4);
        due(11, x.gameCount(), 1L);
        // An undone change cannot be redone, and what comes next takes its place.
        note(x, ROOK, 1, NONE, NONE);
        due(11, x.undoableChanges(), 1);
        due(11, x.undo(), 0);
        due(11, x.noteCount(), 0);
    }

    private static void undoLeavesTheRest() {
        ChessNotes x = new ChessNotes();
        note(x, KNIGHT, NONE, NONE, NONE);
        x.save(0);
        play(x, "drop;drop;");
        shown(x, 0);
        int first = x.outputByte(0);
        type(x, "drop;");
        x.undo();
        due(11, x.errorCode(), 6);
        due(11, x.outputByte(0), first);
        due(11, x.truncateInput(5), 5);
        due(11, x.restore(0), 1);
        due(13, x.outputByte(0), first);
        due(13, x.errorCode(), 6);
        due(13, x.play(), 1);
    }

    private static void saveAndRestore() {
        ChessNotes x = new ChessNotes();
        fails(12, ARGUMENT, () -> x.save(-1));
        fails(12, ARGUMENT, () -> x.save(2));
        fails(13, ARGUMENT, () -> x.restore(-1));
        fails(13, ARGUMENT, () -> x.restore(2));
        fails(13, STATE, () -> x.restore(0));
        due(12, x.save(0), 0);
        fails(13, STATE, () -> x.restore(1));
        due(12, x.undoableChanges(), 0);
        note(x, ROOK, NONE, 1, NONE);
        due(12, x.save(1), 1);
        note(x, KING, NONE, NONE, NONE);
        due(13, x.restore(0), 0);
        due(13, x.noteCount(), 0);
        due(13, x.undoableChanges(), 3);
        due(13, x.restore(1), 1);
        due(13, x.gameCount(), 4L);
        due(13, x.noteKind(0), ROOK);
        note(x, KING, NONE, NONE, NONE);
        due(13, x.restore(1), 1);
        due(13, x.doubt(0), 4);
        due(12, load(x, KINGS), 2);
        due(12, x.save(0), 0);
        due(13, x.restore(1), 1);
        due(13, x.columns(), 4);
        due(13, x.restore(0), 0);
        due(13, x.columns(), 3);
        due(13, x.undoableChanges(), 8);
        due(13, x.undo(), 7);
        due(13, x.columns(), 4);
    }

    private static void boardAndNotes() {
        ChessNotes x = loaded("board 5 6;white king 0 0;white rook 4 0;black king 4 5;black knight 0 5;");
        due(14, x.columns(), 5);
        due(15, x.rows(), 6);
        due(16, x.noteCount(), 0);
        due(17, x.colourToMove(), WHITE);
        due(18, x.undoableChanges(), 1);
        x.addNote(ROOK, 4, 3, 0, false, false);
        due(16, x.noteCount(), 1);
        due(17, x.colourToMove(), BLACK);
        x.addNote(NONE, NONE, NONE, 3, false, false);
        due(17, x.colourToMove(), WHITE);
        x.addNote(NONE, NONE, NONE, NONE, false, true);
        x.clarify(1, 0, 5);
        due(18, x.undoableChanges(), 5);
        due(16, x.noteCount(), 3);
        due(19, x.noteKind(0), ROOK);
        due(19, x.noteKind(1), NONE);
        due(20, x.noteFromColumn(0), 4);
        due(20, x.noteFromColumn(1), 0);
        due(20, x.noteFromColumn(2), NONE);
        due(21, x.noteFromRow(0), NONE);
        due(21, x.noteFromRow(1), 5);
        due(22, x.noteToColumn(0), 3);
        due(22, x.noteToColumn(1), NONE);
        due(23, x.noteToRow(0), 0);
        due(23, x.noteToRow(1), 3);
        due(23, x.noteToRow(2), NONE);
        due(24, x.noteTakes(2), false);
        due(25, x.noteChecks(2), true);
        due(25, x.noteChecks(0), false);
        ChessNotes y = new ChessNotes();
        y.addNote(NONE, NONE, NONE, NONE, true, false);
        due(24, y.noteTakes(0), true);
        due(25, y.noteChecks(0), false);
        for (int wrongNumber : new int[] {Integer.MIN_VALUE, -1, 3, 10, Integer.MAX_VALUE}) {
            fails(19, INDEX, () -> x.noteKind(wrongNumber));
            fails(20, INDEX, () -> x.noteFromColumn(wrongNumber));
            fails(21, INDEX, () -> x.noteFromRow(wrongNumber));
            fails(22, INDEX, () -> x.noteToColumn(wrongNumber));
            fails(23, INDEX, () -> x.noteToRow(wrongNumber));
            fails(24, INDEX, () -> x.noteTakes(wrongNumber));
            fails(25, INDEX, () -> x.noteChecks(wrongNumber));
        }
    }

    private static void positionsAfter() {
        ChessNotes x = new ChessNotes();
        due(26, x.positionsAfter(0), 1);
        fails(26, ARGUMENT, () -> x.positionsAfter(1));
        note(x, ROOK, NONE, 1, NONE);
        note(x, KING, NONE, NONE, NONE);
        due(26, x.positionsAfter(0), 1);
        due(26, x.positionsAfter(1), 4);
        due(26, x.positionsAfter(2), 6);
        fails(26, ARGUMENT, () -> x.positionsAfter(3));
        fails(26, ARGUMENT, () -> x.positionsAfter(-1));
        x.dropNote();
        fails(26, ARGUMENT, () -> x.positionsAfter(2));
        // Dead ends count after the note that leads to them: only one of the rook's moves lets black take.
        ChessNotes y = loaded("board 4 4;white king 0 0;white rook 1 1;black king 3 3;black knight 3 2;");
        int open = note(y, ROOK, NONE, NONE, NONE);
        due(26, y.addNote(KNIGHT, NONE, NONE, NONE, true, false) < open, true);
        due(26, y.positionsAfter(1), open);
        due(35, y.doubt(0) < open, true);
    }

    private static void squares() {
        ChessNotes x = new ChessNotes();
        due(27, x.kindAt(0, 0, 0), KING);
        due(27, x.kindAt(0, 2, 0), KNIGHT);
        due(27, x.kindAt(0, 0, 3), BISHOP);
        due(27, x.kindAt(0, 1, 2), NONE);
        due(28, x.colourAt(0, 2, 0), WHITE);
        due(28, x.colourAt(0, 0, 3), BLACK);
        due(28, x.colourAt(0, 1, 2), NONE);
        load(x, "board 3 5;white queen 1 4;black rook 2 3;white king 0 0;black king 2 0;");
        due(27, x.kindAt(0, 1, 4), QUEEN);
        due(27, x.kindAt(0, 2, 3), ROOK);
        due(28, x.colourAt(0, 2, 3), BLACK);
        for (int wrongNumber : WRONG_NUMBERS) {
            fails(27, INDEX, () -> x.kindAt(wrongNumber, 0, 0));
            fails(27, INDEX, () -> x.kindAt(0, wrongNumber, 0));
            fails(27, INDEX, () -> x.kindAt(0, 0, wrongNumber));
            fails(28, INDEX, () -> x.colourAt(wrongNumber, 0, 0));
            fails(28, INDEX, () -> x.colourAt(0, wrongNumber, 0));
            fails(28, INDEX, () -> x.colourAt(0, 0, wrongNumber));
            fails(29, INDEX, () -> x.isAttacked(wrongNumber, 0, 0, 7));
            fails(29, INDEX, () -> x.isAttacked(0, wrongNumber, 0, 7));
            fails(29, INDEX, () -> x.isAttacked(0, 0, wrongNumber, 7));
            fails(29, ARGUMENT, () -> x.isAttacked(0, 0, 0, wrongNumber));
            fails(30, INDEX, () -> x.legalMoves(wrongNumber));
            fails(31, INDEX, () -> x.gamesTo(wrongNumber));
            fails(45, INDEX, () -> x.writePosition(wrongNumber));
        }
        fails(27, INDEX, () -> x.kindAt(0, 3, 0));
        fails(27, INDEX, () -> x.kindAt(0, 0, 5));
        fails(28, INDEX, () -> x.colourAt(1, 0, 0));
        fails(29, ARGUMENT, () -> x.isAttacked(0, 0, 0, 2));
        due(27, x.kindAt(0, 2, 4), NONE);
    }

    private static String attacked(ChessNotes x, int colour) {
        StringBuilder found = new StringBuilder();
        for (int row = x.rows() - 1; row >= 0; row--) {
            for (int column = 0; column < x.columns(); column++) {
                found.append(x.isAttacked(0, column, row, colour) ? '#' : '.');
            }
            found.append(row > 0 ? "/" : "");
        }
        return found.toString();
    }

    private static void attacks() {
        String far = "board 6 6;white king 0 0;black king 5 5;";
        due(29, attacked(loaded(far), WHITE), "....../....../....../....../##..../.#....");
        due(29, attacked(loaded(far), BLACK), "....#./....##/....../....../....../......");
        due(29, attacked(loaded(far + "white knight 2 3;"), WHITE), ".#.#../#...#./....../#...#./##.#../.#....");
        due(29, attacked(loaded(far + "white rook 2 3;"), WHITE), "..#.../..#.../##.###/..#.../###.../.##...");
        due(29, attacked(loaded(far + "white bishop 2 3;"), WHITE), "#...#./.#.#../....../.#.#../##..#./.#...#");
        due(29, attacked(loaded(far + "white queen 2 3;"), WHITE), "#.#.#./.###../##.###/.###../###.#./.##..#");
        // A slide ends at the first piece of either colour, and that square is still part of the range.
        due(29, attacked(loaded(far + "black rook 0 5;white rook 2 5;"), WHITE), "##.###/..#.../..#.../..#.../###.../.##...");
        due(29, attacked(loaded(far + "white rook 1 0;"), WHITE), ".#..../.#..../.#..../.#..../##..../######");
    }

    private static void legalMoves() {
        due(30, new ChessNotes().legalMoves(0), 12);
        // The rook is pinned between its king and the other rook; the kings keep their distance.
        due(30, loaded("board 5 5;white king 0 0;white rook 0 1;black rook 0 4;black king 4 4;").legalMoves(0), 5);
        // In check by the queen, which may not be taken: it is covered.
        due(30, loaded("board 4 4;white king 0 0;black queen 1 1;black king 2 2;").legalMoves(0), 0);
        due(30, loaded("board 4 4;white king 0 0;black queen 1 1;black king 3 3;").legalMoves(0), 1);
        // No king is ever taken, although black's stands in check while white moves.
        due(30, loaded("board 4 4;white king 0 0;white rook 3 0;black king 3 3;").legalMoves(0), 3 + 2 + 2);
        ChessNotes x = loaded(KINGS);
        due(30, x.legalMoves(0), 2);
        note(x, KING, NONE, 1, 0);
        due(30, x.legalMoves(0), 1);
        fails(30, INDEX, () -> x.legalMoves(1));
        fails(31, INDEX, () -> x.gamesTo(1));
    }

    /** Three notes of which the last leads many games to the same position again. */
    private static ChessNotes meeting() {
        ChessNotes x = loaded("board 3 6;white king 0 0;white rook 2 2;black king 0 5;");
        note(x, ROOK, NONE, 2, NONE);
        x.addNote(KING, NONE, 0, 4, false, false);
        note(x, ROOK, NONE, 2, NONE);
        return x;
    }

    private static void games() {
        ChessNotes x = meeting();
        // The rook goes to one of five rows; from row 4 it bars the king's way; then it goes on in its column.
        due(26, x.positionsAfter(1), 5);
        due(26, x.positionsAfter(2), 4);
        due(33, x.gameCount(), 20L);
        due(26, x.positionsAfter(3), 6);
        long sum = 0;
        for (int i = 0; i < x.positionsAfter(3); i++) {
            sum += x.gamesTo(i);
        }
        due(31, sum, 20L);
        // The rook came to row 1 from 0, 3 and 5, or to row 2 from all four.
        due(31, x.gamesTo(0), 3L);
        due(31, shown(x, 0), "...\nk..\n...\n...\n..R\nK..");
        due(31, shown(x, 1), "...\nk..\n...\n..R\n...\nK..");
        due(31, x.gamesTo(1), 4L);
        due(34, x.isCertain(), false);
        due(32, x.certainSquares(), 12);
        due(44, x.certainShare(), 12f / 18f);
        due(43, x.meanGames(), 20.0 / 6.0);
        due(39, x.gamesWithPiece(2, 2, WHITE, ROOK), 4L);
        due(39, x.gamesWithPiece(2, 1, WHITE, ROOK), 3L);
        due(39, x.gamesWithPiece(2, 2, BLACK, ROOK), 0L);
        due(39, x.gamesWithPiece(2, 2, WHITE, QUEEN), 0L);
        due(39, x.gamesWithPiece(0, 4, BLACK, KING), 20L);
        due(39, new ChessNotes().gamesWithPiece(2, 0, WHITE, KNIGHT), 1L);
        due(42, x.inconsistencies(), 0);
        due(35, x.doubt(0), 4);
        due(35, x.doubt(1), 1);
        due(35, x.doubt(2), 20);
        due(40, x.mostDoubtfulNote(), 2);
        due(36, x.moveOrigin(0, 0), 8);
        due(37, x.moveTarget(0, 0), 2);
        due(37, x.moveTarget(0, 3), 17);
        due(38, x.gamesWithMove(0, 0), 5L);
        due(38, x.gamesWithMove(1, 0), 20L);
        due(36, x.moveOrigin(1, 0), 15);
        due(37, x.moveTarget(1, 0), 12);
        due(36, x.moveOrigin(2, 0), 2);
        due(37, x.moveTarget(2, 0), 5);
        due(36, x.moveOrigin(2, 19), 17);
        due(37, x.moveTarget(2, 19), 14);
        due(38, x.gamesWithMove(2, 19), 1L);
        x.dropNote();
        due(41, x.gamesIfNoted(ROOK, NONE, 2, 1, false, false), 3L);
    }

    private static void gamesByWrongNumbers() {
        ChessNotes x = meeting();
        for (int wrongNumber : WRONG_NUMBERS) {
            fails(35, INDEX, () -> x.doubt(wrongNumber));
            fails(36, INDEX, () -> x.moveOrigin(wrongNumber, 0));
            fails(36, INDEX, () -> x.moveOrigin(0, wrongNumber));
            fails(37, INDEX, () -> x.moveTarget(wrongNumber, 0));
            fails(37, INDEX, () -> x.moveTarget(0, wrongNumber));
            fails(38, INDEX, () -> x.gamesWithMove(wrongNumber, 0));
            fails(38, INDEX, () -> x.gamesWithMove(0, wrongNumber));
            fails(39, INDEX, () -> x.gamesWithPiece(wrongNumber, 0, 9, 9));
            fails(39, INDEX, () -> x.gamesWithPiece(0, wrongNumber, 9, 9));
            fails(39, ARGUMENT, () -> x.gamesWithPiece(0, 0, wrongNumber, 0));
            fails(39, ARGUMENT, () -> x.gamesWithPiece(0, 0, 0, wrongNumber));
        }
        fails(35, INDEX, () -> x.doubt(3));
        fails(36, INDEX, () -> x.moveOrigin(0, 4));
        fails(37, INDEX, () -> x.moveTarget(1, 1));
        fails(38, INDEX, () -> x.gamesWithMove(2, 20));
        fails(39, INDEX, () -> x.gamesWithPiece(3, 0, 0, 0));
        fails(39, INDEX, () -> x.gamesWithPiece(0, 6, 0, 0));
        fails(39, ARGUMENT, () -> x.gamesWithPiece(0, 0, 2, 0));
        fails(39, ARGUMENT, () -> x.gamesWithPiece(0, 0, 0, 5));
    }

    private static void certainty() {
        ChessNotes x = new ChessNotes();
        due(32, x.certainSquares(), 16);
        due(33, x.gameCount(), 1L);
        due(34, x.isCertain(), true);
        due(40, x.mostDoubtfulNote(), NONE);
        due(43, x.meanGames(), 1.0);
        due(44, x.certainShare(), 1.0f);
        // Black's king is attacked, but no colour has moved yet.
        due(42, x.inconsistencies(), 0);
        note(x, ROOK, NONE, 1, NONE);
        due(32, x.certainSquares(), 11);
        due(34, x.isCertain(), false);
        due(44, x.certainShare(), 11f / 16f);
        due(40, x.mostDoubtfulNote(), 0);
        x.clarify(0, 3, NONE);
        due(34, x.isCertain(), true);
        due(40, x.mostDoubtfulNote(), NONE);
        // Equal doubt of two notes: the lower number wins.
        ChessNotes y = loaded("board 3 3;white king 0 0;black king 2 2;");
        note(y, NONE, NONE, NONE, NONE);
        note(y, NONE, NONE, NONE, NONE);
        due(35, y.doubt(0), 2);
        due(35, y.doubt(1), 2);
        due(40, y.mostDoubtfulNote(), 0);
        due(42, y.inconsistencies(), 0);
    }

    /** A queen that may go anywhere twice: many moves between few positions. */
    private static void manyMoves() {
        ChessNotes x = loaded("board 6 6;white king 0 0;white queen 2 1;black king 5 5;note queen;note king;drop;drop;");
        due(8, note(x, QUEEN, NONE, NONE, NONE) > 10, true);
        for (int i = 0; i < 3; i++) {
            due(8, x.addNote(KING, NONE, i % 2 == 0 ? 4 : 5, 5, false, false) > 5, true);
            long games = x.gamesIfNoted(QUEEN, NONE, NONE, NONE, false, false);
            due(8, note(x, QUEEN, NONE, NONE, NONE) > 25, true);
            due(33, x.gameCount(), games);
            due(42, x.inconsistencies(), 0);
        }
        due(33, x.gameCount() > 10000, true);
    }

    private static void gamesIfNoted() {
        ChessNotes x = new ChessNotes();
        due(41, x.gamesIfNoted(NONE, NONE, NONE, NONE, false, false), 12L);
        due(41, x.gamesIfNoted(ROOK, NONE, 1, NONE, false, false), 4L);
        due(41, x.gamesIfNoted(ROOK, 3, 1, NONE, false, false), 1L);
        due(41, x.gamesIfNoted(NONE, NONE, NONE, NONE, true, false), 1L);
        due(41, x.gamesIfNoted(NONE, NONE, NONE, NONE, false, true), 8L);
        due(41, x.gamesIfNoted(NONE, NONE, NONE, NONE, true, true), 1L);
        due(41, x.gamesIfNoted(QUEEN, NONE, NONE, NONE, false, false), 0L);
        due(41, x.noteCount(), 0);
        due(41, x.undoableChanges(), 0);
        due(41, shown(x, 0), "bn.k\n....\n...R\nKRN.");
        fails(41, ARGUMENT, () -> x.gamesIfNoted(5, NONE, NONE, NONE, false, false));
        fails(41, ARGUMENT, () -> x.gamesIfNoted(-2, NONE, NONE, NONE, false, false));
        fails(41, ARGUMENT, () -> x.gamesIfNoted(NONE, 4, NONE, NONE, false, false));
        fails(41, ARGUMENT, () -> x.gamesIfNoted(NONE, NONE, -2, NONE, false, false));
        fails(41, ARGUMENT, () -> x.gamesIfNoted(NONE, NONE, NONE, 4, false, false));
        note(x, ROOK, NONE, 1, NONE);
        due(41, x.gamesIfNoted(KING, NONE, NONE, NONE, false, false), 6L);
        ChessNotes ten = loaded("board 3 3; white king 0 0; black king 0 2; white knight 2 2;"
                + "note king to 1 0;note king to 1 2;note king to 0 0;note king to 0 2;"
                + "note king to 1 0;note king to 1 2;note king to 0 0;note king to 0 2;"
                + "note king to 1 0;note king to 1 2;");
        due(41, ten.gamesIfNoted(KING, NONE, NONE, NONE, false, false), (long) NONE);
        due(41, ten.gamesIfNoted(QUEEN, NONE, NONE, NONE, false, false), (long) NONE);
        fails(41, ARGUMENT, () -> ten.gamesIfNoted(9, NONE, NONE, NONE, false, false));
        due(42, ten.inconsistencies(), 0);
    }

    private static void output() {
        ChessNotes x = loaded("board 3 4;white king 0 0;white queen 1 0;white rook 2 0;white bishop 0 1;white knight 1 1;"
                + "black king 2 3;black queen 1 3;black rook 0 3;black bishop 2 2;black knight 1 2;");
        due(45, x.writePosition(0), 15);
        due(45, shown(x, 0), "rqk\n.nb\nBN.\nKQR");
        due(46, x.outputByte(14), 82);
        due(46, x.outputByte(3), 10);
        due(46, x.outputByte(15), NONE);
        due(46, x.outputByte(-1), NONE);
        due(46, x.outputByte(Integer.MIN_VALUE), NONE);
        due(46, x.outputByte(Integer.MAX_VALUE), NONE);
        load(x, TEN);
        due(46, x.outputByte(14), 82);
        due(45, x.writePosition(0), 41);
        due(46, x.outputByte(40), 46);
        due(46, x.outputByte(41), NONE);
        load(x, KINGS);
        fails(45, INDEX, () -> x.writePosition(1));
        due(46, x.outputByte(40), 46);
        due(45, x.writePosition(0), 11);
        due(46, x.outputByte(11), NONE);
    }

    public static void main(String[] args) {
        newObject();
        append();
        truncateInput();
        load();
        wrongSetups();
        play();
        wrongScripts();
        errorReport();
        addNote();
        positionLimit();
        clarify();
        clarifyTooMany();
        dropNote();
        undo();
        undoLeavesTheRest();
        saveAndRestore();
        boardAndNotes();
        positionsAfter();
        squares();
        attacks();
        legalMoves();
        games();
        gamesByWrongNumbers();
        certainty();
        manyMoves();
        gamesIfNoted();
        output();
        System.out.println(count + " answers, " + wrong + " of them not as due");
        if (wrong != 0) {
            System.exit(1);
        }
    }
}
