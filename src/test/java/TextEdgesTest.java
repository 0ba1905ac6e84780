/** The boundary cases of "Terms" 4 and of promises 2 to 7: the input buffer, setups, scripts and their errors. */
public final class TextEdgesTest extends Checks {
    private static final int SPACES = 0x20202020;
    private static final String[] COLOURS = {"white", "black"};

    // The tokens of a setup and of a script, with all that the grammar has; a star stands before a token that
    // another one might take the place of, a plus behind one with which the text may end.
    private static final String SETUP = "board 4 5 ; white king 0 0 ; black king 3 4 ;+ *white rook 2 2 ;+"
            + " *note rook *from 2 *to 2 4 *check ;+ *drop ;+ *note any ;+ *origin 0 2 2 ;+ *note king *takes ;+";
    private static final String SETUP_PIECES = " *white queen 2 1 ;+ *black knight 3 0 ;+ *black bishop 0 4 ;+";
    private static final String SCRIPT = "*note rook *from 3 *to 3 2 *check ;+ *origin 0 3 1 ;+ *note any ;+ *drop ;+"
            + " *drop ;+ *note rook *takes *check ;+";

    private static void wrongIn(boolean setup, String text, int code, int offset) {
        ChessNotes x = new ChessNotes();
        due(setup ? load(x, text) : play(x, text), NONE);
        due(text + ": " + errors(x), text + ": " + code + " at " + offset);
        due(x.noteCount() + x.undoableChanges(), 0);
        fails(ARGUMENT, () -> x.truncateInput(1));
    }

    private static void wrongSetup(String text, int code, int offset) {
        wrongIn(true, text, code, offset);
    }

    private static void wrongScript(String text, int code, int offset) {
        wrongIn(false, text, code, offset);
    }

    private static void rightSetup(String text, int pieces) {
        ChessNotes x = new ChessNotes();
        due(load(x, text), pieces);
        due(text + ": " + errors(x), text + ": 0 at -1");
    }

    private static void rightScript(String text, int commands) {
        ChessNotes x = new ChessNotes();
        due(play(x, text), commands);
        due(text + ": " + errors(x), text + ": 0 at -1");
    }

    private static void buffer() {
        sentence("Terms 4: the input buffer holds at most 600 bytes");
        ChessNotes x = new ChessNotes();
        for (int length = 20; length <= 600; length += 20) {
            due(x.append(SPACES, SPACES, SPACES, SPACES, SPACES), length);
        }
        due(x.append(0, 0, 0, 0, 0), NONE);
        due(x.append(0, 0, 0, 0, 0), NONE);

        sentence("Promise 2: NONE, with no change, if it would exceed 600");
        due(x.truncateInput(600), 600);
        due(x.play(), 0);
        fails(ARGUMENT, () -> x.truncateInput(1));
        for (int over = 1; over <= 20; over += 19) {
            ChessNotes full = new ChessNotes();
            type(full, " ".repeat(580 + over));
            due(full.append(0x21212121, 0x21212121, 0x21212121, 0x21212121, 0x21212121), NONE);
            int length = 580 + over;
            fails(ARGUMENT, () -> full.truncateInput(length + 1));
            due(full.truncateInput(length), length);
            due(full.play(), 0);
        }
        ChessNotes filled = new ChessNotes();
        type(filled, " ".repeat(580));
        due(filled.append(SPACES, SPACES, SPACES, SPACES, 0x20202021), 600);
        due(filled.play(), NONE);
        due(errors(filled), "1 at 599");

        sentence("Promise 2: the four bytes of each parameter, the most significant byte first");
        for (int index = 0; index < 20; index++) {
            int[] words = {SPACES, SPACES, SPACES, SPACES, SPACES};
            words[index / 4] = SPACES & ~(255 << 24 - index % 4 * 8) | 0x80 << 24 - index % 4 * 8;
            ChessNotes y = new ChessNotes();
            due(y.append(SPACES, SPACES, SPACES, SPACES, SPACES), 20);
            due(y.append(words[0], words[1], words[2], words[3], words[4]), 40);
            due(y.play(), NONE);
            due(errors(y), "1 at " + (20 + index));
        }
        ChessNotes order = new ChessNotes();
        // "note king  to 1 1 ;" and a space.
        order.append(0x6e6f7465, 0x206b696e, 0x67202074, 0x6f203120, 0x31203b20);
        due(order.play(), 1);
        due(order.noteToColumn(0), 1);

        sentence("Promise 3: the new length, 0 to the current length");
        ChessNotes t = new ChessNotes();
        due(t.truncateInput(0), 0);
        fails(ARGUMENT, () -> t.truncateInput(1));
        fails(ARGUMENT, () -> t.truncateInput(-1));
        t.append(SPACES, SPACES, SPACES, SPACES, SPACES);
        due(t.truncateInput(20), 20);
        fails(ARGUMENT, () -> t.truncateInput(21));
        fails(ARGUMENT, () -> t.truncateInput(-1));
        fails(ARGUMENT, () -> t.truncateInput(Integer.MIN_VALUE));
        fails(ARGUMENT, () -> t.truncateInput(Integer.MAX_VALUE));
        due(t.truncateInput(1), 1);
        fails(ARGUMENT, () -> t.truncateInput(2));
        due(t.append(SPACES, SPACES, SPACES, SPACES, SPACES), 21);
        due(t.truncateInput(0), 0);
        due(t.append(SPACES, SPACES, SPACES, SPACES, SPACES), 20);
        for (int i = 0; i < 29; i++) {
            t.append(SPACES, SPACES, SPACES, SPACES, SPACES);
        }
        fails(ARGUMENT, () -> t.truncateInput(601));
        due(t.truncateInput(600), 600);
        due(t.truncateInput(599), 599);
        fails(ARGUMENT, () -> t.truncateInput(600));
        // What is cut off does not come back.
        ChessNotes cut = new ChessNotes();
        type(cut, "note any; ! ");
        cut.truncateInput(9);
        cut.append(SPACES, SPACES, SPACES, SPACES, SPACES);
        due(cut.play(), 1);
    }

    private static void fullTexts() {
        sentence("Terms 4: a text of all 600 bytes is parsed to its last byte");
        String kings = "board 3 3;white king 0 0;black king 2 2";
        String padded = kings + " ".repeat(599 - kings.length());
        rightSetup(padded + ";", 2);
        wrongSetup(padded + "!", 1, 599);
        wrongSetup(padded + " ", 1, 600);
        wrongSetup(padded + "5", 1, 599);
        wrongSetup(" ".repeat(600), 1, 600);
        wrongSetup("z".repeat(600), 1, 0);
        wrongSetup("board " + "0".repeat(593) + "3", 1, 600);
        wrongSetup("board 3 " + "0".repeat(591) + "2", 2, 8);
        wrongSetup("board 3 " + "0".repeat(591) + "3", 1, 600);
        rightSetup("board 3 " + "0".repeat(560) + "3;white king0 0;black king2 2;", 2);
        rightScript(" ".repeat(600), 0);
        wrongScript(" ".repeat(599) + ";", 1, 599);
        // As many commands as a text can hold; there is nothing to drop at the very end.
        String some = "note any;drop;";
        rightScript(some.repeat(42), 84);
        wrongScript(some.repeat(42) + "   drop;", 6, 42 * 14 + 7);

        sentence("Terms 4: an empty text is a script of no command, but no setup");
        rightScript("", 0);
        wrongSetup("", 1, 0);

        sentence("Terms 4: load() parses the buffer as a setup, play() as a script");
        wrongSetup("note any;", 1, 0);
        wrongScript(KINGS, 1, 0);
    }

    /** The text, or a token, without its marks. */
    private static String plain(String marked) {
        return marked.replace("*", "").replace("+", "");
    }

    private static boolean isNumber(String token) {
        return token.charAt(0) >= '0' && token.charAt(0) <= '9';
    }

    private static void prefixes(boolean setup, String marked) {
        String text = plain(marked);
        String[] tokens = marked.split(" ");
        int start = 0;
        boolean mayEnd = !setup;
        for (String token : tokens) {
            int end = start + plain(token).length();
            // Up to here, with one space behind the token before, and then the token's own first letters.
            if (mayEnd) {
                rightIn(setup, text.substring(0, start));
            } else {
                wrongIn(setup, text.substring(0, start), 1, start);
                wrongIn(setup, text.substring(0, start) + "   ", 1, start + 3);
            }
            for (int cut = start + 1; cut < end; cut++) {
                wrongIn(setup, text.substring(0, cut), 1, start);
            }
            mayEnd = token.endsWith("+");
            if (mayEnd) {
                rightIn(setup, text.substring(0, end));
            } else {
                wrongIn(setup, text.substring(0, end), 1, end);
            }
            start = end + 1;
        }
    }

    private static void rightIn(boolean setup, String text) {
        ChessNotes x = new ChessNotes();
        due(text + (setup ? load(x, text) : play(x, text)) + " " + errors(x), text + expected(setup, text) + " 0 at -1");
    }

    /** How many pieces or commands there are, by their words. */
    private static int expected(boolean setup, String text) {
        int count = 0;
        for (String token : text.split(" ")) {
            boolean first = setup ? token.equals("white") || token.equals("black")
                    : token.equals("note") || token.equals("origin") || token.equals("drop");
            count += first ? 1 : 0;
        }
        return count;
    }

    private static void otherTokens(boolean setup, String marked) {
        String[] tokens = marked.split(" ");
        String text = plain(marked);
        int start = 0;
        for (String token : tokens) {
            String own = plain(token);
            String before = text.substring(0, start);
            String after = text.substring(start + own.length());
            boolean mayBeLeftOut = token.startsWith("*");
            for (String other : new String[] {"zzz", "pawn", "!", "A", "\0", "king", ";", "7"}) {
                boolean allowed = isNumber(own) ? isNumber(other)
                        : own.equals(other) || other.equals(";") && mayBeLeftOut || other.equals("king") && isKind(own);
                if (!allowed) {
                    wrongIn(setup, before + other + after, 1, start);
                    // Nor may it stand before the token.
                    wrongIn(setup, before + other + " " + own + after, 1, start);
                }
            }
            start += own.length() + 1;
        }
        for (String other : new String[] {"zzz", "!", ";", "7", "board", "king"}) {
            wrongIn(setup, text + other, 1, text.length());
        }
    }

    private static boolean isKind(String word) {
        return word.equals("king") || word.equals("queen") || word.equals("rook") || word.equals("bishop")
                || word.equals("knight") || word.equals("any");
    }

    private static void grammar() {
        sentence("Terms 4: the error offset is the length of the text if the text ends too early");
        prefixes(true, SETUP);
        prefixes(true, SETUP.substring(0, SETUP.indexOf(" *note")) + SETUP_PIECES);
        prefixes(false, SCRIPT);
        wrongSetup("  ", 1, 2);
        wrongSetup("board", 1, 5);
        wrongSetup("board 4  ", 1, 9);

        sentence("Terms 4: code 1, the token is not allowed there; the offset is the index of its first byte");
        otherTokens(true, SETUP);
        otherTokens(true, SETUP.substring(0, SETUP.indexOf(" *note")) + SETUP_PIECES);
        otherTokens(false, SCRIPT);

        sentence("Terms 4: a setup has two pieces at least");
        wrongSetup("board 4 4;", 1, 10);
        wrongSetup("board 4 4;note any;", 1, 10);
        wrongSetup("board 4 4;drop;", 1, 10);
        wrongSetup("board 4 4;white king 0 0;drop;", 1, 25);

        sentence("Terms 4: pieces stand before the commands");
        wrongSetup(KINGS + "note any;white rook 1 1;", 1, KINGS.length() + 9);
        wrongSetup(KINGS + "white rook 1 2;note any;black rook 1 1;", 1, KINGS.length() + 24);

        sentence("Terms 4: each part of a note is optional, and they stand in their order");
        rightScript("note any from 3 to 3 2 check;", 1);
        rightScript("note any from 3 to 3 2;", 1);
        rightScript("note any from 3 check;", 1);
        rightScript("note any to 3 2 check;", 1);
        rightScript("note any from 1 to 1 3 takes check;", 1);
        rightScript("note any takes;", 1);
        rightScript("note any check;", 1);
        rightScript("note any;", 1);
        wrongScript("note from 3;", 1, 5);
        wrongScript("note any to 3 2 from 3;", 1, 16);
        wrongScript("note any takes to 1 3;", 1, 15);
        wrongScript("note any takes from 1;", 1, 15);
        wrongScript("note any check takes;", 1, 15);
        wrongScript("note any check check;", 1, 15);
        wrongScript("note any takes takes;", 1, 15);
        wrongScript("note any from 3 from 3;", 1, 16);
        wrongScript("note any from 3 1;", 1, 16);
        wrongScript("note any to 3;", 1, 13);
        wrongScript("note any rook;", 1, 9);
        wrongScript("note any; origin any 0 0;", 1, 17);
        wrongScript("note any; origin 0 0 0 0;", 1, 23);
        wrongScript("note any; drop 0;", 1, 15);

        sentence("Terms 4: what a note states in a text");
        ChessNotes x = new ChessNotes();
        due(play(x, "note rook from 1 to 1 3 takes check;"), 1);
        due(x.noteKind(0) + " " + x.noteFromColumn(0) + " " + x.noteFromRow(0) + " " + x.noteToColumn(0) + " "
                + x.noteToRow(0) + " " + x.noteTakes(0) + " " + x.noteChecks(0), "2 1 -1 1 3 true true");
        due(play(x, "drop;note any;origin 0 2 0;"), 3);
        due(x.noteKind(0) + " " + x.noteFromColumn(0) + " " + x.noteFromRow(0) + " " + x.noteToColumn(0) + " "
                + x.noteToRow(0) + " " + x.noteTakes(0) + " " + x.noteChecks(0), "-1 2 0 -1 -1 false false");
        String[] kinds = {"king", "queen", "rook", "bishop", "knight"};
        for (int kind = 0; kind < 5; kind++) {
            ChessNotes y = loaded("board 4 4;white king 0 0;black king 3 0;white queen 0 1;white rook 1 1;white bishop 0 3;"
                    + "white knight 1 3;note " + kinds[kind] + ";");
            due(y.noteKind(0), kind);
            ChessNotes z = loaded("board 4 4;white king 0 0;black king 3 0;black " + kinds[kind == 0 ? 2 : kind] + " 0 3;");
            due(z.kindAt(0, 0, 3), kind == 0 ? 2 : kind);
            due(z.colourAt(0, 0, 3), BLACK);
        }
    }

    private static void bytes() {
        sentence("Terms 4: a token is a word, a number or a semicolon; code 1, the byte belongs to no token");
        String head = "board";
        String tail = "4 4;white king 0 0;black king 3 3;";
        for (int code = 0; code < 256; code++) {
            char sign = (char) code;
            boolean letter = code >= 97 && code <= 122;
            boolean digit = code >= 48 && code <= 57;
            // Between a word and a number, before the first token and behind the last one.
            if (code == 32 || code == 48) {
                rightSetup(head + sign + tail, 2);
            } else if (letter) {
                wrongSetup(head + sign + tail, 1, 0);
            } else {
                wrongSetup(head + sign + tail, digit ? 2 : 1, 5);
            }
            if (code == 32) {
                rightSetup(sign + head + tail, 2);
                rightSetup(head + tail + sign, 2);
                rightScript("note any" + sign + ";", 1);
                wrongScript("no" + sign + "te any;", 1, 0);
            } else {
                wrongSetup(sign + head + tail, 1, 0);
                wrongSetup(head + tail + sign, 1, head.length() + tail.length());
                if (code != 59) {
                    wrongScript("note any" + sign + ";", 1, letter ? 5 : 8);
                }
                wrongScript("no" + sign + "te any;", 1, 0);
            }
        }

        sentence("Terms 4: a word is a maximal run of the letters a to z");
        wrongSetup("boards 4 4;", 1, 0);
        wrongSetup("boar 4 4;", 1, 0);
        wrongSetup("aboard 4 4;", 1, 0);
        wrongSetup("xoard 4 4;white king 0 0;black king 2 2;", 1, 0);
        wrongSetup("boarx 4 4;white king 0 0;black king 2 2;", 1, 0);
        wrongSetup("Board 4 4;", 1, 0);
        wrongSetup("bOard 4 4;", 1, 0);
        wrongSetup("boarD 4 4;", 1, 0);
        wrongSetup("bo ard 4 4;", 1, 0);
        wrongSetup("board 4 4;whiteking 0 0;", 1, 10);
        wrongSetup("board 4 4;white kin g 0 0;", 1, 16);
        wrongScript("noteany;", 1, 0);
        wrongScript("note anyfrom 3;", 1, 5);
        wrongScript("note any takescheck;", 1, 9);
        wrongScript("dropdrop;", 1, 0);

        sentence("Terms 4: a number is a maximal run of digits, with or without leading zeros");
        rightSetup("board 04 0000000000000000000000000000004;white king 00 000;black king 03 3;", 2);
        wrongSetup("board 44;white king 0 0;", 2, 6);
        wrongSetup("board 4 44;white king 0 0;", 2, 8);
        wrongSetup("board 4 4;white king 00;", 1, 23);
        wrongSetup("board 4 -4;", 1, 8);
        wrongSetup("board 4 +4;", 1, 8);
        wrongSetup("board 4.0 4;", 1, 7);
        // Numbers that would be allowed if they wrapped around.
        String[] large = {"260", "65540", "4294967300", "18446744073709551620", "340282366920938463463374607431768211460",
            "2147483652", "9223372036854775812", "1004", "1000000000000000000000000000000000000000000000004"};
        for (String number : large) {
            wrongSetup("board " + number + " 4;", 2, 6);
            wrongSetup("board 4 " + number + ";", 2, 8);
            wrongSetup("board 4 4;white king " + number + " 0;", 2, 21);
            wrongSetup("board 4 4;white king 0 " + number + ";", 2, 23);
            wrongScript("note any;origin " + number + " 0 0;", 2, 16);
            wrongScript("note any from " + number + ";", 2, 14);
        }
        wrongScript("note any;origin 4294967296 0 0;", 2, 16);
        wrongScript("note any;origin 18446744073709551616 0 0;", 2, 16);
        wrongSetup("board " + "9".repeat(594), 2, 6);
        wrongSetup("board 4 " + "9".repeat(592), 2, 8);

        sentence("Terms 4: spaces may stand before and after every token");
        String plain = plain(SETUP);
        rightSetup("   " + plain.replace(" ", "    ") + "   ", 3);
        rightScript("   " + plain(SCRIPT).replace(" ", "   ") + "   ", 6);

        sentence("Terms 4: spaces are needed only between two words and between two numbers");
        rightSetup("board4 4;white king0 0;black king3 3;note king to1 1;", 2);
        rightScript("note any from3to3 2check;origin0 3 1;drop;note any to1 3takes;", 4);
        wrongSetup("board44;white king0 0;", 2, 5);
        wrongScript("note any;origin 000;", 1, 19);
        wrongScript("note any;origin 0 00;", 1, 20);
    }

    private static void execution() {
        sentence("Terms 4: a command is executed when its semicolon has been read");
        wrongScript("note queen", 1, 10);
        wrongScript("note queen  ", 1, 12);
        wrongScript("note queen;", 6, 10);
        wrongScript("note queen  ;", 6, 12);
        wrongScript("note queen !;", 1, 11);
        wrongScript("drop", 1, 4);
        wrongScript("drop!", 1, 4);
        wrongScript("drop;", 6, 4);
        // Before the next command is read: it may name the note, or no longer.
        rightScript("note any;origin 0 0 0;", 2);
        wrongScript("origin 0 0 0;note any;", 2, 7);
        wrongScript("note any;drop;origin 0 0 0;", 2, 21);
        wrongScript("note queen;origin 9", 6, 10);
        wrongScript("note king;note king;origin 2 0 0;", 2, 27);

        sentence("Terms 4: the commands call addNote(), clarify() and dropNote()");
        ChessNotes x = new ChessNotes();
        due(play(x, "note rook to 1 1;note any;origin 0 3 1;drop;note king;"), 5);
        ChessNotes y = new ChessNotes();
        note(y, ROOK, NONE, 1, 1);
        note(y, NONE, NONE, NONE, NONE);
        y.clarify(0, 3, 1);
        y.dropNote();
        note(y, KING, NONE, NONE, NONE);
        due(state(x), state(y));

        sentence("Terms 4: parsing stops at the first wrong token");
        wrongScript("note queen; drop; !", 6, 10);
        wrongScript("note any; drop; drop; drop;", 6, 20);
        wrongSetup("board 9 9;white pawn 0 0", 2, 6);
        wrongSetup("board 4 9;white pawn 0 0", 2, 8);
        wrongSetup("board 4 4;white pawn 9 9", 1, 16);
        wrongSetup("board 4 4;white king 9 9", 2, 21);
    }

    private static void ranges() {
        sentence("Terms 4: code 2, columns and rows 3 to 6");
        for (int number : new int[] {0, 1, 2, 7, 8, 9, 10, 33, 66}) {
            wrongSetup("board " + number + " 4;white king 0 0;black king 2 2;", 2, 6);
            wrongSetup("board 4 " + number + ";white king 0 0;black king 2 2;", 2, 8);
        }
        for (int number = 3; number <= 6; number++) {
            rightSetup("board " + number + " 4;white king 0 0;black king 2 2;", 2);
            rightSetup("board 4 " + number + ";white king 0 0;black king 2 2;", 2);
        }

        sentence("Terms 4: code 2, a column or row of the board");
        for (int columns = 3; columns <= 6; columns++) {
            for (int rows = 3; rows <= 6; rows++) {
                String head = "board " + columns + " " + rows + ";white king 0 0;black king ";
                int right = columns - 1;
                int top = rows - 1;
                rightSetup(head + right + " " + top + ";", 2);
                wrongSetup(head + columns + " " + top + ";", 2, 36);
                wrongSetup(head + right + " " + rows + ";", 2, 38);
                String begin = head + right + " " + top + ";";
                rightSetup(begin + "note king from 0;", 2);
                rightSetup(begin + "note king to 1 0;", 2);
                rightSetup(begin + "note king from 0;origin 0 0 0;", 2);
                wrongSetup(begin + "note king from " + columns + ";", 2, 55);
                wrongSetup(begin + "note king to " + columns + " 0;", 2, 53);
                wrongSetup(begin + "note king to 0 " + rows + ";", 2, 55);
                wrongSetup(begin + "note any;origin 0 " + columns + " 0;", 2, 58);
                wrongSetup(begin + "note any;origin 0 0 " + rows + ";", 2, 60);
                // The last column and row are in range, though no move begins or ends there.
                wrongSetup(begin + "note king from " + right + ";", 6, 56);
                wrongSetup(begin + "note king to " + right + " 0;", 6, 56);
                wrongSetup(begin + "note king to 0 " + top + ";", 6, 56);
                wrongSetup(begin + "note any;origin 0 " + right + " 0;", 6, 61);
                wrongSetup(begin + "note any;origin 0 0 " + top + ";", 6, 61);
            }
        }

        sentence("Terms 4: code 2, the number of a note that does not exist");
        wrongScript("origin 0 0 0;", 2, 7);
        wrongScript("note any;origin 1 0 0;", 2, 16);
        rightScript("note any;origin 0 0 0;", 2);
        String ten = KINGS + TEN_NOTES;
        rightSetup(ten + "origin 9 2 2;", 2);
        wrongSetup(ten + "origin 10 2 2;", 2, ten.length() + 7);
        rightSetup(ten + "drop;origin 8 0 0;", 2);
        wrongSetup(ten + "drop;origin 9 2 2;", 2, ten.length() + 12);
    }

    private static void pieceErrors() {
        sentence("Terms 4: code 3, the row of a piece whose square is occupied");
        for (String colour : COLOURS) {
            wrongSetup("board 4 4;white king 0 0;" + colour + " rook 0 0;", 3, 38);
            wrongSetup("board 4 4;white king 0 0;black king 3 3;" + colour + " rook 0 0;", 3, 53);
            wrongSetup("board 4 4;white king 0 0;black king 3 3;" + colour + " rook 3  03;", 3, 54);
            wrongSetup("board 4 4;white king 0 0;black king 3 3;" + colour + " rook 3 3", 3, 53);
        }
        wrongSetup("board 4 4;white king 0 0;black king 0 0;", 3, 38);
        rightSetup("board 4 4;white king 0 0;black king 3 3;white rook 3 0;white rook 0 3;", 4);
        // The row is out of range before its square could be occupied.
        wrongSetup("board 4 4;white king 0 0;black king 0 4;", 2, 38);
        wrongSetup("board 4 4;white king 0 0;black king 0 ;", 1, 38);
        wrongSetup("board 4 4;white king 0 1;black king 4 0;", 2, 36);

        sentence("Terms 4: code 4, the kind of a second king of a colour");
        wrongSetup("board 4 4;white king 0 0;white king 3 3;", 4, 31);
        wrongSetup("board 4 4;black king 0 0;black king 3 3;", 4, 31);
        wrongSetup("board 4 4;white king 0 0;black king 3 3;white king 0 3;", 4, 46);
        wrongSetup("board 4 4;white king 0 0;black king 3 3;black king 0 3;", 4, 46);
        wrongSetup("board 4 4;white king 0 0;white rook 1 1;white king 0 0;", 4, 46);
        wrongSetup("board 4 4;white king 0 0;white king", 4, 31);

        sentence("Terms 4: code 4, the word \"white\" or \"black\" of an 11th piece");
        rightSetup(TEN_PIECES, 10);
        for (String colour : COLOURS) {
            wrongSetup(TEN_PIECES + colour + " rook 4 4;", 4, TEN_PIECES.length());
            wrongSetup(TEN_PIECES + "  " + colour, 4, TEN_PIECES.length() + 2);
            wrongSetup(TEN_PIECES + colour + " king 4 4;", 4, TEN_PIECES.length());
        }
        wrongSetup(TEN_PIECES + "red rook 4 4;", 1, TEN_PIECES.length());
        rightSetup(TEN_PIECES + "note any to 5 0;", 10);

        sentence("Terms 4: code 5, the first word of a command after the last piece, or the end of the text there");
        String[] kingless = {"white rook 0 0;black rook 3 3;", "white king 0 0;black rook 3 3;", "white rook 0 0;black king 3 3;",
            "white rook 0 0;white rook 3 3;", "black king 0 0;black rook 3 3;"};
        for (String pieces : kingless) {
            String setup = "board 4 4;" + pieces;
            wrongSetup(setup, 5, 40);
            wrongSetup(setup + "  ", 5, 42);
            wrongSetup(setup + "note any;", 5, 40);
            wrongSetup(setup + " note any;", 5, 41);
            wrongSetup(setup + "origin 0 0 0;", 5, 40);
            wrongSetup(setup + "drop;", 5, 40);
            wrongSetup(setup + "drop", 5, 40);
            wrongSetup(setup + "note", 5, 40);
            wrongSetup(setup + "white rook 1 1;", 5, 55);
            wrongSetup(setup + "white rook 1 1;note any;", 5, 55);
        }
        String noKings = TEN_PIECES.replace("king", "rook");
        wrongSetup(noKings, 5, noKings.length());
        wrongSetup(noKings + "drop;", 5, noKings.length());
    }

    private static void lowestCodes() {
        sentence("Terms 4: if several error codes apply to a token, the lowest code is reported");
        // One piece alone: the grammar wants a second one, and a king is missing as well.
        wrongSetup("board 4 4;white king 0 0;", 1, 25);
        wrongSetup("board 4 4;white rook 0 0;note any;", 1, 25);
        wrongSetup("board 4 4;white rook 0 0;origin 0 0 0;", 1, 25);
        wrongSetup("board 4 4;", 1, 10);
        // A king is missing, and an 11th piece is too many; and other words than a command's are not allowed at all.
        String noKings = TEN_PIECES.replace("king", "rook");
        wrongSetup(noKings + "white king 4 4;", 4, noKings.length());
        wrongSetup("board 4 4;white rook 0 0;black rook 3 3;takes;", 1, 40);
        wrongSetup("board 4 4;white rook 0 0;black rook 3 3;;", 1, 40);
        wrongSetup("board 4 4;white rook 0 0;black rook 3 3;board", 1, 40);
        wrongSetup("board 4 4;white rook 0 0;black rook 3 3;7", 1, 40);
    }

    private static void notPossible() {
        sentence("Terms 4: code 6, the semicolon of a command, if the method would throw an IllegalStateException");
        // addNote(): ten notes, no game, more than 40 positions.
        String ten = KINGS + TEN_NOTES;
        rightSetup(ten, 2);
        wrongSetup(ten + "note any;", 6, ten.length() + 8);
        wrongScript("note queen ;", 6, 11);
        wrongScript("note any from 2 to 3 3;", 6, 22);
        rightSetup(FORTY_MOVES + "note any;", 5);
        wrongSetup(FORTY_ONE_MOVES + "note any;", 6, FORTY_ONE_MOVES.length() + 8);
        // clarify(): no game of this note or of a later one, more than 40 positions after the last note or a middle one.
        wrongScript("note any;origin 0 2 2;", 6, 21);
        rightScript("note rook from 3;note any takes;origin 0 3 1;", 3);
        wrongScript("note any from 3;note any takes;origin 0 1 0;", 6, 43);
        String knight = "board 6 6;white king 0 0;black king 5 5;black rook 1 5;white queen 2 1;white knight 5 0;"
                + "note any from 5;note any;";
        rightSetup(knight, 5);
        wrongSetup(knight + "origin 0 2 1;", 6, knight.length() + 12);
        // dropNote(): no note.
        wrongScript("drop;", 6, 4);
        wrongScript("note any;drop;drop;", 6, 18);
        wrongSetup(KINGS + "drop;", 6, KINGS.length() + 4);
    }

    private static void afterwards() {
        sentence("Promises 4 and 5: the buffer is empty in any case");
        ChessNotes x = new ChessNotes();
        for (String text : new String[] {KINGS, "note any;", "", "!", "z".repeat(600)}) {
            type(x, text);
            x.load();
            due(x.append(SPACES, SPACES, SPACES, SPACES, SPACES), 20);
            due(x.play(), 0);
            type(x, text);
            x.play();
            fails(ARGUMENT, () -> x.truncateInput(1));
            due(x.append(SPACES, SPACES, SPACES, SPACES, SPACES), 20);
            due(x.play(), 0);
        }

        sentence("Promise 4: with an error the state does not change");
        for (String text : new String[] {"", "board 5 6;", "board 6 6;white king 3 3;black king 1 1;white rook 0 0",
            TEN_PIECES + "note any;drop;drop;", FORTY_ONE_MOVES + "note any;"}) {
            ChessNotes wrong = prepared();
            due(load(wrong, text), NONE);
            due(rest(wrong), rest(prepared()));
        }

        sentence("Promise 5: with an error the state does not change (commands before the error have no effect)");
        for (String text : new String[] {"drop;drop;drop;", "note any;note any;!", "origin 0 1 1;drop;note any;note queen;", "drop;drop"}) {
            ChessNotes wrong = prepared();
            due(play(wrong, text), NONE);
            due(rest(wrong), rest(prepared()));
        }

        sentence("Promise 5: without an error the commands are executed as a single change");
        ChessNotes y = new ChessNotes();
        due(play(y, "note any;origin 0 1 0;drop;note king;"), 4);
        due(y.undoableChanges(), 1);
        due(y.undo(), 0);
        due(y.noteCount(), 0);

        sentence("Promise 4: returns the number of pieces at the start");
        String text = "board 6 6;white king 0 0;black king 5 5;";
        for (int pieces = 2; pieces <= 10; pieces++) {
            rightSetup(text, pieces);
            rightSetup(text + "note king;drop;", pieces);
            text += COLOURS[pieces % 2] + " knight " + pieces % 6 + (pieces < 7 ? " 3;" : " 2;");
        }

        sentence("Promises 6 and 7: of the latest call of load() or play(); 0 and NONE if there was no error or no such call");
        ChessNotes e = new ChessNotes();
        due(errors(e), "0 at -1");
        note(e, ROOK, NONE, NONE, NONE);
        due(errors(e), "0 at -1");
        load(e, "board 4 9;");
        due(errors(e), "2 at 8");
        play(e, "drop;");
        due(errors(e), "0 at -1");
        play(e, " drop;");
        due(errors(e), "6 at 5");
        fails(STATE, e::dropNote);
        e.undo();
        e.save(0);
        e.restore(0);
        due(errors(e), "6 at 5");
        load(e, KINGS);
        due(errors(e), "0 at -1");
        load(e, "");
        due(errors(e), "1 at 0");
    }

    private static ChessNotes prepared() {
        ChessNotes x = loaded("board 3 4;white king 0 0;black king 2 3;white knight 1 1;");
        x.save(0);
        note(x, KNIGHT, NONE, NONE, NONE);
        note(x, KING, NONE, NONE, NONE);
        x.save(1);
        x.writePosition(0);
        return x;
    }

    public static void main(String[] args) {
        buffer();
        fullTexts();
        grammar();
        bytes();
        execution();
        ranges();
        pieceErrors();
        lowestCodes();
        notPossible();
        afterwards();
        end();
    }
}
