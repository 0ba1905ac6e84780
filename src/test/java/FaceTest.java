import java.lang.reflect.Constructor;
import java.lang.reflect.Field;
import java.lang.reflect.Member;
import java.lang.reflect.Method;
import java.lang.reflect.Modifier;
import java.nio.file.Files;
import java.nio.file.Path;
import java.util.Arrays;
import java.util.Set;
import java.util.TreeSet;

/** The class has the face that the document writes out, with the exceptions that it names, and no more. */
public final class FaceTest extends Checks {
    private static final String[] METHODS = {
        "int append(int, int, int, int, int)", "int truncateInput(int) ARGUMENT", "int load()", "int play()",
        "int errorCode()", "int errorOffset()",
        "int addNote(int, int, int, int, boolean, boolean) ARGUMENT STATE", "int clarify(int, int, int) INDEX ARGUMENT STATE",
        "int dropNote() STATE", "int undo() STATE", "int save(int) ARGUMENT", "int restore(int) ARGUMENT STATE",
        "int columns()", "int rows()", "int noteCount()", "int colourToMove()", "int undoableChanges()",
        "int noteKind(int) INDEX", "int noteFromColumn(int) INDEX", "int noteFromRow(int) INDEX",
        "int noteToColumn(int) INDEX", "int noteToRow(int) INDEX", "boolean noteTakes(int) INDEX",
        "boolean noteChecks(int) INDEX", "int positionsAfter(int) ARGUMENT", "int kindAt(int, int, int) INDEX",
        "int colourAt(int, int, int) INDEX", "boolean isAttacked(int, int, int, int) INDEX ARGUMENT",
        "int legalMoves(int) INDEX", "long gamesTo(int) INDEX", "int certainSquares()", "long gameCount()",
        "boolean isCertain()", "int doubt(int) INDEX", "int moveOrigin(int, int) INDEX", "int moveTarget(int, int) INDEX",
        "long gamesWithMove(int, int) INDEX", "long gamesWithPiece(int, int, int, int) INDEX ARGUMENT",
        "int mostDoubtfulNote()", "long gamesIfNoted(int, int, int, int, boolean, boolean) ARGUMENT",
        "int inconsistencies()", "double meanGames()", "float certainShare()", "int writePosition(int) INDEX",
        "int outputByte(int)"};
    private static final String[] CONSTANTS = {"NONE -1", "KING 0", "QUEEN 1", "ROOK 2", "BISHOP 3", "KNIGHT 4", "WHITE 0", "BLACK 1"};

    private static String signature(Method method) {
        StringBuilder told = new StringBuilder(method.getReturnType() + " " + method.getName());
        told.append(Arrays.toString(method.getParameterTypes()).replace('[', '(').replace(']', ')'));
        for (Class<?> exception : method.getExceptionTypes()) {
            told.append(exception == INDEX ? " INDEX" : exception == ARGUMENT ? " ARGUMENT" : exception == STATE ? " STATE" : " OTHER");
        }
        return told.toString();
    }

    private static boolean isOpen(Member member) {
        return !Modifier.isPrivate(member.getModifiers()) && !member.isSynthetic();
    }

    public static void main(String[] args) throws Exception {
        sentence("The public face: the class");
        due(Modifier.toString(ChessNotes.class.getModifiers()), "public final");
        due(ChessNotes.class.getSuperclass(), Object.class);

        sentence("The public face: the methods and which exceptions they throw");
        Set<String> methods = new TreeSet<>();
        for (Method method : ChessNotes.class.getDeclaredMethods()) {
            if (isOpen(method)) {
                methods.add(signature(method));
                due(Modifier.toString(method.getModifiers()), "public");
            }
        }
        due(methods, new TreeSet<>(Arrays.asList(METHODS)));

        sentence("The public face: the constants");
        Set<String> constants = new TreeSet<>();
        for (Field field : ChessNotes.class.getDeclaredFields()) {
            if (isOpen(field)) {
                due(Modifier.toString(field.getModifiers()) + " " + field.getType(), "public static final int");
                constants.add(field.getName() + " " + field.getInt(null));
            }
        }
        due(constants, new TreeSet<>(Arrays.asList(CONSTANTS)));

        sentence("The public face: the constructor");
        int constructors = 0;
        for (Constructor<?> constructor : ChessNotes.class.getDeclaredConstructors()) {
            if (isOpen(constructor)) {
                constructors++;
                due(constructor.getParameterCount() + " " + constructor.getExceptionTypes().length, "0 0");
            }
        }
        due(constructors, 1);

        sentence("LANGUAGE.md, rule 1: no private method bears the name of a public one");
        Set<String> names = new TreeSet<>();
        for (String method : METHODS) {
            names.add(method.substring(method.indexOf(' ') + 1, method.indexOf('(')));
        }
        for (Class<?> inside : ChessNotes.class.getDeclaredClasses()) {
            for (Method method : inside.getDeclaredMethods()) {
                due(method.getName() + names.contains(method.getName()), method.getName() + false);
            }
        }

        sentence("The face of ../shared/DOC.md is the one that is tested here");
        String document = Files.readString(Path.of("..", "shared", "DOC.md"));
        String face = document.substring(document.indexOf("```java"), document.indexOf("## Terms"));
        int open = 0;
        for (String line : face.split("\n")) {
            boolean isMethod = line.contains("(") && !line.contains("ChessNotes()");
            open += isMethod ? 1 : 0;
            if (isMethod) {
                String name = line.substring(0, line.indexOf('(')).trim().replace("public ", "");
                due(name + Arrays.stream(METHODS).filter(method -> method.startsWith(name + "(")).count(), name + "1");
            }
        }
        due(open, METHODS.length);
        end();
    }
}
