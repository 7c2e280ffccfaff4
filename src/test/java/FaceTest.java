import java.io.IOException;
import java.lang.reflect.Constructor;
import java.lang.reflect.Field;
import java.lang.reflect.Method;
import java.lang.reflect.Modifier;
import java.nio.file.Files;
import java.nio.file.Path;
import java.util.Arrays;
import java.util.Set;
import java.util.TreeSet;

/** The document's public face and nothing beside it, and some rules of LANGUAGE.md on the source. */
public final class FaceTest {
    private static final String NO_SUCH = " IndexOutOfBoundsException";
    private static final String BAD_ARGUMENT = " IllegalArgumentException";
    private static final String BAD_STATE = " IllegalStateException";
    /** Each method, and behind it what it declares to throw, in the document's order. */
    private static final String[] FACE = {
        "int addCoin(int)" + BAD_ARGUMENT + BAD_STATE,
        "int addSchool(int)" + BAD_ARGUMENT + BAD_STATE,
        "int setShare(int, int, int)" + NO_SUCH + BAD_ARGUMENT + BAD_STATE,
        "int toss(boolean)" + BAD_STATE,
        "boolean undo()" + BAD_STATE,
        "int strike(int)" + NO_SUCH,
        "int coins()",
        "int schools()",
        "int tosses()",
        "int heads()",
        "boolean isHeads(int)" + NO_SUCH,
        "int tenthsOf(int)" + NO_SUCH,
        "int oddsOf(int)" + NO_SUCH,
        "int shareOf(int, int)" + NO_SUCH,
        "long weightOf(int, int)" + NO_SUCH,
        "long coinWeight(int)" + NO_SUCH,
        "long schoolWeight(int)" + NO_SUCH,
        "long wholeWeight()",
        "boolean isRuledOut(int)" + NO_SUCH,
        "int ruledOut()",
        "int coinPercent(int)" + NO_SUCH + BAD_STATE,
        "int schoolPercent(int)" + NO_SUCH + BAD_STATE,
        "int leadingCoin()" + BAD_STATE,
        "int leadingSchool()" + BAD_STATE,
        "long oddsAgainst(int, int)" + NO_SUCH + BAD_STATE,
        "int surpriseOf(int)" + NO_SUCH,
        "int allSurprise()",
        "int greatestSurprise()",
        "int headsPercent()" + BAD_STATE,
        "int wouldSurprise(boolean)" + BAD_STATE,
        "int leaderBehind(boolean)" + BAD_STATE,
        "int tossesToLead(int)" + NO_SUCH,
        "int decisiveTosses()",
        "double meanTenths()" + BAD_STATE,
        "long digest()",
    };
    /** Each heading, and the first and the last of the calls that the document sets behind it. */
    private static final String[] HEADINGS = {
        "---- the ladder", "public int addCoin", "public int setShare",
        "---- tosses", "public int toss", "public int strike",
        "---- what there is", "public int coins", "public int shareOf",
        "---- weights", "public long weightOf", "public long oddsAgainst",
        "---- surprises", "public int surpriseOf", "public int wouldSurprise",
        "---- what would be", "public int leaderBehind", "public long digest",
    };
    private static final String[] RULED_OUT = {
        "package ", "import ", "->", "::", "Exact", "try", "catch", "finally", "assert",
        "synchronized", "Throwable", "Error", "System.", "random", "Thread", "protected",
    };

    public static void main(String[] args) throws IOException {
        members();
        if (args.length > 0) {
            source(Files.readString(Path.of(args[0])));
        }
        Expect.finish();
    }

    private static void members() {
        Class<OddsLadder> face = OddsLadder.class;
        Expect.equal("public and final", face.getModifiers(), Modifier.PUBLIC | Modifier.FINAL);
        Expect.equal("package", face.getPackageName(), "");
        Set<String> found = new TreeSet<>();
        Set<String> names = new TreeSet<>();
        for (Method method : face.getDeclaredMethods()) {
            if (Modifier.isPublic(method.getModifiers())) {
                found.add(described(method));
                names.add(method.getName());
                Expect.equal("static " + method.getName(),
                    Modifier.isStatic(method.getModifiers()), false);
            }
        }
        Expect.equal("the public methods", found, new TreeSet<>(Arrays.asList(FACE)));
        for (Method method : face.getDeclaredMethods()) {
            if (!Modifier.isPublic(method.getModifiers())) {
                Expect.equal("private " + method.getName(),
                    Modifier.isPrivate(method.getModifiers()), true);
                Expect.equal("a private method named as a public one, " + method.getName(),
                    names.contains(method.getName()), false);
            }
        }
        for (Field field : face.getDeclaredFields()) {
            Expect.equal("private " + field.getName(),
                Modifier.isPrivate(field.getModifiers()), true);
            Expect.equal("static without final " + field.getName(),
                Modifier.isStatic(field.getModifiers()) && !Modifier.isFinal(field.getModifiers()),
                false);
        }
        Constructor<?>[] constructors = face.getDeclaredConstructors();
        Expect.equal("how many constructors", constructors.length, 1);
        Expect.equal("the constructor's parameters", constructors[0].getParameterCount(), 0);
        Expect.equal("the constructor is public",
            Modifier.isPublic(constructors[0].getModifiers()), true);
    }

    private static String described(Method method) {
        String parameters = Arrays.toString(method.getParameterTypes());
        StringBuilder text = new StringBuilder();
        text.append(method.getReturnType()).append(' ').append(method.getName());
        text.append('(').append(parameters, 1, parameters.length() - 1).append(')');
        for (Class<?> thrown : method.getExceptionTypes()) {
            text.append(' ').append(thrown.getSimpleName());
        }
        return text.toString();
    }

    private static void headings(String text) {
        int at = 0;
        for (String each : HEADINGS) {
            String line = each.startsWith("-") ? "\n    // " + each + "\n" : " " + each + "(";
            int found = text.indexOf(line, at);
            Expect.equal("'" + each + "' in its place", found >= 0, true);
            at = Math.max(at, found);
        }
    }

    private static void source(String text) {
        headings(text);
        for (String word : RULED_OUT) {
            Expect.equal("'" + word + "' in the source", text.contains(word), false);
        }
    }
}
