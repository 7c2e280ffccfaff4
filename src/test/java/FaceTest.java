import java.io.IOException;
import java.lang.reflect.Constructor;
import java.lang.reflect.Field;
import java.lang.reflect.Method;
import java.lang.reflect.Modifier;
import java.nio.file.Files;
import java.nio.file.Path;
import java.util.Arrays;
import java.util.Set;
import java.util.TreeSet;

/** The document's public face and nothing beside it, and some rules of LANGUAGE.md on the source. */
public final class FaceTest {
    private static final String[] FACE = {
        "int addCoin(int)", "int addSchool(int)", "int setShare(int, int, int)",
        "int toss(boolean)", "boolean undo()", "int strike(int)",
        "int coins()", "int schools()", "int tosses()", "int heads()", "boolean isHeads(int)",
        "int tenthsOf(int)", "int oddsOf(int)", "int shareOf(int, int)",
        "long weightOf(int, int)", "long coinWeight(int)", "long schoolWeight(int)",
        "long wholeWeight()", "boolean isRuledOut(int)", "int ruledOut()",
        "int coinPercent(int)", "int schoolPercent(int)", "int leadingCoin()",
        "int leadingSchool()", "long oddsAgainst(int, int)",
        "int surpriseOf(int)", "int allSurprise()", "int greatestSurprise()",
        "int headsPercent()", "int wouldSurprise(boolean)",
        "int leaderBehind(boolean)", "int tossesToLead(int)", "int decisiveTosses()",
        "double meanTenths()", "long digest()",
    };
    private static final String[] RULED_OUT = {
        "package ", "import ", "->", "::", "Exact", "try", "catch", "finally", "assert",
        "synchronized", "Throwable", "Error", "System.", "random", "Thread", "protected",
    };

    public static void main(String[] args) throws IOException {
        members();
        if (args.length > 0) {
            source(Files.readString(Path.of(args[0])));
        }
        Expect.finish();
    }

    private static void members() {
        Class<OddsLadder> face = OddsLadder.class;
        Expect.equal("public and final", face.getModifiers(), Modifier.PUBLIC | Modifier.FINAL);
        Expect.equal("package", face.getPackageName(), "");
        Set<String> found = new TreeSet<>();
        Set<String> names = new TreeSet<>();
        for (Method method : face.getDeclaredMethods()) {
            if (Modifier.isPublic(method.getModifiers())) {
                found.add(described(method));
                names.add(method.getName());
                Expect.equal("static " + method.getName(),
                    Modifier.isStatic(method.getModifiers()), false);
            }
        }
        Expect.equal("the public methods", found, new TreeSet<>(Arrays.asList(FACE)));
        for (Method method : face.getDeclaredMethods()) {
            if (!Modifier.isPublic(method.getModifiers())) {
                Expect.equal("private " + method.getName(),
                    Modifier.isPrivate(method.getModifiers()), true);
                Expect.equal("a private method named as a public one, " + method.getName(),
                    names.contains(method.getName()), false);
            }
        }
        for (Field field : face.getDeclaredFields()) {
            Expect.equal("private " + field.getName(),
                Modifier.isPrivate(field.getModifiers()), true);
            Expect.equal("static without final " + field.getName(),
                Modifier.isStatic(field.getModifiers()) && !Modifier.isFinal(field.getModifiers()),
                false);
        }
        Constructor<?>[] constructors = face.getDeclaredConstructors();
        Expect.equal("how many constructors", constructors.length, 1);
        Expect.equal("the constructor's parameters", constructors[0].getParameterCount(), 0);
        Expect.equal("the constructor is public",
            Modifier.isPublic(constructors[0].getModifiers()), true);
    }

    private static String described(Method method) {
        String parameters = Arrays.toString(method.getParameterTypes());
        return method.getReturnType() + " " + method.getName()
            + "(" + parameters.substring(1, parameters.length() - 1) + ")";
    }

    private static void source(String text) {
        for (String word : RULED_OUT) {
            Expect.equal("'" + word + "' in the source", text.contains(word), false);
        }
    }
}
