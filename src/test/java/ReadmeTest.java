import java.io.IOException;
import java.lang.reflect.Method;
import java.lang.reflect.Modifier;
import java.nio.file.Files;
import java.nio.file.Path;
import java.util.ArrayList;
import java.util.List;
import java.util.Set;
import java.util.TreeSet;

/** README.md tells the truth: its example answers so, and its tables have each call and exception. */
public final class ReadmeTest {
    private static final String ROW_OF_CALL = "| `";
    private static final String CALLED = "ladder.";

    private static List<String> lines;

    public static void main(String[] args) throws IOException {
        lines = Files.readAllLines(Path.of("README.md"));
        example();
        for (Method method : OddsLadder.class.getDeclaredMethods()) {
            if (Modifier.isPublic(method.getModifiers())) {
                rowOfCall(method);
                refusals(method);
            }
        }
        Expect.finish();
    }

    private static void example() {
        OddsLadder ladder = new OddsLadder();
        List<String> calls = new ArrayList<>();
        int fair = ladder.addCoin(5);
        calls.add("addCoin(5); " + fair);
        int bent = ladder.addCoin(9);
        calls.add("addCoin(9); " + bent);
        int believer = ladder.addSchool(3);
        calls.add("addSchool(3); " + believer);
        int doubter = ladder.addSchool(1);
        calls.add("addSchool(1); " + doubter);
        calls.add("setShare(doubter, bent, 9); " + ladder.setShare(doubter, bent, 9));
        calls.add("headsPercent(); " + ladder.headsPercent());
        calls.add("toss(true); " + ladder.toss(true));
        calls.add("toss(false); " + ladder.toss(false));
        calls.add("leadingCoin(); " + ladder.leadingCoin());
        calls.add("coinPercent(fair); " + ladder.coinPercent(fair));
        calls.add("schoolPercent(believer); " + ladder.schoolPercent(believer));
        calls.add("leaderBehind(false); " + ladder.leaderBehind(false));
        calls.add("tossesToLead(fair); " + ladder.tossesToLead(fair));
        calls.add("strike(0); " + ladder.strike(0));
        calls.add("leadingCoin(); " + ladder.leadingCoin());
        Expect.equal("the example of README.md", exampleOfReadme(), calls);
    }

    /** Each call of the example, and the answer that stands behind it. */
    private static List<String> exampleOfReadme() {
        List<String> calls = new ArrayList<>();
        for (String line : lines) {
            int call = line.indexOf(CALLED);
            int answer = line.indexOf("// ");
            if (call >= 0 && answer > call) {
                calls.add(line.substring(call + CALLED.length(), answer).trim() + " "
                    + line.substring(answer + 3).split(":")[0]);
            }
        }
        return calls;
    }

    private static void rowOfCall(Method method) {
        int found = 0;
        for (String line : lines) {
            if (line.startsWith(ROW_OF_CALL + method.getName() + "(")) {
                found++;
                String parameters = line.substring(line.indexOf('(') + 1, line.indexOf(')'));
                Expect.equal("how many parameters README.md gives " + method.getName(),
                    parameters.isEmpty() ? 0 : parameters.split(",").length,
                    method.getParameterCount());
            }
        }
        Expect.equal("how many rows README.md has for " + method.getName(), found, 1);
    }

    private static void refusals(Method method) {
        Set<String> told = new TreeSet<>();
        for (String line : lines) {
            if (line.startsWith(ROW_OF_CALL) && line.contains(" `" + method.getName() + "` ")) {
                told.add(line.split("`")[1]);
            }
        }
        Set<String> declared = new TreeSet<>();
        for (Class<?> thrown : method.getExceptionTypes()) {
            declared.add(thrown.getSimpleName());
        }
        Expect.equal("what README.md has " + method.getName() + " throw", told, declared);
    }
}
