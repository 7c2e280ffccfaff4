import java.util.ArrayList;
import java.util.LinkedHashMap;
import java.util.List;
import java.util.Map;
import java.util.function.Function;

/**
 * Every asking method, put for all numbers that the limits allow and for those just beyond both
 * ends; and every changing one, with something that it may take and something that it must refuse.
 */
final class Asked {
    /** What one method answers, for one number. */
    private interface One {
        Object answer(int number);
    }

    /** What one method answers, for two numbers. */
    private interface Two {
        Object answer(int number, int other);
    }

    private static final int COINS = 8;
    private static final int SCHOOLS = 4;
    private static final int TOSSES = 12;

    static final Map<String, Function<OddsLadder, Object>> QUESTIONS = questions();
    static final Map<String, Function<OddsLadder, Object>> CHANGES = changes();

    private Asked() {
    }

    private static Map<String, Function<OddsLadder, Object>> questions() {
        Map<String, Function<OddsLadder, Object>> all = new LinkedHashMap<>();
        whatThereIs(all);
        weights(all);
        all.put("surpriseOf", x -> each(TOSSES, x::surpriseOf));
        all.put("allSurprise", x -> x.allSurprise());
        all.put("greatestSurprise", x -> x.greatestSurprise());
        all.put("headsPercent", x -> Expect.outcome(x::headsPercent));
        all.put("wouldSurprise(true)", x -> Expect.outcome(() -> x.wouldSurprise(true)));
        all.put("wouldSurprise(false)", x -> Expect.outcome(() -> x.wouldSurprise(false)));
        all.put("leaderBehind(true)", x -> Expect.outcome(() -> x.leaderBehind(true)));
        all.put("leaderBehind(false)", x -> Expect.outcome(() -> x.leaderBehind(false)));
        all.put("tossesToLead", x -> each(COINS, x::tossesToLead));
        all.put("decisiveTosses", x -> x.decisiveTosses());
        all.put("meanTenths", x -> Expect.outcome(x::meanTenths));
        all.put("digest", x -> x.digest());
        return all;
    }

    private static void whatThereIs(Map<String, Function<OddsLadder, Object>> all) {
        all.put("coins", x -> x.coins());
        all.put("schools", x -> x.schools());
        all.put("tosses", x -> x.tosses());
        all.put("heads", x -> x.heads());
        all.put("isHeads", x -> each(TOSSES, x::isHeads));
        all.put("tenthsOf", x -> each(COINS, x::tenthsOf));
        all.put("oddsOf", x -> each(SCHOOLS, x::oddsOf));
        all.put("shareOf", x -> eachPair(SCHOOLS, x::shareOf));
    }

    private static void weights(Map<String, Function<OddsLadder, Object>> all) {
        all.put("weightOf", x -> eachPair(SCHOOLS, x::weightOf));
        all.put("coinWeight", x -> each(COINS, x::coinWeight));
        all.put("schoolWeight", x -> each(SCHOOLS, x::schoolWeight));
        all.put("wholeWeight", x -> x.wholeWeight());
        all.put("isRuledOut", x -> each(COINS, x::isRuledOut));
        all.put("ruledOut", x -> x.ruledOut());
        all.put("coinPercent", x -> each(COINS, x::coinPercent));
        all.put("schoolPercent", x -> each(SCHOOLS, x::schoolPercent));
        all.put("leadingCoin", x -> Expect.outcome(x::leadingCoin));
        all.put("leadingSchool", x -> Expect.outcome(x::leadingSchool));
        all.put("oddsAgainst", x -> eachPair(COINS, x::oddsAgainst));
    }

    private static Map<String, Function<OddsLadder, Object>> changes() {
        Map<String, Function<OddsLadder, Object>> all = new LinkedHashMap<>();
        all.put("addCoin(5)", x -> x.addCoin(5));
        all.put("addCoin(11)", x -> x.addCoin(11));
        all.put("addSchool(5)", x -> x.addSchool(5));
        all.put("addSchool(0)", x -> x.addSchool(0));
        all.put("setShare(0, 0, 7)", x -> x.setShare(0, 0, 7));
        all.put("setShare(0, 0, 10)", x -> x.setShare(0, 0, 10));
        all.put("setShare(4, 8, 7)", x -> x.setShare(4, 8, 7));
        all.put("toss(true)", x -> x.toss(true));
        all.put("toss(false)", x -> x.toss(false));
        all.put("undo()", x -> x.undo());
        all.put("strike(0)", x -> x.strike(0));
        all.put("strike(11)", x -> x.strike(11));
        all.put("strike(-1)", x -> x.strike(-1));
        return all;
    }

    private static List<Object> each(int beyond, One asked) {
        List<Object> answers = new ArrayList<>();
        for (int number = -1; number <= beyond; number++) {
            int at = number;
            answers.add(Expect.outcome(() -> asked.answer(at)));
        }
        return answers;
    }

    /** The second number is always a coin's. */
    private static List<Object> eachPair(int beyond, Two asked) {
        List<Object> answers = new ArrayList<>();
        for (int number = -1; number <= beyond; number++) {
            int at = number;
            answers.addAll(each(COINS, coin -> asked.answer(at, coin)));
        }
        return answers;
    }
}
