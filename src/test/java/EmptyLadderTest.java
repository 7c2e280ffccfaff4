import java.util.function.Function;
import java.util.function.Supplier;

/** Promises 1 to 36 on a ladder with nothing in it, and on one with nothing on one of its rungs. */
public final class EmptyLadderTest {
    public static void main(String[] args) {
        nothingThereIs();
        nothingHasNumbers();
        nothingHasNoWeight();
        nothingCanBeTossed();
        nothingTakesBothRungs();
        coinsAlone();
        schoolsAlone();
        noShares();
        Expect.finish();
    }

    private static void answers(Object due, String what, Supplier<OddsLadder> build,
            Function<OddsLadder, Object> call) {
        Expect.answers(due, what, () -> call.apply(build.get()));
    }

    private static void nothingThereIs() {
        Supplier<OddsLadder> none = OddsLadder::new;
        answers(0, "P8: coins() of nothing", none, x -> x.coins());
        answers(0, "P9: schools() of nothing", none, x -> x.schools());
        answers(0, "P10: tosses() of nothing", none, x -> x.tosses());
        answers(0, "P11: heads() of nothing", none, x -> x.heads());
        answers(0L, "P19: wholeWeight() of nothing", none, x -> x.wholeWeight());
        answers(0, "P21: ruledOut() of nothing", none, x -> x.ruledOut());
        answers(0, "P28: allSurprise() of nothing", none, x -> x.allSurprise());
        answers(-1, "P29: greatestSurprise() of nothing", none, x -> x.greatestSurprise());
        answers(0, "P34: decisiveTosses() of nothing", none, x -> x.decisiveTosses());
        // 1913 times 31 to the 8th: nothing but noughts is added.
        answers(1913L * 852_891_037_441L, "P36: digest() of nothing", none, x -> x.digest());
    }

    private static void nothingHasNumbers() {
        Supplier<OddsLadder> none = OddsLadder::new;
        for (int at : new int[] {-1, 0, 1}) {
            Refused.noSuch("P4: setShare of nothing", none, x -> x.setShare(at, at, 1));
            Refused.noSuch("P4: setShare of nothing, share 10", none, x -> x.setShare(at, at, 10));
            Refused.noSuch("P7: strike of nothing", none, x -> x.strike(at));
            Refused.noSuch("P12: isHeads of nothing", none, x -> x.isHeads(at));
            Refused.noSuch("P13: tenthsOf of nothing", none, x -> x.tenthsOf(at));
            Refused.noSuch("P14: oddsOf of nothing", none, x -> x.oddsOf(at));
            Refused.noSuch("P15: shareOf of nothing", none, x -> x.shareOf(at, at));
            Refused.noSuch("P16: weightOf of nothing", none, x -> x.weightOf(at, at));
            Refused.noSuch("P17: coinWeight of nothing", none, x -> x.coinWeight(at));
            Refused.noSuch("P18: schoolWeight of nothing", none, x -> x.schoolWeight(at));
            Refused.noSuch("P20: isRuledOut of nothing", none, x -> x.isRuledOut(at));
            Refused.noSuch("P26: oddsAgainst of nothing", none, x -> x.oddsAgainst(at, at));
            Refused.noSuch("P27: surpriseOf of nothing", none, x -> x.surpriseOf(at));
            Refused.noSuch("P33: tossesToLead of nothing", none, x -> x.tossesToLead(at));
        }
        // The whole weight is 0 too, but that there is no such one is named first.
        Refused.noSuch("P22: coinPercent of nothing", none, x -> x.coinPercent(0));
        Refused.noSuch("P23: schoolPercent of nothing", none, x -> x.schoolPercent(0));
    }

    private static void nothingHasNoWeight() {
        Supplier<OddsLadder> none = OddsLadder::new;
        Refused.badState("P24: leadingCoin of nothing", none, x -> x.leadingCoin());
        Refused.badState("P25: leadingSchool of nothing", none, x -> x.leadingSchool());
        Refused.badState("P30: headsPercent of nothing", none, x -> x.headsPercent());
        Refused.badState("P35: meanTenths of nothing", none, x -> x.meanTenths());
    }

    private static void nothingCanBeTossed() {
        Supplier<OddsLadder> none = OddsLadder::new;
        Refused.badState("P6: undo of nothing", none, x -> x.undo());
        for (boolean isHeads : new boolean[] {true, false}) {
            Refused.badState("P5: toss on nothing", none, x -> x.toss(isHeads));
            Refused.badState("P31: wouldSurprise on nothing", none, x -> x.wouldSurprise(isHeads));
            Refused.badState("P32: leaderBehind on nothing", none, x -> x.leaderBehind(isHeads));
        }
    }

    private static void nothingTakesBothRungs() {
        answers(0, "P2: the first coin", OddsLadder::new, x -> x.addCoin(5));
        answers(0, "P3: the first school", OddsLadder::new, x -> x.addSchool(5));
        Refused.badArgument("P2: addCoin(-1) to nothing", OddsLadder::new, x -> x.addCoin(-1));
        Refused.badArgument("P2: addCoin(11) to nothing", OddsLadder::new, x -> x.addCoin(11));
        Refused.badArgument("P3: addSchool(0) to nothing", OddsLadder::new, x -> x.addSchool(0));
        Refused.badArgument("P3: addSchool(10) to nothing", OddsLadder::new, x -> x.addSchool(10));
    }

    private static void coinsAlone() {
        Supplier<OddsLadder> coins = () -> Ladders.coinsAlone(5, 0, 10);
        answers(0L, "P17: coinWeight without schools", coins, x -> x.coinWeight(0));
        answers(0L, "P19: wholeWeight without schools", coins, x -> x.wholeWeight());
        answers(true, "P20: isRuledOut without schools", coins, x -> x.isRuledOut(2));
        answers(3, "P21: ruledOut without schools", coins, x -> x.ruledOut());
        answers(-1, "P33: tossesToLead without schools", coins, x -> x.tossesToLead(0));
        answers(0, "P34: decisiveTosses without schools", coins, x -> x.decisiveTosses());
        Refused.noSuch("P4: setShare without schools", coins, x -> x.setShare(0, 0, 1));
        Refused.noSuch("P14: oddsOf without schools", coins, x -> x.oddsOf(0));
        Refused.noSuch("P15: shareOf without schools", coins, x -> x.shareOf(0, 0));
        Refused.noSuch("P16: weightOf without schools", coins, x -> x.weightOf(0, 0));
        Refused.noSuch("P18: schoolWeight without schools", coins, x -> x.schoolWeight(0));
        Refused.noSuch("P23: schoolPercent without schools", coins, x -> x.schoolPercent(0));
        Refused.badState("P22: coinPercent without schools", coins, x -> x.coinPercent(0));
        Refused.badState("P26: oddsAgainst without schools", coins, x -> x.oddsAgainst(0, 1));
        weighsNothing("without schools", coins);
    }

    private static void schoolsAlone() {
        Supplier<OddsLadder> schools = () -> Ladders.of();
        answers(0L, "P18: schoolWeight without coins", schools, x -> x.schoolWeight(0));
        answers(0L, "P19: wholeWeight without coins", schools, x -> x.wholeWeight());
        answers(0, "P21: ruledOut without coins", schools, x -> x.ruledOut());
        Refused.noSuch("P4: setShare without coins", schools, x -> x.setShare(0, 0, 1));
        Refused.noSuch("P13: tenthsOf without coins", schools, x -> x.tenthsOf(0));
        Refused.noSuch("P15: shareOf without coins", schools, x -> x.shareOf(0, 0));
        Refused.noSuch("P16: weightOf without coins", schools, x -> x.weightOf(0, 0));
        Refused.noSuch("P17: coinWeight without coins", schools, x -> x.coinWeight(0));
        Refused.noSuch("P20: isRuledOut without coins", schools, x -> x.isRuledOut(0));
        Refused.noSuch("P22: coinPercent without coins", schools, x -> x.coinPercent(0));
        Refused.noSuch("P26: oddsAgainst without coins", schools, x -> x.oddsAgainst(0, 0));
        Refused.noSuch("P33: tossesToLead without coins", schools, x -> x.tossesToLead(0));
        Refused.badState("P23: schoolPercent without coins", schools, x -> x.schoolPercent(0));
        weighsNothing("without coins", schools);
    }

    private static void noShares() {
        Supplier<OddsLadder> none = Ladders::weightless;
        answers(0L, "P16: weightOf of share 0", none, x -> x.weightOf(0, 0));
        answers(0L, "P17: coinWeight of share 0", none, x -> x.coinWeight(0));
        answers(0L, "P18: schoolWeight of share 0", none, x -> x.schoolWeight(0));
        answers(0L, "P19: wholeWeight of share 0", none, x -> x.wholeWeight());
        answers(true, "P20: isRuledOut of share 0", none, x -> x.isRuledOut(0));
        answers(1, "P21: ruledOut of share 0", none, x -> x.ruledOut());
        answers(-1, "P33: tossesToLead of share 0", none, x -> x.tossesToLead(0));
        Refused.badState("P22: coinPercent of share 0", none, x -> x.coinPercent(0));
        Refused.badState("P23: schoolPercent of share 0", none, x -> x.schoolPercent(0));
        Refused.badState("P26: oddsAgainst of share 0", none, x -> x.oddsAgainst(0, 0));
        Refused.noSuch("P22: coinPercent(1) of share 0", none, x -> x.coinPercent(1));
        Refused.noSuch("P22: coinPercent(-1) of share 0", none, x -> x.coinPercent(-1));
        Refused.noSuch("P23: schoolPercent(1) of share 0", none, x -> x.schoolPercent(1));
        Refused.noSuch("P23: schoolPercent(-1) of share 0", none, x -> x.schoolPercent(-1));
        weighsNothing("of share 0", none);
    }

    private static void weighsNothing(String why, Supplier<OddsLadder> build) {
        Refused.badState("P24: leadingCoin " + why, build, x -> x.leadingCoin());
        Refused.badState("P25: leadingSchool " + why, build, x -> x.leadingSchool());
        Refused.badState("P30: headsPercent " + why, build, x -> x.headsPercent());
        Refused.badState("P35: meanTenths " + why, build, x -> x.meanTenths());
        for (boolean isHeads : new boolean[] {true, false}) {
            Refused.badState("P5: toss " + why, build, x -> x.toss(isHeads));
            Refused.badState("P31: wouldSurprise " + why, build, x -> x.wouldSurprise(isHeads));
            Refused.badState("P32: leaderBehind " + why, build, x -> x.leaderBehind(isHeads));
        }
    }
}
