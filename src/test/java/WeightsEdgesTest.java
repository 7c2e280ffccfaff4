import java.util.function.Supplier;

/** The boundary cases of promises 16 to 26: weights, percents, who leads. */
public final class WeightsEdgesTest {
    public static void main(String[] args) {
        weightsOfNoughts();
        smallestAndGreatestWeights();
        weightNumbers();
        ruledOutOrJustNot();
        howManyAreRuledOut();
        coinPercent();
        schoolPercent();
        percentsWhereSeveralApply();
        leadingCoin();
        leadingSchool();
        oddsAgainstCut();
        oddsAgainstRuledOut();
        oddsAgainstWhereSeveralApply();
        Expect.finish();
    }

    private static OddsLadder ofTwo(int share, int other) {
        return Ladders.shared(new int[] {5, 5}, share, other);
    }

    private static void weight(long due, String what, OddsLadder x) {
        Expect.equal("P16: weightOf " + what, x.weightOf(0, 0), due);
        Expect.equal("P17: coinWeight " + what, x.coinWeight(0), due);
        Expect.equal("P18: schoolWeight " + what, x.schoolWeight(0), due);
        Expect.equal("P19: wholeWeight " + what, x.wholeWeight(), due);
    }

    private static void weightsOfNoughts() {
        weight(0, "of share 0", Ladders.weightless());
        weight(1, "of 0 tenths without tosses", Ladders.of(0));
        weight(1, "of 10 tenths without tosses", Ladders.of(10));
        weight(10, "of 0 tenths behind tails", Ladders.tossed(Ladders.of(0), "T"));
        weight(10, "of 10 tenths behind heads", Ladders.tossed(Ladders.of(10), "H"));
        OddsLadder out = Ladders.tossed(Ladders.of(0, 10), "H");
        Expect.equal("P16: weightOf 0 tenths behind heads", out.weightOf(0, 0), 0L);
        Expect.equal("P16: weightOf 10 tenths behind heads", out.weightOf(0, 1), 10L);
        out.undo();
        out.toss(false);
        Expect.equal("P16: weightOf 0 tenths behind tails", out.weightOf(0, 0), 10L);
        Expect.equal("P16: weightOf 10 tenths behind tails", out.weightOf(0, 1), 0L);
    }

    private static void smallestAndGreatestWeights() {
        weight(1, "of one coin and one school", Ladders.of(5));
        weight(1, "of 1 tenth and 12 heads", Ladders.tossed(Ladders.of(1), "HHHHHHHHHHHH"));
        weight(1, "of 9 tenths and 12 tails", Ladders.tossed(Ladders.of(9), "TTTTTTTTTTTT"));
        OddsLadder heavy = Ladders.tossed(Ladders.heaviest(), "HHHHHHHHHHHH");
        Expect.equal("P16: the greatest weightOf", heavy.weightOf(0, 0), 81_000_000_000_000L);
        Expect.equal("P17: the greatest coinWeight", heavy.coinWeight(0), 324_000_000_000_000L);
        Expect.equal("P18: the greatest schoolWeight", heavy.schoolWeight(0),
            648_000_000_000_000L);
        Expect.equal("P19: the greatest wholeWeight", heavy.wholeWeight(), 2_592_000_000_000_000L);
    }

    private static void weightNumbers() {
        Supplier<OddsLadder> x = Ladders::threeCoins;
        Expect.equal("P16: weightOf(0, 0), just inside", x.get().weightOf(0, 0), 3L);
        Expect.equal("P16: weightOf(1, 2), just inside", x.get().weightOf(1, 2), 1L);
        Expect.equal("P17: coinWeight(0), just inside", x.get().coinWeight(0), 4L);
        Expect.equal("P17: coinWeight(2) of three, just inside", x.get().coinWeight(2), 1L);
        Expect.equal("P18: schoolWeight(0), just inside", x.get().schoolWeight(0), 6L);
        Expect.equal("P18: schoolWeight(1) of two, just inside", x.get().schoolWeight(1), 11L);
        for (int coin : new int[] {-1, 3, 7, 8, Integer.MIN_VALUE, Integer.MAX_VALUE}) {
            Refused.noSuch("P16: weightOf(0, " + coin + ")", x, y -> y.weightOf(0, coin));
            Refused.noSuch("P17: coinWeight(" + coin + ")", x, y -> y.coinWeight(coin));
            Refused.noSuch("P20: isRuledOut(" + coin + ")", x, y -> y.isRuledOut(coin));
            Refused.noSuch("P22: coinPercent(" + coin + ")", x, y -> y.coinPercent(coin));
            Refused.noSuch("P26: oddsAgainst(" + coin + ", 0)", x, y -> y.oddsAgainst(coin, 0));
            Refused.noSuch("P26: oddsAgainst(0, " + coin + ")", x, y -> y.oddsAgainst(0, coin));
        }
        for (int school : new int[] {-1, 2, 3, 4, Integer.MIN_VALUE, Integer.MAX_VALUE}) {
            Refused.noSuch("P16: weightOf(" + school + ", 0)", x, y -> y.weightOf(school, 0));
            Refused.noSuch("P18: schoolWeight(" + school + ")", x, y -> y.schoolWeight(school));
            Refused.noSuch("P23: schoolPercent(" + school + ")", x, y -> y.schoolPercent(school));
        }
        Refused.noSuch("P16: weightOf(2, 3), neither", x, y -> y.weightOf(2, 3));
    }

    private static void ruledOutOrJustNot() {
        Expect.equal("P20: isRuledOut of weight 1", Ladders.of(5).isRuledOut(0), false);
        Expect.equal("P20: isRuledOut of weight 0", Ladders.weightless().isRuledOut(0), true);
        Expect.equal("P20: isRuledOut of weight 1 behind 12 tosses",
            Ladders.tossed(Ladders.of(1), "HHHHHHHHHHHH").isRuledOut(0), false);
        OddsLadder bySecond = Ladders.weightless();
        bySecond.addSchool(1);
        Expect.equal("P20: isRuledOut of a share by the second school alone",
            bySecond.isRuledOut(0), false);
        bySecond.setShare(1, 0, 0);
        Expect.equal("P20: isRuledOut of a share by neither", bySecond.isRuledOut(0), true);
        OddsLadder x = Ladders.tossed(Ladders.of(0, 10, 5), "HT");
        x.undo();
        Expect.equal("P20: isRuledOut once its tails is undone", x.isRuledOut(1), false);
        Expect.equal("P20: isRuledOut by the heads that stays", x.isRuledOut(0), true);
    }

    private static void howManyAreRuledOut() {
        Expect.equal("P21: ruledOut() of none", Ladders.of(1, 2, 3).ruledOut(), 0);
        Expect.equal("P21: ruledOut() of one", ofTwo(0, 1).ruledOut(), 1);
        Expect.equal("P21: ruledOut() of the last one", ofTwo(1, 0).ruledOut(), 1);
        Expect.equal("P21: ruledOut() of all", ofTwo(0, 0).ruledOut(), 2);
        Expect.equal("P21: ruledOut() of 8 without a school",
            Ladders.coinsAlone(1, 2, 3, 4, 5, 6, 7, 8).ruledOut(), 8);
        Expect.equal("P21: ruledOut() of seven in eight",
            Ladders.tossed(Ladders.of(0, 0, 0, 0, 0, 0, 0, 1), "H").ruledOut(), 7);
    }

    private static void coinPercent() {
        Expect.equal("P22: all of it", Ladders.of(5).coinPercent(0), 100);
        Expect.equal("P22: none of it", ofTwo(0, 1).coinPercent(0), 0);
        Expect.equal("P22: all of it beside one that is ruled out", ofTwo(0, 1).coinPercent(1), 100);
        Expect.equal("P22: just half", ofTwo(4, 4).coinPercent(0), 50);
        Expect.equal("P22: a little less than half", ofTwo(4, 5).coinPercent(0), 44);
        Expect.equal("P22: a little more than half", ofTwo(5, 4).coinPercent(0), 55);
        Expect.equal("P22: a third, cut", ofTwo(1, 2).coinPercent(0), 33);
        Expect.equal("P22: two thirds, cut", ofTwo(1, 2).coinPercent(1), 66);
        // 1 and 729 of 730: 0.13 and 99.86 percent.
        OddsLadder far = Ladders.tossed(Ladders.of(1, 9), "HHH");
        Expect.equal("P22: less than one percent", far.coinPercent(0), 0);
        Expect.equal("P22: less than all of it", far.coinPercent(1), 99);
        // 1 of 100, and 1 of 112.
        Expect.equal("P22: just one percent", hundred().coinPercent(0), 1);
        Expect.equal("P22: just 99 percent", hundred().coinPercent(1), 99);
        OddsLadder less = hundred();
        less.addCoin(5);
        Expect.equal("P22: less than one percent by a third coin", less.coinPercent(0), 0);
    }

    /** Coin 0 weighs 1, coin 1 weighs 99; the schools weigh 1, 81 and 18. */
    private static OddsLadder hundred() {
        OddsLadder x = Ladders.shared(new int[] {5, 5}, 1, 0);
        x.addSchool(9);
        x.addSchool(2);
        for (int school = 1; school < 3; school++) {
            x.setShare(school, 0, 0);
            x.setShare(school, 1, 9);
        }
        return x;
    }

    private static void schoolPercent() {
        Expect.equal("P23: all of it", Ladders.of(5).schoolPercent(0), 100);
        OddsLadder x = Ladders.of(5);
        x.addSchool(2);
        Expect.equal("P23: a third, cut", x.schoolPercent(0), 33);
        Expect.equal("P23: two thirds, cut", x.schoolPercent(1), 66);
        x.setShare(0, 0, 2);
        Expect.equal("P23: just half", x.schoolPercent(0), 50);
        x.setShare(0, 0, 0);
        Expect.equal("P23: none of it", x.schoolPercent(0), 0);
        Expect.equal("P23: all of it beside one that is ruled out", x.schoolPercent(1), 100);
        Expect.equal("P23: just one percent", hundred().schoolPercent(0), 1);
        Expect.equal("P23: just 81 percent", hundred().schoolPercent(1), 81);
    }

    private static void percentsWhereSeveralApply() {
        for (int wrong : new int[] {-1, 1, Integer.MIN_VALUE, Integer.MAX_VALUE}) {
            Refused.noSuch("P22: no such coin, and no weight", Ladders::weightless,
                x -> x.coinPercent(wrong));
            Refused.noSuch("P23: no such school, and no weight", Ladders::weightless,
                x -> x.schoolPercent(wrong));
        }
        Refused.badState("P22: a coin, and no weight", Ladders::weightless, x -> x.coinPercent(0));
        Refused.badState("P23: a school, and no weight", Ladders::weightless,
            x -> x.schoolPercent(0));
    }

    private static void leadingCoin() {
        Expect.equal("P24: of a whole weight of 1", Ladders.of(5).leadingCoin(), 0);
        Refused.badState("P24: of a whole weight of 0", Ladders::weightless, x -> x.leadingCoin());
        Expect.equal("P24: more by 1", ofTwo(4, 5).leadingCoin(), 1);
        Expect.equal("P24: level", ofTwo(5, 5).leadingCoin(), 0);
        Expect.equal("P24: less by 1", ofTwo(5, 4).leadingCoin(), 0);
        Expect.equal("P24: the first is ruled out", ofTwo(0, 1).leadingCoin(), 1);
        Expect.equal("P24: eight that are level",
            Ladders.of(5, 5, 5, 5, 5, 5, 5, 5).leadingCoin(), 0);
        Expect.equal("P24: the eighth leads",
            Ladders.shared(new int[] {5, 5, 5, 5, 5, 5, 5, 5}, 8, 8, 8, 8, 8, 8, 8, 9)
                .leadingCoin(), 7);
        Expect.equal("P24: the middle ones are level",
            Ladders.shared(new int[] {5, 5, 5, 5}, 2, 7, 7, 6).leadingCoin(), 1);
        // 24 * 24 each, by tosses that stand in another order.
        Expect.equal("P24: level behind tosses",
            Ladders.tossed(Ladders.of(6, 4), "TTHH").leadingCoin(), 0);
    }

    private static OddsLadder schools(int... odds) {
        OddsLadder x = new OddsLadder();
        x.addCoin(5);
        for (int each : odds) {
            x.addSchool(each);
        }
        return x;
    }

    private static void leadingSchool() {
        Expect.equal("P25: of a whole weight of 1", schools(1).leadingSchool(), 0);
        Refused.badState("P25: of a whole weight of 0", Ladders::weightless,
            x -> x.leadingSchool());
        Expect.equal("P25: more by 1", schools(4, 5).leadingSchool(), 1);
        Expect.equal("P25: level", schools(5, 5).leadingSchool(), 0);
        Expect.equal("P25: less by 1", schools(5, 4).leadingSchool(), 0);
        Expect.equal("P25: four that are level", schools(5, 5, 5, 5).leadingSchool(), 0);
        Expect.equal("P25: the fourth leads", schools(8, 8, 8, 9).leadingSchool(), 3);
        Expect.equal("P25: the middle ones are level", schools(2, 7, 7, 6).leadingSchool(), 1);
        OddsLadder x = schools(9, 1);
        x.setShare(0, 0, 0);
        Expect.equal("P25: the first gives no share", x.leadingSchool(), 1);
    }

    private static void oddsAgainstCut() {
        Expect.equal("P26: a little less than once", ofTwo(8, 9).oddsAgainst(0, 1), 0L);
        Expect.equal("P26: just once", ofTwo(9, 9).oddsAgainst(0, 1), 1L);
        Expect.equal("P26: a little less than twice", ofTwo(7, 4).oddsAgainst(0, 1), 1L);
        Expect.equal("P26: just twice", ofTwo(8, 4).oddsAgainst(0, 1), 2L);
        Expect.equal("P26: a little more than twice", ofTwo(9, 4).oddsAgainst(0, 1), 2L);
        Expect.equal("P26: the same one", ofTwo(9, 4).oddsAgainst(1, 1), 1L);
        Expect.equal("P26: the same one, of weight 1", Ladders.of(5).oddsAgainst(0, 0), 1L);
        OddsLadder far = Ladders.tossed(Ladders.shared(new int[] {10, 1}, 9, 1), "HHHHHHHHHHHH");
        Expect.equal("P26: far beyond an int", far.oddsAgainst(0, 1), 9_000_000_000_000L);
        Expect.equal("P26: far below once", far.oddsAgainst(1, 0), 0L);
    }

    private static void oddsAgainstRuledOut() {
        Expect.equal("P26: the first one is ruled out", ofTwo(0, 1).oddsAgainst(0, 1), 0L);
        Refused.badState("P26: the second one is ruled out", () -> ofTwo(1, 0),
            x -> x.oddsAgainst(0, 1));
        Refused.badState("P26: both are ruled out", () -> ofTwo(0, 0), x -> x.oddsAgainst(0, 1));
        Refused.badState("P26: the same one is ruled out", () -> ofTwo(0, 1),
            x -> x.oddsAgainst(0, 0));
        Refused.badState("P26: the second one is ruled out by a toss",
            () -> Ladders.tossed(Ladders.of(5, 10), "T"), x -> x.oddsAgainst(0, 1));
        Refused.badState("P26: of the full ladder, ruled out", Ladders::fullTossed,
            x -> x.oddsAgainst(2, 1));
    }

    private static void oddsAgainstWhereSeveralApply() {
        for (int wrong : new int[] {-1, 2, Integer.MIN_VALUE, Integer.MAX_VALUE}) {
            Refused.noSuch("P26: no such first one, the second ruled out", () -> ofTwo(1, 0),
                x -> x.oddsAgainst(wrong, 1));
            Refused.noSuch("P26: no such second one, the first ruled out", () -> ofTwo(1, 0),
                x -> x.oddsAgainst(1, wrong));
            Refused.noSuch("P26: neither is there, and no weight", Ladders::weightless,
                x -> x.oddsAgainst(wrong, wrong));
        }
    }
}
