import java.util.function.Function;

/** Promises 1 to 36 on a ladder with 8 coins, 4 schools and 12 tosses: none of them may be missed. */
public final class FullLadderTest {
    private static final String ROW = "HTHHTTHTHHTH";

    private final OddsLadder full = Ladders.fullTossed();
    private final NaiveLadder naive = naiveFull();

    public static void main(String[] args) {
        new FullLadderTest().whatThereIs();
        new FullLadderTest().ofEachCoin();
        new FullLadderTest().ofEachSchool();
        new FullLadderTest().ofEachToss();
        new FullLadderTest().ofAll();
        justOutside();
        Expect.finish();
    }

    /** The same ladder as Ladders.fullTossed(), for the model of the document. */
    private static NaiveLadder naiveFull() {
        NaiveLadder ladder = new NaiveLadder();
        for (int tenths : new int[] {0, 10, 5, 4, 6, 1, 9, 5}) {
            ladder.addCoin(tenths);
        }
        for (int odds : new int[] {1, 9, 4, 6}) {
            ladder.addSchool(odds);
        }
        for (int school = 0; school < 4; school++) {
            for (int coin = 0; coin < 8; coin++) {
                ladder.setShare(school, coin, (3 * school + 7 * coin) % 10);
            }
        }
        for (char each : ROW.toCharArray()) {
            ladder.toss(each == 'H');
        }
        return ladder;
    }

    private static void alike(String what, Expect.Call asked, Expect.Call due) {
        Expect.answers(Expect.outcome(due), what + " of the full ladder", asked);
    }

    private void whatThereIs() {
        Expect.equal("P8: coins() of the full ladder", full.coins(), 8);
        Expect.equal("P9: schools() of the full ladder", full.schools(), 4);
        Expect.equal("P10: tosses() of the full ladder", full.tosses(), 12);
        Expect.equal("P11: heads() of the full ladder", full.heads(), 7);
        Expect.equal("the row of the full ladder", Ladders.row(full), ROW);
    }

    private void ofEachCoin() {
        for (int each = 0; each < 8; each++) {
            int coin = each;
            alike("P13: tenthsOf", () -> full.tenthsOf(coin), () -> naive.tenthsOf(coin));
            alike("P17: coinWeight", () -> full.coinWeight(coin), () -> naive.coinWeight(coin));
            alike("P20: isRuledOut", () -> full.isRuledOut(coin), () -> naive.isRuledOut(coin));
            alike("P22: coinPercent", () -> full.coinPercent(coin), () -> naive.coinPercent(coin));
            alike("P33: tossesToLead", () -> full.tossesToLead(coin),
                () -> naive.tossesToLead(coin));
            for (int one = 0; one < 8; one++) {
                int other = one;
                alike("P26: oddsAgainst", () -> full.oddsAgainst(coin, other),
                    () -> naive.oddsAgainst(coin, other));
            }
        }
    }

    private void ofEachSchool() {
        for (int each = 0; each < 4; each++) {
            int school = each;
            alike("P14: oddsOf", () -> full.oddsOf(school), () -> naive.oddsOf(school));
            alike("P18: schoolWeight", () -> full.schoolWeight(school),
                () -> naive.schoolWeight(school));
            alike("P23: schoolPercent", () -> full.schoolPercent(school),
                () -> naive.schoolPercent(school));
            for (int one = 0; one < 8; one++) {
                int coin = one;
                alike("P15: shareOf", () -> full.shareOf(school, coin),
                    () -> naive.shareOf(school, coin));
                alike("P16: weightOf", () -> full.weightOf(school, coin),
                    () -> naive.weightOf(school, coin));
            }
        }
    }

    private void ofEachToss() {
        for (int each = 0; each < 12; each++) {
            int toss = each;
            alike("P12: isHeads", () -> full.isHeads(toss), () -> naive.isHeads(toss));
            alike("P27: surpriseOf", () -> full.surpriseOf(toss), () -> naive.surpriseOf(toss));
        }
    }

    private void ofAll() {
        alike("P19: wholeWeight", full::wholeWeight, naive::wholeWeight);
        alike("P21: ruledOut", full::ruledOut, naive::ruledOut);
        alike("P24: leadingCoin", full::leadingCoin, naive::leadingCoin);
        alike("P25: leadingSchool", full::leadingSchool, naive::leadingSchool);
        alike("P28: allSurprise", full::allSurprise, naive::allSurprise);
        alike("P29: greatestSurprise", full::greatestSurprise, naive::greatestSurprise);
        alike("P30: headsPercent", full::headsPercent, naive::headsPercent);
        for (boolean isHeads : new boolean[] {true, false}) {
            alike("P31: wouldSurprise", () -> full.wouldSurprise(isHeads),
                () -> naive.wouldSurprise(isHeads));
            alike("P32: leaderBehind", () -> full.leaderBehind(isHeads),
                () -> naive.leaderBehind(isHeads));
        }
        alike("P34: decisiveTosses", full::decisiveTosses, naive::decisiveTosses);
        alike("P35: meanTenths", full::meanTenths, naive::meanTenths);
        alike("P36: digest", full::digest, naive::digest);
    }

    private static void refusedAt(int number, String what, Function<OddsLadder, Object> call) {
        Refused.noSuch(what + " with " + number + " on the full ladder", Ladders::fullTossed, call);
    }

    private static void justOutside() {
        for (int wrong : new int[] {-1, 8, Integer.MIN_VALUE, Integer.MAX_VALUE}) {
            refusedAt(wrong, "P13: tenthsOf", x -> x.tenthsOf(wrong));
            refusedAt(wrong, "P15: shareOf", x -> x.shareOf(3, wrong));
            refusedAt(wrong, "P16: weightOf", x -> x.weightOf(3, wrong));
            refusedAt(wrong, "P17: coinWeight", x -> x.coinWeight(wrong));
            refusedAt(wrong, "P20: isRuledOut", x -> x.isRuledOut(wrong));
            refusedAt(wrong, "P22: coinPercent", x -> x.coinPercent(wrong));
            refusedAt(wrong, "P26: oddsAgainst, first", x -> x.oddsAgainst(wrong, 2));
            refusedAt(wrong, "P26: oddsAgainst, second", x -> x.oddsAgainst(2, wrong));
            refusedAt(wrong, "P33: tossesToLead", x -> x.tossesToLead(wrong));
        }
        for (int wrong : new int[] {-1, 4, Integer.MIN_VALUE, Integer.MAX_VALUE}) {
            refusedAt(wrong, "P14: oddsOf", x -> x.oddsOf(wrong));
            refusedAt(wrong, "P15: shareOf", x -> x.shareOf(wrong, 7));
            refusedAt(wrong, "P16: weightOf", x -> x.weightOf(wrong, 7));
            refusedAt(wrong, "P18: schoolWeight", x -> x.schoolWeight(wrong));
            refusedAt(wrong, "P23: schoolPercent", x -> x.schoolPercent(wrong));
        }
        for (int wrong : new int[] {-1, 12, Integer.MIN_VALUE, Integer.MAX_VALUE}) {
            refusedAt(wrong, "P12: isHeads", x -> x.isHeads(wrong));
            refusedAt(wrong, "P27: surpriseOf", x -> x.surpriseOf(wrong));
            refusedAt(wrong, "P7: strike", x -> x.strike(wrong));
        }
    }
}
