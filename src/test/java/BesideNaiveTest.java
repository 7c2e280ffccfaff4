import java.util.Random;

/**
 * Long runs of drawn calls, each put to OddsLadder and to NaiveLadder: both must answer, or refuse,
 * alike. The draw has a fixed seed, so every run of this test is the same.
 */
public final class BesideNaiveTest {
    private static final int RUNS = 600;
    private static final int CALLS = 120;
    private static final int KINDS = 35;

    private final Random draw;
    private final OddsLadder ladder = new OddsLadder();
    private final NaiveLadder naive = new NaiveLadder();

    private BesideNaiveTest(long seed) {
        draw = new Random(seed);
    }

    public static void main(String[] args) {
        for (int run = 0; run < RUNS; run++) {
            new BesideNaiveTest(run).run(run);
        }
        Expect.finish();
    }

    private void run(int run) {
        build();
        for (int call = 0; call < CALLS; call++) {
            // One run in ten goes on to change the ladder at any time; the others mostly toss.
            int kind = draw.nextInt(3) == 0 ? 3 + draw.nextInt(2) : draw.nextInt(KINDS);
            if (run % 10 != 0 && kind < 3) {
                kind = 3;
            }
            one(kind, "run " + run + ", call " + call);
        }
    }

    private void build() {
        int coins = draw.nextInt(9);
        int schools = draw.nextInt(5);
        boolean coinsFirst = draw.nextBoolean();
        for (int coin = 0; coin < coins && coinsFirst; coin++) {
            one(0, "build");
        }
        for (int school = 0; school < schools; school++) {
            one(1, "build");
        }
        for (int coin = 0; coin < coins && !coinsFirst; coin++) {
            one(0, "build");
        }
        for (int shares = draw.nextInt(40); shares > 0; shares--) {
            one(2, "build");
        }
    }

    private int drawTenths() {
        int[] often = {0, 10, 5, 5, 4, 6, -1, 11};
        return draw.nextInt(3) == 0 ? often[draw.nextInt(often.length)] : draw.nextInt(11);
    }

    private int drawFrom(int low, int high) {
        return draw.nextInt(12) == 0 ? drawWild() : low + draw.nextInt(high - low + 1);
    }

    private int drawIndex(int count) {
        return draw.nextInt(8) == 0 ? count + draw.nextInt(3) - 1 : draw.nextInt(15) == 0
            ? drawWild() : count == 0 ? 0 : draw.nextInt(count);
    }

    private int drawWild() {
        int[] wild = {-1, 0, 9, 10, 11, 12, 13, 100, Integer.MIN_VALUE, Integer.MAX_VALUE};
        return wild[draw.nextInt(wild.length)];
    }

    private void alike(String what, Expect.Call asked, Expect.Call due) {
        Expect.answers(Expect.outcome(due), what, asked);
    }

    private void one(int kind, String at) {
        if (kind < 5) {
            change(kind, at);
        } else if (kind < 20) {
            askWhatThereIs(kind, at);
        } else {
            askWhatWouldBe(kind, at);
        }
    }

    private void change(int kind, String at) {
        int school = drawIndex(naive.odds.size());
        int coin = drawIndex(naive.tenths.size());
        int toss = drawIndex(naive.row.size());
        boolean isHeads = draw.nextBoolean();
        int tenths = drawTenths();
        int small = drawFrom(0, 9);
        switch (kind) {
            case 0 -> alike(at + ": addCoin(" + tenths + ")",
                () -> ladder.addCoin(tenths), () -> naive.addCoin(tenths));
            case 1 -> alike(at + ": addSchool(" + small + ")",
                () -> ladder.addSchool(small), () -> naive.addSchool(small));
            case 2 -> alike(at + ": setShare(" + school + ", " + coin + ", " + small + ")",
                () -> ladder.setShare(school, coin, small),
                () -> naive.setShare(school, coin, small));
            case 3 -> alike(at + ": toss(" + isHeads + ")",
                () -> ladder.toss(isHeads), () -> naive.toss(isHeads));
            default -> {
                if (draw.nextInt(3) == 0) {
                    alike(at + ": undo()", ladder::undo, naive::undo);
                } else if (draw.nextInt(3) == 0) {
                    alike(at + ": strike(" + toss + ")",
                        () -> ladder.strike(toss), () -> naive.strike(toss));
                }
            }
        }
        alike(at + ": digest()", ladder::digest, naive::digest);
    }

    private void askWhatThereIs(int kind, String at) {
        int school = drawIndex(naive.odds.size());
        int coin = drawIndex(naive.tenths.size());
        int toss = drawIndex(naive.row.size());
        String of = at + ", kind " + kind + ", school " + school + ", coin " + coin + ", toss " + toss;
        switch (kind) {
            case 5 -> alike(of, ladder::coins, naive.tenths::size);
            case 6 -> alike(of, ladder::schools, naive.odds::size);
            case 7 -> alike(of, ladder::tosses, naive.row::size);
            case 8 -> alike(of, ladder::heads, naive::heads);
            case 9 -> alike(of, () -> ladder.isHeads(toss), () -> naive.isHeads(toss));
            case 10 -> alike(of, () -> ladder.tenthsOf(coin), () -> naive.tenthsOf(coin));
            case 11 -> alike(of, () -> ladder.oddsOf(school), () -> naive.oddsOf(school));
            case 12 -> alike(of, () -> ladder.shareOf(school, coin), () -> naive.shareOf(school, coin));
            case 13 -> alike(of, () -> ladder.weightOf(school, coin),
                () -> naive.weightOf(school, coin));
            case 14 -> alike(of, () -> ladder.coinWeight(coin), () -> naive.coinWeight(coin));
            case 15 -> alike(of, () -> ladder.schoolWeight(school), () -> naive.schoolWeight(school));
            case 16 -> alike(of, ladder::wholeWeight, naive::wholeWeight);
            case 17 -> alike(of, () -> ladder.isRuledOut(coin), () -> naive.isRuledOut(coin));
            case 18 -> alike(of, ladder::ruledOut, naive::ruledOut);
            default -> alike(of, () -> ladder.surpriseOf(toss), () -> naive.surpriseOf(toss));
        }
    }

    private void askWhatWouldBe(int kind, String at) {
        int school = drawIndex(naive.odds.size());
        int coin = drawIndex(naive.tenths.size());
        int other = drawIndex(naive.tenths.size());
        boolean isHeads = draw.nextBoolean();
        String of = at + ", kind " + kind + ", school " + school + ", coin " + coin
            + ", other " + other + ", heads " + isHeads;
        switch (kind) {
            case 20 -> alike(of, () -> ladder.coinPercent(coin), () -> naive.coinPercent(coin));
            case 21 -> alike(of, () -> ladder.schoolPercent(school), () -> naive.schoolPercent(school));
            case 22 -> alike(of, ladder::leadingCoin, naive::leadingCoin);
            case 23 -> alike(of, ladder::leadingSchool, naive::leadingSchool);
            case 24, 25 -> alike(of, () -> ladder.oddsAgainst(coin, other),
                () -> naive.oddsAgainst(coin, other));
            case 26 -> alike(of, ladder::allSurprise, naive::allSurprise);
            case 27 -> alike(of, ladder::greatestSurprise, naive::greatestSurprise);
            case 28 -> alike(of, ladder::headsPercent, naive::headsPercent);
            case 29 -> alike(of, () -> ladder.wouldSurprise(isHeads),
                () -> naive.wouldSurprise(isHeads));
            case 30 -> alike(of, () -> ladder.leaderBehind(isHeads), () -> naive.leaderBehind(isHeads));
            case 31, 32 -> alike(of, () -> ladder.tossesToLead(coin), () -> naive.tossesToLead(coin));
            case 33 -> alike(of, ladder::decisiveTosses, naive::decisiveTosses);
            default -> alike(of, ladder::meanTenths, naive::meanTenths);
        }
    }
}
