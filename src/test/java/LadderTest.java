/** Promises 1 to 4: a new object, addCoin, addSchool, setShare. */
public final class LadderTest {
    public static void main(String[] args) {
        newObject();
        addCoin();
        addCoinRefused();
        addSchool();
        addSchoolRefused();
        setShare();
        setShareRefused();
        Expect.finish();
    }

    private static void newObject() {
        OddsLadder x = Ladders.empty();
        Expect.equal("coins of a new ladder", x.coins(), 0);
        Expect.equal("schools of a new ladder", x.schools(), 0);
        Expect.equal("tosses of a new ladder", x.tosses(), 0);
        Expect.equal("heads of a new ladder", x.heads(), 0);
        Expect.equal("wholeWeight of a new ladder", x.wholeWeight(), 0L);
        OddsLadder other = Ladders.threeCoins();
        Expect.equal("coins of one ladder beside another", x.coins(), 0);
        Expect.equal("coins of the other", other.coins(), 3);
    }

    private static void addCoin() {
        OddsLadder x = Ladders.empty();
        int[] tenths = {0, 10, 5, 5, 1, 9, 3, 7};
        for (int coin = 0; coin < 8; coin++) {
            Expect.equal("addCoin", x.addCoin(tenths[coin]), coin);
            Expect.equal("coins behind addCoin", x.coins(), coin + 1);
        }
        for (int coin = 0; coin < 8; coin++) {
            Expect.equal("tenthsOf(" + coin + ")", x.tenthsOf(coin), tenths[coin]);
        }
        sharesAreOneWhicheverCameFirst();
    }

    private static void sharesAreOneWhicheverCameFirst() {
        OddsLadder x = Ladders.empty();
        x.addCoin(4);
        x.addSchool(2);
        x.setShare(0, 0, 7);
        x.addCoin(6);
        x.addSchool(3);
        Expect.equal("the share that was set", x.shareOf(0, 0), 7);
        Expect.equal("the share of a coin behind its school", x.shareOf(0, 1), 1);
        Expect.equal("the share of a school behind its coin", x.shareOf(1, 0), 1);
        Expect.equal("the share of the newest two", x.shareOf(1, 1), 1);
    }

    private static void addCoinRefused() {
        OddsLadder x = Ladders.of(5);
        long before = x.digest();
        int[] wrong = {-1, 11, 100, Integer.MIN_VALUE, Integer.MAX_VALUE};
        for (int tenths : wrong) {
            Expect.badArgument("addCoin(" + tenths + ")", () -> x.addCoin(tenths));
        }
        Expect.equal("digest behind refused coins", x.digest(), before);
        x.toss(true);
        Expect.badState("addCoin(5) with a toss", () -> x.addCoin(5));
        Expect.badArgument("addCoin(11) with a toss", () -> x.addCoin(11));
        Expect.equal("coins behind refused coins", x.coins(), 1);
        x.undo();
        Expect.equal("addCoin(5) once the toss is undone", x.addCoin(5), 1);

        OddsLadder full = Ladders.heaviest();
        before = full.digest();
        Expect.badState("a ninth coin", () -> full.addCoin(5));
        Expect.badArgument("a ninth coin of -1", () -> full.addCoin(-1));
        Expect.equal("digest behind a ninth coin", full.digest(), before);
    }

    private static void addSchool() {
        OddsLadder x = Ladders.empty();
        int[] odds = {1, 9, 4, 4};
        for (int school = 0; school < 4; school++) {
            Expect.equal("addSchool", x.addSchool(odds[school]), school);
            Expect.equal("schools behind addSchool", x.schools(), school + 1);
        }
        for (int school = 0; school < 4; school++) {
            Expect.equal("oddsOf(" + school + ")", x.oddsOf(school), odds[school]);
        }
        for (int coin = 0; coin < 8; coin++) {
            x.addCoin(5);
            for (int school = 0; school < 4; school++) {
                Expect.equal("a share at first", x.shareOf(school, coin), 1);
            }
        }
    }

    private static void addSchoolRefused() {
        OddsLadder x = Ladders.of(5);
        long before = x.digest();
        int[] wrong = {-1, 0, 10, Integer.MIN_VALUE, Integer.MAX_VALUE};
        for (int odds : wrong) {
            Expect.badArgument("addSchool(" + odds + ")", () -> x.addSchool(odds));
        }
        Expect.equal("digest behind refused schools", x.digest(), before);
        x.toss(false);
        Expect.badState("addSchool(5) with a toss", () -> x.addSchool(5));
        Expect.badArgument("addSchool(0) with a toss", () -> x.addSchool(0));
        Expect.equal("schools behind refused schools", x.schools(), 1);
        x.strike(0);
        Expect.equal("addSchool(5) once the toss is struck", x.addSchool(5), 1);

        OddsLadder full = Ladders.heaviest();
        before = full.digest();
        Expect.badState("a fifth school", () -> full.addSchool(1));
        Expect.badArgument("a fifth school of odds 10", () -> full.addSchool(10));
        Expect.equal("digest behind a fifth school", full.digest(), before);
    }

    private static void setShare() {
        OddsLadder x = Ladders.threeCoins();
        Expect.equal("setShare from 9", x.setShare(1, 1, 4), 9);
        Expect.equal("setShare from 4", x.setShare(1, 1, 4), 4);
        Expect.equal("setShare from 0", x.setShare(0, 2, 9), 0);
        Expect.equal("setShare from 1", x.setShare(1, 0, 0), 1);
        int[][] due = {{1, 1, 9}, {0, 4, 1}};
        for (int school = 0; school < 2; school++) {
            for (int coin = 0; coin < 3; coin++) {
                Expect.equal("shareOf", x.shareOf(school, coin), due[school][coin]);
            }
        }
    }

    private static void setShareRefused() {
        OddsLadder x = Ladders.threeCoins();
        long before = x.digest();
        int[] wrongShares = {-1, 10, Integer.MIN_VALUE, Integer.MAX_VALUE};
        setShareWithoutSuch(x, 5);
        setShareWithoutSuch(x, 10);
        for (int share : wrongShares) {
            Expect.badArgument("setShare(1, 2, " + share + ")", () -> x.setShare(1, 2, share));
        }
        Expect.equal("digest behind refused shares", x.digest(), before);
        x.toss(true);
        before = x.digest();
        setShareWithoutSuch(x, 5);
        setShareWithoutSuch(x, -1);
        Expect.badArgument("setShare(0, 0, 10) with a toss", () -> x.setShare(0, 0, 10));
        Expect.badArgument("setShare(0, 0, -1) with a toss", () -> x.setShare(0, 0, -1));
        Expect.badState("setShare(0, 0, 9) with a toss", () -> x.setShare(0, 0, 9));
        Expect.badState("setShare(0, 0, 1) with a toss", () -> x.setShare(0, 0, 1));
        Expect.equal("digest behind shares refused with a toss", x.digest(), before);
    }

    private static void setShareWithoutSuch(OddsLadder x, int share) {
        int[][] wrong = {{-1, 0}, {2, 0}, {0, -1}, {0, 3}, {2, 3}, {1, 7}, {3, 1}, {1, 2000},
            {Integer.MIN_VALUE, 0}, {0, Integer.MIN_VALUE}, {Integer.MAX_VALUE, Integer.MAX_VALUE}};
        for (int[] at : wrong) {
            Expect.noSuch("setShare(" + at[0] + ", " + at[1] + ", " + share + ")",
                () -> x.setShare(at[0], at[1], share));
        }
    }
}
