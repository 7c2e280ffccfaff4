/** Ladders that several tests begin with. */
final class Ladders {
    private Ladders() {
    }

    static OddsLadder empty() {
        return new OddsLadder();
    }

    /** One school of odds 1, and coins of these tenths. */
    static OddsLadder of(int... tenths) {
        OddsLadder ladder = new OddsLadder();
        ladder.addSchool(1);
        for (int each : tenths) {
            ladder.addCoin(each);
        }
        return ladder;
    }

    /** Start weights by hand: coins 4, 12 and 1; schools 6 and 11; the whole 17. */
    static OddsLadder threeCoins() {
        OddsLadder ladder = new OddsLadder();
        ladder.addCoin(5);
        ladder.addCoin(9);
        ladder.addCoin(1);
        ladder.addSchool(3);
        ladder.addSchool(1);
        ladder.setShare(1, 1, 9);
        ladder.setShare(0, 2, 0);
        return ladder;
    }

    /** As full and as heavy as a ladder can be, but for its tosses. */
    static OddsLadder heaviest() {
        OddsLadder ladder = new OddsLadder();
        for (int coin = 0; coin < 8; coin++) {
            ladder.addCoin(10);
        }
        for (int school = 0; school < 4; school++) {
            ladder.addSchool(9);
            for (int coin = 0; coin < 8; coin++) {
                ladder.setShare(school, coin, 9);
            }
        }
        return ladder;
    }

    /** 8 coins and 4 schools, all of the limits' ends among their numbers. */
    static OddsLadder full() {
        OddsLadder ladder = new OddsLadder();
        int[] tenths = {0, 10, 5, 4, 6, 1, 9, 5};
        int[] odds = {1, 9, 4, 6};
        for (int each : tenths) {
            ladder.addCoin(each);
        }
        for (int each : odds) {
            ladder.addSchool(each);
        }
        for (int school = 0; school < 4; school++) {
            for (int coin = 0; coin < 8; coin++) {
                ladder.setShare(school, coin, (3 * school + 7 * coin) % 10);
            }
        }
        return ladder;
    }

    /** The full ladder with its 12 tosses. */
    static OddsLadder fullTossed() {
        return tossed(full(), "HTHHTTHTHHTH");
    }

    /** One coin and one school that gives it no share: the whole weight is 0. */
    static OddsLadder weightless() {
        OddsLadder ladder = of(5);
        ladder.setShare(0, 0, 0);
        return ladder;
    }

    /** Coins alone, of these tenths: no school gives them weight. */
    static OddsLadder coinsAlone(int... tenths) {
        OddsLadder ladder = new OddsLadder();
        for (int each : tenths) {
            ladder.addCoin(each);
        }
        return ladder;
    }

    /** One school of odds 1 that gives each coin of these tenths the share beside it. */
    static OddsLadder shared(int[] tenths, int... shares) {
        OddsLadder ladder = of(tenths);
        for (int coin = 0; coin < shares.length; coin++) {
            ladder.setShare(0, coin, shares[coin]);
        }
        return ladder;
    }

    /** Tosses these: H is heads, T tails. */
    static OddsLadder tossed(OddsLadder ladder, String tosses) {
        for (char each : tosses.toCharArray()) {
            ladder.toss(each == 'H');
        }
        return ladder;
    }

    static String row(OddsLadder ladder) {
        StringBuilder row = new StringBuilder();
        for (int toss = 0; toss < ladder.tosses(); toss++) {
            row.append(ladder.isHeads(toss) ? 'H' : 'T');
        }
        return row.toString();
    }
}
