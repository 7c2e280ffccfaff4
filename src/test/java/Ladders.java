/** Ladders that several tests begin with. */
final class Ladders {
    private Ladders() {
    }

    static OddsLadder empty() {
        return new OddsLadder();
    }

    /** One school of odds 1, and coins of these tenths. */
    static OddsLadder of(int... tenths) {
        OddsLadder ladder = new OddsLadder();
        ladder.addSchool(1);
        for (int each : tenths) {
            ladder.addCoin(each);
        }
        return ladder;
    }

    /** Start weights by hand: coins 4, 12 and 1; schools 6 and 11; the whole 17. */
    static OddsLadder threeCoins() {
        OddsLadder ladder = new OddsLadder();
        ladder.addCoin(5);
        ladder.addCoin(9);
        ladder.addCoin(1);
        ladder.addSchool(3);
        ladder.addSchool(1);
        ladder.setShare(1, 1, 9);
        ladder.setShare(0, 2, 0);
        return ladder;
    }

    /** As full and as heavy as a ladder can be, but for its tosses. */
    static OddsLadder heaviest() {
        OddsLadder ladder = new OddsLadder();
        for (int coin = 0; coin < 8; coin++) {
            ladder.addCoin(10);
        }
        for (int school = 0; school < 4; school++) {
            ladder.addSchool(9);
            for (int coin = 0; coin < 8; coin++) {
                ladder.setShare(school, coin, 9);
            }
        }
        return ladder;
    }

    /** Tosses these: H is heads, T tails. */
    static OddsLadder tossed(OddsLadder ladder, String tosses) {
        for (char each : tosses.toCharArray()) {
            ladder.toss(each == 'H');
        }
        return ladder;
    }

    static String row(OddsLadder ladder) {
        StringBuilder row = new StringBuilder();
        for (int toss = 0; toss < ladder.tosses(); toss++) {
            row.append(ladder.isHeads(toss) ? 'H' : 'T');
        }
        return row.toString();
    }
}
