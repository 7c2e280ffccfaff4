/** The limits of "Terms" all at once, and the 512 calls that an object is promised for. */
public final class TermsTest {
    private static final int CALLS = 512;

    public static void main(String[] args) {
        limits();
        lastCallThatIsPromised();
        manyCallsLeaveNothingBehind();
        objectsShareNothing();
        Expect.finish();
    }

    /** One that goes past a limit, and goes on, has all up to the limit and nothing more. */
    private static void limits() {
        OddsLadder x = new OddsLadder();
        int coins = 0;
        for (int tenths = -2; tenths <= 12; tenths++) {
            int each = tenths;
            coins += Expect.outcome(() -> x.addCoin(each)) instanceof Integer ? 1 : 0;
        }
        Expect.equal("8 coins of the 11 that are asked for", coins, 8);
        Expect.equal("the first one's tenths", x.tenthsOf(0), 0);
        Expect.equal("the last one's tenths", x.tenthsOf(7), 7);
        int schools = 0;
        for (int odds = -2; odds <= 12; odds++) {
            int each = odds;
            schools += Expect.outcome(() -> x.addSchool(each)) instanceof Integer ? 1 : 0;
        }
        Expect.equal("4 schools of the 9 that are asked for", schools, 4);
        Expect.equal("the first one's odds", x.oddsOf(0), 1);
        Expect.equal("the last one's odds", x.oddsOf(3), 4);
        int tosses = 0;
        for (int toss = 0; toss < 20; toss++) {
            boolean isHeads = toss % 2 == 0;
            tosses += Expect.outcome(() -> x.toss(isHeads)) instanceof Integer ? 1 : 0;
        }
        Expect.equal("12 tosses of the 20 that are asked for", tosses, 12);
        Expect.equal("the row of them", Ladders.row(x), "HTHTHTHTHTHT");
    }

    private static void lastCallThatIsPromised() {
        // 4 calls to build; 507 more to toss, undo and be refused; the digest is the last.
        OddsLadder x = Ladders.shared(new int[] {4, 6}, 9);
        for (int call = 4; call < CALLS - 1; call++) {
            boolean isHeads = call % 3 == 0;
            if (call % 40 < 20) {
                Expect.outcome(() -> x.toss(isHeads));
            } else {
                Expect.outcome(x::undo);
            }
        }
        OddsLadder twin = Ladders.shared(new int[] {4, 6}, 9);
        // The last round began at call 480 and noted 12; those from 500 on undid 11 of them.
        twin.toss(true);
        Expect.equal("the digest that is the 512th call", x.digest(), twin.digest());
    }

    private static void manyCallsLeaveNothingBehind() {
        OddsLadder x = Ladders.full();
        long before = x.digest();
        for (int round = 0; round < 100; round++) {
            x.toss(round % 2 == 0);
            if (round % 4 < 2) {
                x.undo();
            } else {
                x.strike(0);
            }
        }
        Expect.equal("the digest behind 100 tosses that are gone", x.digest(), before);
        for (int round = 0; round < 100; round++) {
            Expect.badState("P2: a ninth coin, again and again", () -> x.addCoin(5));
        }
        Expect.equal("the digest behind 100 refused coins", x.digest(), before);
    }

    private static void objectsShareNothing() {
        OddsLadder one = Ladders.fullTossed();
        OddsLadder other = new OddsLadder();
        long empty = other.digest();
        long full = one.digest();
        other.addCoin(5);
        other.addSchool(9);
        other.setShare(0, 0, 0);
        Expect.equal("P1: a ladder beside one that is changed", one.digest(), full);
        Expect.equal("P1: a new ladder beside a full one", new OddsLadder().digest(), empty);
    }
}
