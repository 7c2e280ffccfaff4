/**
 * A ladder of inference: coins on its lower rung, schools that give them other odds on its upper
 * one, and tosses that tell of both.
 */
public final class OddsLadder {
    private static final int MOST_COINS = 8;
    private static final int MOST_SCHOOLS = 4;
    private static final int MOST_TOSSES = 12;
    private static final int ALL_TENTHS = 10;
    private static final int MOST_ODDS = 9;
    private static final int MOST_SHARE = 9;
    private static final int FIRST_SHARE = 1;
    // A chance of 1 doubled so often is far above ten times the greatest whole weight, some 2.6e16.
    private static final int MOST_DOUBLINGS = 60;
    private static final int NONE = -1;
    private static final long DIGEST_START = 1913L;
    private static final long DIGEST_FACTOR = 31L;

    private final int[] coinTenths;
    private final int[] schoolOdds;
    private final int[][] shares;
    private final boolean[] tossHeads;
    private int coinCount;
    private int schoolCount;
    private int tossCount;

    public OddsLadder() {
        coinTenths = new int[MOST_COINS];
        schoolOdds = new int[MOST_SCHOOLS];
        shares = new int[MOST_SCHOOLS][MOST_COINS];
        tossHeads = new boolean[MOST_TOSSES];
        coinCount = 0;
        schoolCount = 0;
        tossCount = 0;
        // All at once: whether a coin or its school comes first, the share between them is there.
        for (int school = 0; school < MOST_SCHOOLS; school++) {
            for (int coin = 0; coin < MOST_COINS; coin++) {
                shares[school][coin] = FIRST_SHARE;
            }
        }
    }

    // ---- the ladder

    public int addCoin(int tenths) throws IllegalArgumentException, IllegalStateException {
        if (tenths < 0 || tenths > ALL_TENTHS) {
            throw new IllegalArgumentException("tenths are 0 to 10");
        }
        if (coinCount >= MOST_COINS) {
            throw new IllegalStateException("there are 8 coins");
        }
        needNoTosses();
        coinTenths[coinCount] = tenths;
        coinCount++;
        return coinCount - 1;
    }

    public int addSchool(int odds) throws IllegalArgumentException, IllegalStateException {
        if (odds < 1 || odds > MOST_ODDS) {
            throw new IllegalArgumentException("odds are 1 to 9");
        }
        if (schoolCount >= MOST_SCHOOLS) {
            throw new IllegalStateException("there are 4 schools");
        }
        needNoTosses();
        schoolOdds[schoolCount] = odds;
        schoolCount++;
        return schoolCount - 1;
    }

    public int setShare(int school, int coin, int share)
            throws IndexOutOfBoundsException, IllegalArgumentException, IllegalStateException {
        needSchool(school);
        needCoin(coin);
        if (share < 0 || share > MOST_SHARE) {
            throw new IllegalArgumentException("a share is 0 to 9");
        }
        needNoTosses();
        int before = shares[school][coin];
        shares[school][coin] = share;
        return before;
    }

    // ---- tosses

    public int toss(boolean isHeads) throws IllegalStateException {
        if (tossCount >= MOST_TOSSES) {
            throw new IllegalStateException("there are 12 tosses");
        }
        needPossible(isHeads);
        int surprise = surpriseBehind(isHeads, headsNow(), tailsNow());
        tossHeads[tossCount] = isHeads;
        tossCount++;
        return surprise;
    }

    public boolean undo() throws IllegalStateException {
        if (tossCount <= 0) {
            throw new IllegalStateException("there are no tosses");
        }
        tossCount--;
        return tossHeads[tossCount];
    }

    public int strike(int toss) throws IndexOutOfBoundsException {
        needToss(toss);
        tossCount--;
        for (int at = toss; at < tossCount; at++) {
            tossHeads[at] = tossHeads[at + 1];
        }
        return tossCount;
    }

    // ---- what there is

    public int coins() {
        return coinCount;
    }

    public int schools() {
        return schoolCount;
    }

    public int tosses() {
        return tossCount;
    }

    public int heads() {
        return headsNow();
    }

    public boolean isHeads(int toss) throws IndexOutOfBoundsException {
        needToss(toss);
        return tossHeads[toss];
    }

    public int tenthsOf(int coin) throws IndexOutOfBoundsException {
        needCoin(coin);
        return coinTenths[coin];
    }

    public int oddsOf(int school) throws IndexOutOfBoundsException {
        needSchool(school);
        return schoolOdds[school];
    }

    public int shareOf(int school, int coin) throws IndexOutOfBoundsException {
        needSchool(school);
        needCoin(coin);
        return shares[school][coin];
    }

    // ---- weights

    public long weightOf(int school, int coin) throws IndexOutOfBoundsException {
        needSchool(school);
        needCoin(coin);
        return startWeight(school, coin) * likelihood(coin, headsNow(), tailsNow());
    }

    public long coinWeight(int coin) throws IndexOutOfBoundsException {
        needCoin(coin);
        return coinWeightAt(coin, headsNow(), tailsNow());
    }

    public long schoolWeight(int school) throws IndexOutOfBoundsException {
        needSchool(school);
        return schoolWeightNow(school);
    }

    public long wholeWeight() {
        return wholeNow();
    }

    public boolean isRuledOut(int coin) throws IndexOutOfBoundsException {
        needCoin(coin);
        return coinWeightAt(coin, headsNow(), tailsNow()) == 0;
    }

    public int ruledOut() {
        int heads = headsNow();
        int tails = tailsNow();
        int count = 0;
        for (int coin = 0; coin < coinCount; coin++) {
            if (coinWeightAt(coin, heads, tails) == 0) {
                count++;
            }
        }
        return count;
    }

    public int coinPercent(int coin) throws IndexOutOfBoundsException, IllegalStateException {
        needCoin(coin);
        return percent(coinWeightAt(coin, headsNow(), tailsNow()), wholeNow());
    }

    public int schoolPercent(int school) throws IndexOutOfBoundsException, IllegalStateException {
        needSchool(school);
        return percent(schoolWeightNow(school), wholeNow());
    }

    public int leadingCoin() throws IllegalStateException {
        int leader = leaderAt(headsNow(), tailsNow());
        if (leader == NONE) {
            throw new IllegalStateException("the whole weight is 0");
        }
        return leader;
    }

    public int leadingSchool() throws IllegalStateException {
        int leader = NONE;
        long greatest = 0;
        for (int school = 0; school < schoolCount; school++) {
            long weight = schoolWeightNow(school);
            if (weight > greatest) {
                greatest = weight;
                leader = school;
            }
        }
        if (leader == NONE) {
            throw new IllegalStateException("the whole weight is 0");
        }
        return leader;
    }

    public long oddsAgainst(int coin, int other)
            throws IndexOutOfBoundsException, IllegalStateException {
        needCoin(coin);
        needCoin(other);
        int heads = headsNow();
        int tails = tailsNow();
        long otherWeight = coinWeightAt(other, heads, tails);
        if (otherWeight == 0) {
            throw new IllegalStateException("the second coin is ruled out");
        }
        return coinWeightAt(coin, heads, tails) / otherWeight;
    }

    // ---- surprises

    public int surpriseOf(int toss) throws IndexOutOfBoundsException {
        needToss(toss);
        return surpriseAt(toss);
    }

    public int allSurprise() {
        int sum = 0;
        for (int toss = 0; toss < tossCount; toss++) {
            sum += surpriseAt(toss);
        }
        return sum;
    }

    public int greatestSurprise() {
        int found = NONE;
        int greatest = -1;
        for (int toss = 0; toss < tossCount; toss++) {
            int surprise = surpriseAt(toss);
            if (surprise > greatest) {
                greatest = surprise;
                found = toss;
            }
        }
        return found;
    }

    public int headsPercent() throws IllegalStateException {
        int heads = headsNow();
        int tails = tailsNow();
        long chanceOfHeads = chance(true, heads, tails);
        return percent(chanceOfHeads, chanceOfHeads + chance(false, heads, tails));
    }

    public int wouldSurprise(boolean isHeads) throws IllegalStateException {
        needPossible(isHeads);
        return surpriseBehind(isHeads, headsNow(), tailsNow());
    }

    // ---- what would be

    public int leaderBehind(boolean isHeads) throws IllegalStateException {
        needPossible(isHeads);
        return isHeads
            ? leaderAt(headsNow() + 1, tailsNow())
            : leaderAt(headsNow(), tailsNow() + 1);
    }

    public int tossesToLead(int coin) throws IndexOutOfBoundsException {
        needCoin(coin);
        int heads = headsNow();
        int tails = tailsNow();
        for (int more = 0; more <= MOST_TOSSES - tossCount; more++) {
            if (leaderAt(heads + more, tails) == coin || leaderAt(heads, tails + more) == coin) {
                return more;
            }
        }
        return NONE;
    }

    public int decisiveTosses() {
        int heads = headsNow();
        int tails = tailsNow();
        int leader = leaderAt(heads, tails);
        int count = 0;
        for (int toss = 0; toss < tossCount; toss++) {
            int leaderWithout = tossHeads[toss]
                ? leaderAt(heads - 1, tails)
                : leaderAt(heads, tails - 1);
            if (leaderWithout != leader) {
                count++;
            }
        }
        return count;
    }

    public double meanTenths() throws IllegalStateException {
        long whole = wholeNow();
        if (whole == 0) {
            throw new IllegalStateException("the whole weight is 0");
        }
        return (double) chance(true, headsNow(), tailsNow()) / (double) whole;
    }

    public long digest() {
        long d = DIGEST_START;
        d = digestWith(d, coins());
        d = digestWith(d, schools());
        d = digestWith(d, tosses());
        d = digestWith(d, heads());
        d = digestWith(d, wholeWeight());
        d = digestWith(d, ruledOut());
        d = digestWith(d, allSurprise());
        d = digestWith(d, decisiveTosses());
        d = digestWithCoins(d);
        d = digestWithSchools(d);
        return digestWithTosses(d);
    }

    // ---- what is refused

    private void needCoin(int coin) {
        if (coin < 0 || coin >= coinCount) {
            throw new IndexOutOfBoundsException("there is no such coin");
        }
    }

    private void needSchool(int school) {
        if (school < 0 || school >= schoolCount) {
            throw new IndexOutOfBoundsException("there is no such school");
        }
    }

    private void needToss(int toss) {
        if (toss < 0 || toss >= tossCount) {
            throw new IndexOutOfBoundsException("there is no such toss");
        }
    }

    private void needNoTosses() {
        if (tossCount > 0) {
            throw new IllegalStateException("there are tosses");
        }
    }

    private void needPossible(boolean isHeads) {
        if (chance(isHeads, headsNow(), tailsNow()) == 0) {
            throw new IllegalStateException("such a toss cannot be");
        }
    }

    // ---- weights by so many heads and tails: the order of tosses does not matter to a weight

    private int headsAhead(int toss) {
        int count = 0;
        for (int at = 0; at < toss; at++) {
            if (tossHeads[at]) {
                count++;
            }
        }
        return count;
    }

    private int headsNow() {
        return headsAhead(tossCount);
    }

    private int tailsNow() {
        return tossCount - headsAhead(tossCount);
    }

    private long startWeight(int school, int coin) {
        return (long) schoolOdds[school] * shares[school][coin];
    }

    private long likelihood(int coin, int heads, int tails) {
        int tenths = coinTenths[coin];
        long product = 1;
        for (int i = 0; i < heads; i++) {
            product *= tenths;
        }
        for (int i = 0; i < tails; i++) {
            product *= ALL_TENTHS - tenths;
        }
        return product;
    }

    private long coinWeightAt(int coin, int heads, int tails) {
        long start = 0;
        for (int school = 0; school < schoolCount; school++) {
            start += startWeight(school, coin);
        }
        return start * likelihood(coin, heads, tails);
    }

    private long schoolWeightNow(int school) {
        int heads = headsNow();
        int tails = tailsNow();
        long sum = 0;
        for (int coin = 0; coin < coinCount; coin++) {
            sum += startWeight(school, coin) * likelihood(coin, heads, tails);
        }
        return sum;
    }

    private long wholeAt(int heads, int tails) {
        long sum = 0;
        for (int coin = 0; coin < coinCount; coin++) {
            sum += coinWeightAt(coin, heads, tails);
        }
        return sum;
    }

    private long wholeNow() {
        return wholeAt(headsNow(), tailsNow());
    }

    /** The leading coin; NONE if the whole weight is 0. */
    private int leaderAt(int heads, int tails) {
        int leader = NONE;
        long greatest = 0;
        for (int coin = 0; coin < coinCount; coin++) {
            long weight = coinWeightAt(coin, heads, tails);
            if (weight > greatest) {
                greatest = weight;
                leader = coin;
            }
        }
        return leader;
    }

    private static int percent(long part, long whole) {
        if (whole == 0) {
            throw new IllegalStateException("the whole weight is 0");
        }
        return (int) (part * 100 / whole);
    }

    // ---- chances and surprises

    private long chance(boolean isHeads, int heads, int tails) {
        long sum = 0;
        for (int coin = 0; coin < coinCount; coin++) {
            int tenths = isHeads ? coinTenths[coin] : ALL_TENTHS - coinTenths[coin];
            sum += coinWeightAt(coin, heads, tails) * tenths;
        }
        return sum;
    }

    private int surpriseAt(int toss) {
        int heads = headsAhead(toss);
        return surpriseBehind(tossHeads[toss], heads, toss - heads);
    }

    private int surpriseBehind(boolean isHeads, int heads, int tails) {
        long limit = ALL_TENTHS * wholeAt(heads, tails);
        long doubled = chance(isHeads, heads, tails) * 2;
        int surprise = 0;
        while (doubled <= limit && surprise < MOST_DOUBLINGS) {
            doubled *= 2;
            surprise++;
        }
        return surprise;
    }

    // ---- parts of the digest

    private static long digestWith(long d, long x) {
        return d * DIGEST_FACTOR + x;
    }

    private long digestWithCoins(long d) {
        int heads = headsNow();
        int tails = tailsNow();
        long sum = d;
        for (int coin = 0; coin < coinCount; coin++) {
            sum = digestWith(sum, coinTenths[coin]);
            sum = digestWith(sum, coinWeightAt(coin, heads, tails));
            sum = digestWith(sum, tossesToLead(coin));
        }
        return sum;
    }

    private long digestWithSchools(long d) {
        long sum = d;
        for (int school = 0; school < schoolCount; school++) {
            sum = digestWith(sum, schoolOdds[school]);
            sum = digestWith(sum, schoolWeightNow(school));
            for (int coin = 0; coin < coinCount; coin++) {
                sum = digestWith(sum, shares[school][coin]);
            }
        }
        return sum;
    }

    private long digestWithTosses(long d) {
        long sum = d;
        for (int toss = 0; toss < tossCount; toss++) {
            sum = digestWith(sum, tossHeads[toss] ? 1 : 0);
            sum = digestWith(sum, surpriseAt(toss));
        }
        return sum;
    }
}
