import java.math.BigInteger;
import java.util.ArrayList;
import java.util.List;

/**
 * The document's words taken one by one, with numbers that cannot overflow. It shares no way of
 * reckoning with OddsLadder: each weight is multiplied anew, toss for toss.
 */
final class NaiveLadder {
    private static final BigInteger TWO = BigInteger.TWO;

    final List<Integer> tenths = new ArrayList<>();
    final List<Integer> odds = new ArrayList<>();
    final List<List<Integer>> shares = new ArrayList<>();
    List<Boolean> row = new ArrayList<>();

    Object addCoin(int tenthsOfIt) {
        argument(tenthsOfIt >= 0 && tenthsOfIt <= 10);
        state(tenths.size() < 8 && row.isEmpty());
        tenths.add(tenthsOfIt);
        shares.forEach(ofSchool -> ofSchool.add(1));
        return tenths.size() - 1;
    }

    Object addSchool(int oddsOfIt) {
        argument(oddsOfIt >= 1 && oddsOfIt <= 9);
        state(odds.size() < 4 && row.isEmpty());
        odds.add(oddsOfIt);
        List<Integer> ofSchool = new ArrayList<>();
        tenths.forEach(coin -> ofSchool.add(1));
        shares.add(ofSchool);
        return odds.size() - 1;
    }

    Object setShare(int school, int coin, int share) {
        there(school, odds);
        there(coin, tenths);
        argument(share >= 0 && share <= 9);
        state(row.isEmpty());
        return shares.get(school).set(coin, share);
    }

    Object toss(boolean isHeads) {
        state(row.size() < 12);
        state(canBe(isHeads));
        int surprise = surprise(row, isHeads);
        row.add(isHeads);
        return surprise;
    }

    Object undo() {
        state(!row.isEmpty());
        return row.remove(row.size() - 1);
    }

    Object strike(int toss) {
        there(toss, row);
        row = without(toss);
        return row.size();
    }

    Object heads() {
        return (int) row.stream().filter(isHeads -> isHeads).count();
    }

    Object isHeads(int toss) {
        there(toss, row);
        return row.get(toss);
    }

    Object tenthsOf(int coin) {
        there(coin, tenths);
        return tenths.get(coin);
    }

    Object oddsOf(int school) {
        there(school, odds);
        return odds.get(school);
    }

    Object shareOf(int school, int coin) {
        there(school, odds);
        there(coin, tenths);
        return shares.get(school).get(coin);
    }

    Object weightOf(int school, int coin) {
        there(school, odds);
        there(coin, tenths);
        return weight(row, school, coin).longValueExact();
    }

    Object coinWeight(int coin) {
        there(coin, tenths);
        return ofCoin(row, coin).longValueExact();
    }

    Object schoolWeight(int school) {
        there(school, odds);
        return ofSchool(row, school).longValueExact();
    }

    Object wholeWeight() {
        return whole(row).longValueExact();
    }

    Object isRuledOut(int coin) {
        there(coin, tenths);
        return ofCoin(row, coin).signum() == 0;
    }

    Object ruledOut() {
        int count = 0;
        for (int coin = 0; coin < tenths.size(); coin++) {
            count += (boolean) isRuledOut(coin) ? 1 : 0;
        }
        return count;
    }

    Object coinPercent(int coin) {
        there(coin, tenths);
        state(whole(row).signum() != 0);
        return percent(ofCoin(row, coin), whole(row));
    }

    Object schoolPercent(int school) {
        there(school, odds);
        state(whole(row).signum() != 0);
        return percent(ofSchool(row, school), whole(row));
    }

    Object leadingCoin() {
        state(whole(row).signum() != 0);
        return leader(row);
    }

    Object leadingSchool() {
        state(whole(row).signum() != 0);
        int leader = 0;
        for (int school = 1; school < odds.size(); school++) {
            if (ofSchool(row, school).compareTo(ofSchool(row, leader)) > 0) {
                leader = school;
            }
        }
        return leader;
    }

    Object oddsAgainst(int coin, int other) {
        there(coin, tenths);
        there(other, tenths);
        state(ofCoin(row, other).signum() != 0);
        return ofCoin(row, coin).divide(ofCoin(row, other)).longValueExact();
    }

    Object surpriseOf(int toss) {
        there(toss, row);
        return surprise(row.subList(0, toss), row.get(toss));
    }

    Object allSurprise() {
        int sum = 0;
        for (int toss = 0; toss < row.size(); toss++) {
            sum += (int) surpriseOf(toss);
        }
        return sum;
    }

    Object greatestSurprise() {
        int greatest = -1;
        for (int toss = row.size() - 1; toss >= 0; toss--) {
            if (greatest < 0 || (int) surpriseOf(toss) >= (int) surpriseOf(greatest)) {
                greatest = toss;
            }
        }
        return greatest;
    }

    Object headsPercent() {
        state(whole(row).signum() != 0);
        return percent(chance(row, true), chance(row, true).add(chance(row, false)));
    }

    Object wouldSurprise(boolean isHeads) {
        state(canBe(isHeads));
        return surprise(row, isHeads);
    }

    Object leaderBehind(boolean isHeads) {
        state(canBe(isHeads));
        return leader(with(isHeads, 1));
    }

    Object tossesToLead(int coin) {
        there(coin, tenths);
        for (int more = 0; row.size() + more <= 12; more++) {
            for (boolean isHeads : new boolean[] {true, false}) {
                List<Boolean> then = with(isHeads, more);
                if (ofCoin(then, coin).signum() != 0 && leader(then) == coin) {
                    return more;
                }
            }
        }
        return -1;
    }

    Object decisiveTosses() {
        int count = 0;
        for (int toss = 0; toss < row.size(); toss++) {
            count += leader(without(toss)) != leader(row) ? 1 : 0;
        }
        return count;
    }

    Object meanTenths() {
        state(whole(row).signum() != 0);
        return (double) chance(row, true).longValueExact() / (double) whole(row).longValueExact();
    }

    Object digest() {
        List<Object> numbers = new ArrayList<>(List.of(tenths.size(), odds.size(), row.size(),
            heads(), wholeWeight(), ruledOut(), allSurprise(), decisiveTosses()));
        for (int coin = 0; coin < tenths.size(); coin++) {
            numbers.addAll(List.of(tenthsOf(coin), coinWeight(coin), tossesToLead(coin)));
        }
        for (int school = 0; school < odds.size(); school++) {
            numbers.addAll(List.of(oddsOf(school), schoolWeight(school)));
            numbers.addAll(shares.get(school));
        }
        for (int toss = 0; toss < row.size(); toss++) {
            numbers.addAll(List.of(row.get(toss) ? 1 : 0, surpriseOf(toss)));
        }
        BigInteger d = BigInteger.valueOf(1913);
        for (Object x : numbers) {
            d = d.multiply(BigInteger.valueOf(31)).add(new BigInteger(x.toString()));
        }
        return d.longValue();
    }

    private static void argument(boolean isRight) {
        if (!isRight) {
            throw new IllegalArgumentException();
        }
    }

    private static void state(boolean isRight) {
        if (!isRight) {
            throw new IllegalStateException();
        }
    }

    private static void there(int number, List<?> all) {
        if (number < 0 || number >= all.size()) {
            throw new IndexOutOfBoundsException();
        }
    }

    private List<Boolean> with(boolean isHeads, int times) {
        List<Boolean> then = new ArrayList<>(row);
        for (int i = 0; i < times; i++) {
            then.add(isHeads);
        }
        return then;
    }

    private List<Boolean> without(int toss) {
        List<Boolean> then = new ArrayList<>(row);
        then.remove(toss);
        return then;
    }

    private BigInteger weight(List<Boolean> tosses, int school, int coin) {
        BigInteger product = BigInteger.valueOf(odds.get(school))
            .multiply(BigInteger.valueOf(shares.get(school).get(coin)));
        for (boolean isHeads : tosses) {
            product = product.multiply(tenthsFor(coin, isHeads));
        }
        return product;
    }

    private BigInteger tenthsFor(int coin, boolean isHeads) {
        return BigInteger.valueOf(isHeads ? tenths.get(coin) : 10 - tenths.get(coin));
    }

    private BigInteger ofCoin(List<Boolean> tosses, int coin) {
        BigInteger sum = BigInteger.ZERO;
        for (int school = 0; school < odds.size(); school++) {
            sum = sum.add(weight(tosses, school, coin));
        }
        return sum;
    }

    private BigInteger ofSchool(List<Boolean> tosses, int school) {
        BigInteger sum = BigInteger.ZERO;
        for (int coin = 0; coin < tenths.size(); coin++) {
            sum = sum.add(weight(tosses, school, coin));
        }
        return sum;
    }

    private BigInteger whole(List<Boolean> tosses) {
        BigInteger sum = BigInteger.ZERO;
        for (int school = 0; school < odds.size(); school++) {
            sum = sum.add(ofSchool(tosses, school));
        }
        return sum;
    }

    private BigInteger chance(List<Boolean> tosses, boolean isHeads) {
        BigInteger sum = BigInteger.ZERO;
        for (int coin = 0; coin < tenths.size(); coin++) {
            sum = sum.add(ofCoin(tosses, coin).multiply(tenthsFor(coin, isHeads)));
        }
        return sum;
    }

    private boolean canBe(boolean isHeads) {
        return chance(row, isHeads).signum() != 0;
    }

    private int surprise(List<Boolean> ahead, boolean isHeads) {
        BigInteger limit = whole(ahead).multiply(BigInteger.TEN);
        BigInteger chance = chance(ahead, isHeads);
        int surprise = 0;
        while (chance.multiply(TWO.pow(surprise + 1)).compareTo(limit) <= 0) {
            surprise++;
        }
        return surprise;
    }

    private int leader(List<Boolean> tosses) {
        int leader = 0;
        for (int coin = 1; coin < tenths.size(); coin++) {
            if (ofCoin(tosses, coin).compareTo(ofCoin(tosses, leader)) > 0) {
                leader = coin;
            }
        }
        return leader;
    }

    private static int percent(BigInteger part, BigInteger whole) {
        return part.multiply(BigInteger.valueOf(100)).divide(whole).intValueExact();
    }
}
