import java.math.BigInteger;
import java.util.ArrayList;
import java.util.List;
import java.util.function.Supplier;

/** The boundary cases of promises 32 to 36: what would be, and the digest. */
public final class WouldBeEdgesTest {
    private static final String TWELVE = "HTHTHTHTHTHT";

    public static void main(String[] args) {
        leaderBehindWithSoMany();
        leaderBehindLevel();
        leaderBehindThatCannotBe();
        tossesToLeadNow();
        tossesToLeadByEitherRow();
        tossesToLeadJustTwelve();
        tossesToLeadNever();
        tossesToLeadNumbers();
        decisiveTosses();
        decisiveOfTwelve();
        meanTenths();
        digestOfAll();
        digestWrapsAround();
        Expect.finish();
    }

    private static void leaderBehindWithSoMany() {
        for (int tosses : new int[] {0, 2, 10, 12}) {
            Supplier<OddsLadder> build =
                () -> Ladders.tossed(Ladders.of(4, 6), TWELVE.substring(0, tosses));
            String with = " with " + tosses + " tosses";
            Expect.equal("P32: heads" + with, build.get().leaderBehind(true), 1);
            Expect.equal("P32: tails" + with, build.get().leaderBehind(false), 0);
            Refused.changesNothing("P32: heads" + with, build, x -> x.leaderBehind(true));
            Refused.changesNothing("P32: tails" + with, build, x -> x.leaderBehind(false));
        }
        OddsLadder eleven = Ladders.tossed(Ladders.of(4, 6), "HTHTHTHTHTH");
        Expect.equal("P32: heads with 11 tosses", eleven.leaderBehind(true), 1);
        Expect.equal("P32: tails with 11 tosses, level", eleven.leaderBehind(false), 0);
        Refused.changesNothing("P32: heads on the full ladder", Ladders::fullTossed,
            x -> x.leaderBehind(true));
    }

    private static void leaderBehindLevel() {
        // Behind heads 4 * 6 and 6 * 4; then the other way round.
        Expect.equal("P32: level behind heads",
            Ladders.shared(new int[] {4, 6}, 6, 4).leaderBehind(true), 0);
        Expect.equal("P32: level behind tails",
            Ladders.shared(new int[] {6, 4}, 6, 4).leaderBehind(false), 0);
        // 20 and 24: just more; 24 and 18: just less.
        Expect.equal("P32: just more behind heads",
            Ladders.shared(new int[] {4, 6}, 5, 4).leaderBehind(true), 1);
        Expect.equal("P32: just less behind heads",
            Ladders.shared(new int[] {4, 6}, 6, 3).leaderBehind(true), 0);
        Expect.equal("P32: heads rules the leader out", Ladders.of(0, 3).leaderBehind(true), 1);
        Expect.equal("P32: tails rules the leader out", Ladders.of(10, 3).leaderBehind(false), 1);
    }

    private static void leaderBehindThatCannotBe() {
        Refused.badState("P32: heads of 0 tenths", () -> Ladders.of(0), x -> x.leaderBehind(true));
        Refused.badState("P32: tails of 10 tenths", () -> Ladders.of(10),
            x -> x.leaderBehind(false));
        Refused.badState("P32: heads of 0 tenths with 12 tosses",
            () -> Ladders.tossed(Ladders.of(0), "TTTTTTTTTTTT"), x -> x.leaderBehind(true));
        Refused.badState("P32: tails of 10 tenths with 12 tosses",
            () -> Ladders.tossed(Ladders.of(10), "HHHHHHHHHHHH"), x -> x.leaderBehind(false));
        Refused.badState("P32: tails once the others are ruled out",
            () -> Ladders.tossed(Ladders.of(0, 10), "H"), x -> x.leaderBehind(false));
        Expect.equal("P32: heads of 1 tenth, that can just be",
            Ladders.of(0, 0, 0, 0, 0, 0, 0, 1).leaderBehind(true), 7);
    }

    private static void toLead(String what, Supplier<OddsLadder> build, int... due) {
        for (int each = 0; each < due.length; each++) {
            int coin = each;
            String of = "P33: " + what + ", coin " + coin;
            Expect.equal(of, build.get().tossesToLead(coin), due[coin]);
            Refused.changesNothing(of, build, x -> x.tossesToLead(coin));
        }
    }

    private static void tossesToLeadNow() {
        toLead("it leads now", () -> Ladders.of(5), 0);
        toLead("it leads now, the smaller of two that are level", () -> Ladders.of(4, 6), 0, 1);
        toLead("it leads now, with 12", () -> Ladders.tossed(Ladders.of(4, 6), "HHHHHHHHHHHH"),
            -1, 0);
        toLead("it leads now, level with 12", () -> Ladders.tossed(Ladders.of(4, 6), TWELVE), 0, -1);
    }

    private static void tossesToLeadByEitherRow() {
        toLead("by heads alone", () -> Ladders.of(5, 6), 0, 1);
        toLead("by tails alone", () -> Ladders.of(5, 4), 0, 1);
        // Heads: 18 and 14, 27 and 49. Tails: 72 and 6.
        toLead("by two heads", () -> Ladders.shared(new int[] {2, 7}, 9, 2), 0, 2);
        // Heads: 9, 5, 2; 45, 40, 20; 225, 320, 200; 1125, 2560, 2000; then 20480, 20000.
        toLead("for a while between two others",
            () -> Ladders.shared(new int[] {5, 8, 10}, 9, 5, 2), 0, 2, 5);
        // Heads: 48 and 42, 288 and 294. Tails: 32 and 18, and ever less.
        toLead("just more", () -> Ladders.shared(new int[] {6, 7}, 8, 6), 0, 2);
        toLead("by a leader that is ruled out", () -> Ladders.shared(new int[] {10, 1}, 9, 1), 0, 1);
        toLead("level is enough for the smaller number",
            () -> Ladders.shared(new int[] {6, 4}, 4, 6), 1, 0);
        // Heads: 24 and 24, then 96 and 144.
        toLead("level is not enough for the greater number",
            () -> Ladders.shared(new int[] {4, 6}, 6, 4), 0, 2);
    }

    /** One coin of 4 tenths that weighs so much, and one of 5 tenths that weighs 1. */
    private static OddsLadder fourAgainstFive(int weight) {
        OddsLadder x = Ladders.shared(new int[] {4, 5}, weight < 9 ? weight : 9, 1);
        x.addSchool(1);
        x.setShare(1, 0, weight < 9 ? 0 : weight - 9);
        x.setShare(1, 1, 0);
        return x;
    }

    private static OddsLadder fourAgainstFive(int weight, String tosses) {
        return Ladders.tossed(fourAgainstFive(weight), tosses);
    }

    /** (5 / 4)^n is 1.25, 1.56, 1.95, 2.44, 3.05, .. 9.31, 11.64, 14.55 and, with 13, 18.19. */
    private static void tossesToLeadJustTwelve() {
        toLead("by 11", () -> fourAgainstFive(11), 0, 11);
        toLead("by 12, just so that there are 12", () -> fourAgainstFive(12), 0, 12);
        toLead("by 12, of 14 times", () -> fourAgainstFive(14), 0, 12);
        toLead("by 13, one too many", () -> fourAgainstFive(15), 0, -1);
        toLead("by 11 more with one", () -> fourAgainstFive(14, "H"), 0, 11);
        toLead("by 12 more with one", () -> fourAgainstFive(15, "H"), 0, -1);
        // Behind eleven heads 5 tenths lead 11 times (one tails is too much), not 14 and 15 times.
        toLead("it leads with 11", () -> fourAgainstFive(11, "HHHHHHHHHHH"), 1, 0);
        toLead("by 1 more with 11", () -> fourAgainstFive(14, "HHHHHHHHHHH"), 0, 1);
        toLead("by 2 more with 11", () -> fourAgainstFive(15, "HHHHHHHHHHH"), 0, -1);
        toLead("by 1 more with 12", () -> fourAgainstFive(15, "HHHHHHHHHHHH"), 0, -1);
    }

    private static void tossesToLeadNever() {
        toLead("of no weight", Ladders::weightless, -1);
        toLead("without schools", () -> Ladders.coinsAlone(4, 6), -1, -1);
        toLead("ruled out by its share", () -> Ladders.shared(new int[] {10, 5}, 0, 1), -1, 0);
        toLead("ruled out by tosses", () -> Ladders.tossed(Ladders.of(10, 0, 4), "HT"), -1, -1, 0);
        toLead("the same tenths, a greater number", () -> Ladders.of(5, 5), 0, -1);
        toLead("always between two others", () -> Ladders.of(5, 6, 4, 5), 0, 1, 1, -1);
    }

    private static void tossesToLeadNumbers() {
        for (int coin : new int[] {-1, 3, 7, 8, Integer.MIN_VALUE, Integer.MAX_VALUE}) {
            Refused.noSuch("P33: tossesToLead(" + coin + ") of three", Ladders::threeCoins,
                x -> x.tossesToLead(coin));
        }
        for (int coin : new int[] {-1, 1, Integer.MIN_VALUE, Integer.MAX_VALUE}) {
            Refused.noSuch("P33: no such coin, and no weight", Ladders::weightless,
                x -> x.tossesToLead(coin));
        }
    }

    private static void decisive(int due, String what, Supplier<OddsLadder> build) {
        Expect.equal("P34: " + what, build.get().decisiveTosses(), due);
        Refused.changesNothing("P34: " + what, build, x -> x.decisiveTosses());
    }

    private static void decisiveTosses() {
        decisive(0, "without tosses", () -> Ladders.of(4, 6));
        decisive(0, "without weight", Ladders::weightless);
        decisive(0, "of one coin", () -> Ladders.tossed(Ladders.of(5), "HT"));
        decisive(1, "of one toss, level without it", () -> Ladders.tossed(Ladders.of(4, 6), "H"));
        decisive(0, "of one toss, level without it, the smaller number leads",
            () -> Ladders.tossed(Ladders.of(6, 4), "H"));
        decisive(0, "of two, either is enough", () -> Ladders.tossed(Ladders.of(4, 6), "HH"));
        decisive(2, "of two alike among three", () -> Ladders.tossed(Ladders.of(4, 6), "HHT"));
        // Without one they lead still, without two they would be level.
        decisive(0, "of three heads and one tails", () -> Ladders.tossed(Ladders.of(4, 6), "HTHH"));
        decisive(0, "of three tails and one heads", () -> Ladders.tossed(Ladders.of(6, 4), "THTT"));
        decisive(1, "of the one that ruled out", () -> Ladders.tossed(Ladders.of(0, 9), "TTH"));
        decisive(2, "of both that ruled out", () -> Ladders.tossed(Ladders.of(10, 0, 4), "HT"));
        decisive(0, "of two that ruled out", () -> Ladders.tossed(Ladders.of(0, 10), "HH"));
    }

    private static void decisiveOfTwelve() {
        // With one heads less 4 tenths lead, with one tails less 6 tenths; with all, 5 tenths.
        decisive(12, "of twelve, each of them",
            () -> Ladders.tossed(Ladders.shared(new int[] {4, 6, 5}, 9, 9, 8), TWELVE));
        decisive(6, "of twelve, each tails", () -> Ladders.tossed(Ladders.of(4, 6), TWELVE));
        decisive(6, "of twelve, each heads",
            () -> Ladders.tossed(Ladders.of(6, 4), TWELVE));
        decisive(0, "of twelve, none", () -> Ladders.tossed(Ladders.of(4, 6), "HHHHHHHHHHHH"));
        decisive(1, "of twelve, the last",
            () -> Ladders.tossed(Ladders.of(10, 9), "HHHHHHHHHHHT"));
        decisive(1, "of twelve, the first",
            () -> Ladders.tossed(Ladders.of(10, 9), "THHHHHHHHHHH"));
    }

    private static void meanTenths() {
        Expect.equal("P35: of 0 tenths", Ladders.of(0).meanTenths(), 0.0);
        Expect.equal("P35: of 10 tenths", Ladders.of(10).meanTenths(), 10.0);
        Expect.equal("P35: of 0 and 10 tenths", Ladders.of(0, 10).meanTenths(), 5.0);
        Expect.equal("P35: not cut", Ladders.of(1, 1, 2).meanTenths(), 4.0 / 3.0);
        Expect.equal("P35: of one that is ruled out beside another",
            Ladders.tossed(Ladders.of(0, 10), "H").meanTenths(), 10.0);
        Expect.equal("P35: of a whole weight of 1", Ladders.of(3).meanTenths(), 3.0);
        OddsLadder heavy = Ladders.tossed(Ladders.heaviest(), "HHHHHHHHHHHH");
        Expect.equal("P35: of the greatest whole weight", heavy.meanTenths(), 10.0);
        Refused.badState("P35: of a whole weight of 0", Ladders::weightless, x -> x.meanTenths());
        Refused.badState("P35: without schools", () -> Ladders.coinsAlone(5), x -> x.meanTenths());
        Refused.badState("P35: without coins", () -> Ladders.of(), x -> x.meanTenths());
    }

    /** The numbers of the digest, by the methods that the document names, in its order. */
    private static List<Long> digested(OddsLadder x) {
        List<Long> numbers = new ArrayList<>(List.of((long) x.coins(), (long) x.schools(),
            (long) x.tosses(), (long) x.heads(), x.wholeWeight(), (long) x.ruledOut(),
            (long) x.allSurprise(), (long) x.decisiveTosses()));
        for (int coin = 0; coin < x.coins(); coin++) {
            numbers.addAll(List.of((long) x.tenthsOf(coin), x.coinWeight(coin),
                (long) x.tossesToLead(coin)));
        }
        for (int school = 0; school < x.schools(); school++) {
            numbers.addAll(List.of((long) x.oddsOf(school), x.schoolWeight(school)));
            for (int coin = 0; coin < x.coins(); coin++) {
                numbers.add((long) x.shareOf(school, coin));
            }
        }
        for (int toss = 0; toss < x.tosses(); toss++) {
            numbers.addAll(List.of(x.isHeads(toss) ? 1L : 0L, (long) x.surpriseOf(toss)));
        }
        return numbers;
    }

    private static BigInteger digestOf(List<Long> numbers) {
        BigInteger d = BigInteger.valueOf(1913);
        for (long x : numbers) {
            d = d.multiply(BigInteger.valueOf(31)).add(BigInteger.valueOf(x));
        }
        return d;
    }

    private static void digest(String what, OddsLadder x) {
        Expect.equal("P36: digest() " + what, x.digest(), digestOf(digested(x)).longValue());
    }

    private static void digestOfAll() {
        digest("of nothing", Ladders.empty());
        digest("without schools", Ladders.coinsAlone(0, 10, 5));
        digest("without coins", Ladders.of());
        digest("without weight", Ladders.weightless());
        digest("without tosses", Ladders.threeCoins());
        digest("with one heads", Ladders.tossed(Ladders.of(5), "H"));
        digest("with one tails", Ladders.tossed(Ladders.of(5), "T"));
        digest("of the full ladder without tosses", Ladders.full());
        digest("of the full ladder", Ladders.fullTossed());
        digest("of the heaviest", Ladders.tossed(Ladders.heaviest(), "HHHHHHHHHHHH"));
        Refused.changesNothing("P36: digest()", Ladders::fullTossed, x -> x.digest());
    }

    /** 1913 * 31^8 is some 2^50.5: a school's two numbers stay within 2^63, a coin's three leave it. */
    private static void digestWrapsAround() {
        BigInteger limit = BigInteger.ONE.shiftLeft(63);
        OddsLadder inside = Ladders.of();
        BigInteger just = digestOf(digested(inside));
        Expect.equal("P36: the sum stays within a long", just.compareTo(limit) < 0, true);
        Expect.equal("P36: digest() that does not wrap around", inside.digest(), just.longValueExact());
        OddsLadder outside = Ladders.coinsAlone(5);
        BigInteger beyond = digestOf(digested(outside));
        Expect.equal("P36: the sum leaves a long", beyond.compareTo(limit) > 0, true);
        Expect.equal("P36: digest() that wraps around", outside.digest(), beyond.longValue());
    }
}
