import java.util.function.Supplier;

/** The boundary cases of promises 27 to 31: how much tosses surprise. */
public final class SurprisesEdgesTest {
    private static final String TWELVE = "HTHTHTHTHTHT";

    public static void main(String[] args) {
        surprisesAtHalf();
        surprisesAtAFourth();
        surprisesAtAnEighth();
        greatestSurpriseThereIs();
        surpriseOfNumbers();
        surpriseOfWhatIsAheadNow();
        allSurprise();
        greatestSurprise();
        headsPercent();
        headsPercentOfNoWeight();
        wouldSurpriseWithSoMany();
        wouldSurpriseThatCannotBe();
        Expect.finish();
    }

    /** The same surprise must be told ahead of a toss, by it, and behind it. */
    private static void surprise(int due, String what, Supplier<OddsLadder> build) {
        Expect.equal("P31: wouldSurprise at " + what, build.get().wouldSurprise(true), due);
        OddsLadder x = build.get();
        Expect.equal("P5: toss at " + what, x.toss(true), due);
        Expect.equal("P27: surpriseOf at " + what, x.surpriseOf(0), due);
        Expect.equal("P28: allSurprise at " + what, x.allSurprise(), due);
    }

    private static OddsLadder twoAndThree(int share, int other) {
        return Ladders.shared(new int[] {2, 3}, share, other);
    }

    private static OddsLadder oneAndTwo(int share, int other) {
        return Ladders.shared(new int[] {1, 2}, share, other);
    }

    private static void surprisesAtHalf() {
        surprise(1, "just a half", () -> Ladders.of(5));
        surprise(1, "just a half, by two coins", () -> Ladders.of(4, 6));
        surprise(0, "11 of 20", () -> Ladders.of(5, 6));
        surprise(1, "9 of 20", () -> Ladders.of(4, 5));
        surprise(0, "51 of 100", () -> Ladders.shared(new int[] {5, 6}, 9, 1));
        surprise(1, "49 of 100", () -> Ladders.shared(new int[] {5, 4}, 9, 1));
        surprise(0, "all", () -> Ladders.of(10));
    }

    private static void surprisesAtAFourth() {
        surprise(2, "just a fourth", () -> Ladders.of(0, 5));
        surprise(2, "just a fourth, by two coins", () -> Ladders.of(2, 3));
        surprise(1, "13 of 50", () -> twoAndThree(2, 3));
        surprise(2, "12 of 50", () -> twoAndThree(3, 2));
    }

    private static void surprisesAtAnEighth() {
        surprise(3, "just an eighth", () -> Ladders.of(0, 0, 0, 5));
        surprise(3, "just an eighth, by two coins", () -> oneAndTwo(3, 1));
        surprise(2, "9 of 70", () -> oneAndTwo(5, 2));
        surprise(3, "11 of 90", () -> oneAndTwo(7, 2));
    }

    /** The smallest weight, 1, beside the greatest that can stand with it: 252 for each other coin. */
    private static OddsLadder rarestTails() {
        OddsLadder x = Ladders.coinsAlone(10, 10, 10, 10, 10, 10, 10, 1);
        for (int odds : new int[] {9, 9, 9, 1}) {
            x.addSchool(odds);
        }
        for (int school = 0; school < 4; school++) {
            for (int coin = 0; coin < 7; coin++) {
                x.setShare(school, coin, 9);
            }
            x.setShare(school, 7, school < 3 ? 0 : 1);
        }
        return x;
    }

    private static void greatestSurpriseThereIs() {
        OddsLadder x = Ladders.tossed(rarestTails(), "HHHHHHHHHHH");
        // Ten times 1764 * 10^11 and 1, against 9: some 1.96e14, between 2^47 and 2^48.
        Expect.equal("P31: the rarest tails", x.wouldSurprise(false), 47);
        Expect.equal("P5: the rarest tails", x.toss(false), 47);
        Expect.equal("P27: the rarest tails", x.surpriseOf(11), 47);
        Expect.equal("P28: the rarest tails", x.allSurprise(), 47);
        Expect.equal("P29: the rarest tails", x.greatestSurprise(), 11);
        x.undo();
        x.toss(true);
        // Ten times as much, some 1.96e15, between 2^50 and 2^51.
        Expect.equal("P31: the rarest tails with 12 tosses", x.wouldSurprise(false), 50);
        Expect.equal("P31: heads with 12 tosses", x.wouldSurprise(true), 0);
    }

    private static void surpriseOfNumbers() {
        Supplier<OddsLadder> three = () -> Ladders.tossed(Ladders.of(1), "HTH");
        Expect.equal("P27: surpriseOf(0), just inside", three.get().surpriseOf(0), 3);
        Expect.equal("P27: surpriseOf(1)", three.get().surpriseOf(1), 0);
        Expect.equal("P27: surpriseOf(2) of three, just inside", three.get().surpriseOf(2), 3);
        for (int toss : new int[] {-1, 3, 11, 12, Integer.MIN_VALUE, Integer.MAX_VALUE}) {
            Refused.noSuch("P27: surpriseOf(" + toss + ") of three", three,
                x -> x.surpriseOf(toss));
        }
        Refused.noSuch("P27: surpriseOf(0) without tosses", Ladders::threeCoins,
            x -> x.surpriseOf(0));
    }

    private static void surpriseOfWhatIsAheadNow() {
        // Behind HH tails is 90 of 820; behind H it is 18 of 100; behind none it is 10 of 20.
        OddsLadder x = Ladders.tossed(Ladders.of(9, 1), "HHT");
        Expect.equal("P27: tails behind two heads", x.surpriseOf(2), 3);
        x.strike(1);
        Expect.equal("P27: tails behind one heads, the other struck", x.surpriseOf(1), 2);
        x.toss(true);
        Expect.equal("P27: tails with heads behind it", x.surpriseOf(1), 2);
        x.strike(0);
        Expect.equal("P27: tails behind none", x.surpriseOf(0), 1);
        // Heads behind T is 18 of 100.
        Expect.equal("P27: heads behind tails", x.surpriseOf(1), 2);
        x.strike(0);
        Expect.equal("P27: heads behind none", x.surpriseOf(0), 1);
    }

    private static void allSurprise() {
        Expect.equal("P28: without tosses", Ladders.of(5).allSurprise(), 0);
        Expect.equal("P28: of one", Ladders.tossed(Ladders.of(2), "H").allSurprise(), 2);
        Expect.equal("P28: of tosses that do not surprise",
            Ladders.tossed(Ladders.of(10), "HHHHHHHHHHHH").allSurprise(), 0);
        Expect.equal("P28: of twelve", Ladders.tossed(Ladders.of(5), TWELVE).allSurprise(), 12);
        Expect.equal("P28: of twelve, the first ones and the last ones",
            Ladders.tossed(Ladders.of(1), "HTTTTTTTTTTH").allSurprise(), 6);
    }

    private static void greatestSurprise() {
        Expect.equal("P29: without tosses", Ladders.of(5).greatestSurprise(), -1);
        OddsLadder one = Ladders.tossed(Ladders.of(5), "H");
        Expect.equal("P29: of one", one.greatestSurprise(), 0);
        one.undo();
        Expect.equal("P29: once it is undone", one.greatestSurprise(), -1);
        Expect.equal("P29: of one that does not surprise",
            Ladders.tossed(Ladders.of(10), "H").greatestSurprise(), 0);
        Expect.equal("P29: of several that do not surprise",
            Ladders.tossed(Ladders.of(10), "HHH").greatestSurprise(), 0);
        Expect.equal("P29: of several that surprise alike",
            Ladders.tossed(Ladders.of(1), "THTHTH").greatestSurprise(), 1);
        Expect.equal("P29: the last of twelve",
            Ladders.tossed(Ladders.of(1), "TTTTTTTTTTTH").greatestSurprise(), 11);
        Expect.equal("P29: the first of twelve",
            Ladders.tossed(Ladders.of(1), "HTTTTTTTTTTH").greatestSurprise(), 0);
    }

    private static void headsPercent() {
        Expect.equal("P30: none of both chances", Ladders.of(0).headsPercent(), 0);
        Expect.equal("P30: all of both chances", Ladders.of(10).headsPercent(), 100);
        Expect.equal("P30: just a half", Ladders.of(5).headsPercent(), 50);
        Expect.equal("P30: a third, cut", Ladders.of(0, 0, 10).headsPercent(), 33);
        Expect.equal("P30: two thirds, cut", Ladders.of(0, 10, 10).headsPercent(), 66);
        Expect.equal("P30: 1 of 100, just one percent",
            Ladders.shared(new int[] {0, 1}, 9, 1).headsPercent(), 1);
        Expect.equal("P30: 99 of 100, just 99 percent",
            Ladders.shared(new int[] {10, 9}, 9, 1).headsPercent(), 99);
        Expect.equal("P30: 9 of 910, less than one percent",
            Ladders.tossed(Ladders.shared(new int[] {0, 9}, 9, 1), "T").headsPercent(), 0);
        Expect.equal("P30: 901 of 910, less than all",
            Ladders.tossed(Ladders.shared(new int[] {10, 1}, 9, 1), "H").headsPercent(), 99);
        OddsLadder heavy = Ladders.tossed(Ladders.heaviest(), "HHHHHHHHHHHH");
        Expect.equal("P30: the greatest chance there is", heavy.headsPercent(), 100);
        Expect.equal("P30: a whole weight of 1", Ladders.of(3).headsPercent(), 30);
    }

    private static void headsPercentOfNoWeight() {
        Refused.badState("P30: a whole weight of 0", Ladders::weightless, x -> x.headsPercent());
        Refused.badState("P30: no schools", () -> Ladders.coinsAlone(5), x -> x.headsPercent());
        Refused.badState("P30: no coins", () -> Ladders.of(), x -> x.headsPercent());
    }

    private static void wouldSurpriseWithSoMany() {
        for (int tosses : new int[] {0, 1, 11, 12}) {
            Supplier<OddsLadder> build =
                () -> Ladders.tossed(Ladders.of(2), TWELVE.substring(0, tosses));
            String with = " with " + tosses + " tosses";
            Expect.equal("P31: heads" + with, build.get().wouldSurprise(true), 2);
            Expect.equal("P31: tails" + with, build.get().wouldSurprise(false), 0);
            Refused.changesNothing("P31: heads" + with, build, x -> x.wouldSurprise(true));
            Refused.changesNothing("P31: tails" + with, build, x -> x.wouldSurprise(false));
        }
        Refused.changesNothing("P31: heads on the full ladder", Ladders::fullTossed,
            x -> x.wouldSurprise(true));
    }

    private static void wouldSurpriseThatCannotBe() {
        Refused.badState("P31: heads of 0 tenths", () -> Ladders.of(0), x -> x.wouldSurprise(true));
        Refused.badState("P31: tails of 10 tenths", () -> Ladders.of(10),
            x -> x.wouldSurprise(false));
        Refused.badState("P31: heads of 0 tenths with 12 tosses",
            () -> Ladders.tossed(Ladders.of(0), "TTTTTTTTTTTT"), x -> x.wouldSurprise(true));
        Refused.badState("P31: tails of 10 tenths with 12 tosses",
            () -> Ladders.tossed(Ladders.of(10), "HHHHHHHHHHHH"), x -> x.wouldSurprise(false));
        Refused.badState("P31: tails once the others are ruled out",
            () -> Ladders.tossed(Ladders.of(0, 10), "H"), x -> x.wouldSurprise(false));
        Expect.equal("P31: heads of 1 tenth, that can just be",
            Ladders.of(0, 0, 0, 0, 0, 0, 0, 1).wouldSurprise(true), 6);
    }
}
