/** Promises 1 to 10: a new object, and the calls that make entries or tell what the next ones are made of. */
public final class SentencesOfEntries {
    private static final long LEAST = Books.LEAST;
    private static final long MOST = Books.MOST;
    private static final long NOTHING = Books.NOTHING;
    private static final int LOWEST = Integer.MIN_VALUE;
    private static final int HIGHEST = Integer.MAX_VALUE;

    public static void main(String[] args) throws IllegalAccessException {
        SentenceTests.run(SentencesOfEntries.class);
    }

    @Says(in = "Promise 1", words = "No ACCOUNTS, no entries.")
    static void newObjectHasNothing() {
        Books x = new Books();
        for (int what = 0; what < 8; what++) {
            x.count(what).gives(0);
        }
        x.account(0, 0).gives(NOTHING);
        x.entry(0, 0).gives(NOTHING);
        x.data(0).gives(-1);
        x.alter(0, 1).gives(-1);
        x.audit().gives(-1);
        x.clear().gives(0);
        x.post(1).gives(-1);
        x.path(0, 1).gives(-1);
        x.proof(1, 2).gives(-1);
        x.step(0, 0).gives(-1);
        x.leads(0, 0).gives(-1);
        x.verify(0).gives(-1);
        x.keep(0).gives(0);
    }

    @Says(in = "Promise 1", words = "No ACCOUNTS, no entries.")
    static void newObjectKnowsNothingOfAnother() {
        Books one = Books.opened(-10);
        one.hold(1, 0, 1).gives(1);
        one.every(2).gives(0);
        one.leg(0, 1).gives(1);
        one.keep(0).gives(2);
        one.path(0, 1).gives(0);
        newObjectHasNothing();
        one.count(1).gives(2);
    }

    @Says(in = "Promise 2", words = "One more ACCOUNT, an OPEN entry: its number.")
    static void openGivesTheNumberOfTheAccount() {
        Books x = Books.opened(-10);
        x.hold(1, 0, 1).gives(1);
        x.open(-4).gives(1);
        x.count(0).gives(2);
        x.count(1).gives(3);
        x.hasBytes(2, EntryBytes.open(-4));
        x.entry(2, 0).gives(1);
    }

    @Says(in = "Promise 2", words = "REFUSED: -6 (a FLOOR above 0),")
    static void openWithAFloorAbove0() {
        Books x = new Books();
        x.open(1).gives(-6);
        x.open(MOST).gives(-6);
        x.open(1L << 32).gives(-6);
        x.count(0).gives(0);
        x.count(1).gives(0);
        x.open(0).gives(0);
        x.open(-1).gives(1);
    }

    @Says(in = "Promise 2", words = "-8;")
    static void openWhereThereAre200Entries() {
        Books x = Books.opened(-1000).filled(1);
        x.open(0).gives(-8);
        x.open(1).gives(-6);
        x.count(0).gives(1);
        x.count(1).gives(200);
    }

    @Says(in = "Promise 2", words = "then NONE: there are 40.")
    static void openTheFortyFirst() {
        Books x = new Books();
        for (int a = 0; a < 40; a++) {
            x.open(-1000).gives(a);
        }
        x.open(0).gives(-1);
        x.count(0).gives(40);
        x.count(1).gives(40);
        x.open(1).gives(-6);
        x.filled(40);
        x.open(0).gives(-8);
    }

    @Says(in = "Promise 3", words = "One more leg is told for the next post() or alike: how many are.")
    static void legsAreToldTillThePost() {
        Books x = Books.opened(-10, -10);
        x.leg(0, -4).gives(1);
        x.hold(1, 0, 1).gives(2);
        x.capture(2, 2, 1, 1).gives(3);
        x.reverse(3, 3).gives(4);
        x.count(6).gives(1);
        x.leg(1, 4).gives(2);
        x.post(4).gives(5);
        x.account(1, 0).gives(4);
        x.leg(1, 1).gives(1);
    }

    @Says(in = "Promise 3", words = "NONE: there are 8,")
    static void legTheNinth() {
        Books x = Books.opened(-10);
        for (int k = 1; k <= 8; k++) {
            x.leg(0, k < 8 ? 1 : -7).gives(k);
        }
        x.leg(0, 1).gives(-1);
        x.count(6).gives(8);
        x.post(1).gives(1);
        x.entry(1, 4).gives(8);
        x.leg(0, 1).gives(1);
    }

    @Says(in = "Promise 3", words = "the ACCOUNT is not 0 .. 255,")
    static void legOfAnAccountThatCannotBe() {
        Books x = new Books();
        for (int account : new int[] {-1, 256, 65536, LOWEST, HIGHEST}) {
            x.leg(account, 1).gives(-1);
        }
        x.count(6).gives(0);
        x.leg(0, 1).gives(1);
        x.leg(255, 1).gives(2);
    }

    @Says(in = "Promise 3", words = "the amount is 0 or the least number of 64 bits.")
    static void legOfAnAmountThatCannotBe() {
        Books x = new Books();
        x.leg(0, 0).gives(-1);
        x.leg(0, LEAST).gives(-1);
        x.count(6).gives(0);
        long[] fine = {1, -1, MOST, LEAST + 1, 1L << 32, Integer.MIN_VALUE};
        for (int k = 0; k < fine.length; k++) {
            x.leg(0, fine[k]).gives(k + 1);
        }
    }

    @Says(in = "Promise 4", words = "No legs are told any more: how many were.")
    static void clearGivesHowManyWere() {
        Books x = Books.opened(-10, -10);
        x.clear().gives(0);
        for (int k = 1; k <= 8; k++) {
            x.leg(0, 1);
        }
        x.clear().gives(8);
        x.count(6).gives(0);
        x.clear().gives(0);
        x.post(1).gives(-1);
        x.leg(0, 3).gives(1);
        x.leg(1, -3).gives(2);
        x.post(1).gives(2);
        x.clear().gives(0);
    }

    @Says(in = "Promise 5", words = "A POST of the legs that are told (which are none then,")
    static void postTakesTheLegs() {
        Books x = Books.opened(-10, -10);
        x.leg(0, -3);
        x.leg(1, 3);
        x.post(1).gives(2);
        x.count(6).gives(0);
        x.post(2).gives(-1);
        // the same call again isn't refused either
        x.leg(0, -3);
        x.leg(1, 3);
        x.post(1).gives(2);
        x.count(6).gives(0);
    }

    @Says(in = "Promise 5", words = "but if it is refused):")
    static void refusedPostLeavesTheLegs() {
        Books x = Books.opened(LEAST, LEAST, 0);
        x.move(1, 0, 1, MOST).gives(3);
        leavesLegs(x, 2, -2, 0, -1, 3, 1);
        leavesLegs(x, 2, -3, 0, -1, 1, 2);
        leavesLegs(x, 1, -4, 0, -1, 1, 1);
        leavesLegs(x, 2, -5, 0, -1, 1, 1);
        leavesLegs(x, 2, -6, 2, -1, 0, 1);
        leavesLegs(x, 0, -1, 1, -1, 0, 1);
        x.post(2).gives(4);
        Books full = Books.opened(-1000, 0).filled(2);
        leavesLegs(full, 1, -8, 0, -1, 1, 1);
    }

    @Says(in = "Promise 5", words = "its entry;")
    static void postGivesItsEntry() {
        Books x = Books.opened(-10, 0);
        x.every(1);
        x.move(1, 0, 1, 1).gives(2);
        x.move(2, 0, 1, 1).gives(4);
        x.entry(4, 0).gives(2);
        x.entry(4, 3).gives(2);
    }

    @Says(in = "Promise 5", words = "NONE without legs,")
    static void postWithoutLegs() {
        Books x = Books.opened(-10, 0);
        x.post(1).gives(-1);
        x.move(1, 0, 1, 1).gives(2);
        x.post(1).gives(-1);
        x.count(1).gives(3);
    }

    @Says(in = "Promise 5", words = "or for key 0;")
    static void postOfKey0() {
        Books x = Books.opened(-10, 0);
        x.leg(0, -1);
        x.leg(1, 1);
        x.post(0).gives(-1);
        x.count(1).gives(2);
        x.post(1L << 32).gives(2);
    }

    @Says(in = "Promise 5", words = "REFUSED.")
    static void refusedPostMakesNoEntry() {
        Books x = Books.opened(-10, 0);
        x.leg(0, -11);
        x.leg(1, 11);
        String before = x.state();
        x.post(1).gives(-6);
        x.stillHasState(before);
    }

    @Says(in = "Promise 6", words = "A HOLD: its entry;")
    static void holdGivesItsEntry() {
        Books x = Books.opened(-10, LEAST);
        x.hold(1, 1, MOST).gives(2);
        x.hold(2, 0, 1).gives(3);
        x.entry(2, 0).gives(3);
        x.account(1, 1).gives(MOST);
        x.account(0, 0).gives(0);
    }

    @Says(in = "Promise 6", words = "NONE: key 0,")
    static void holdOfKey0() {
        Books x = Books.opened(-10);
        x.hold(0, 0, 1).gives(-1);
        x.count(1).gives(1);
        x.hold(1L << 32, 0, 1).gives(1);
    }

    @Says(in = "Promise 6", words = "ACCOUNT not 0 .. 255,")
    static void holdOfAnAccountThatCannotBe() {
        Books x = Books.opened(-10);
        for (int account : new int[] {-1, 256, 65536, LOWEST, HIGHEST}) {
            x.hold(1, account, 1).gives(-1);
        }
        x.hold(1, 255, 1).gives(-2);
        x.hold(1, 0, 1).gives(1);
    }

    @Says(in = "Promise 6", words = "amount not above 0;")
    static void holdOfAnAmountNotAbove0() {
        Books x = Books.opened(-10);
        for (long amount : new long[] {0, -1, LEAST, -MOST}) {
            x.hold(1, 0, amount).gives(-1);
        }
        x.count(3).gives(0);
        x.hold(1, 0, 1).gives(1);
    }

    @Says(in = "Promise 6", words = "REFUSED.")
    static void refusedHoldHoldsNothing() {
        Books x = Books.opened(-10);
        String before = x.state();
        x.hold(1, 0, 11).gives(-6);
        x.hold(1, 1, 1).gives(-2);
        x.stillHasState(before);
    }

    @Says(in = "Promise 7", words = "A RELEASE of the HOLD of this entry: its entry;")
    static void releaseGivesItsEntry() {
        Books x = Books.opened(-10);
        x.hold(1, 0, 3).gives(1);
        x.hold(2, 0, 4).gives(2);
        x.release(1).gives(3);
        x.account(0, 1).gives(4);
        x.entry(1, 5).gives(3);
        x.entry(2, 5).gives(-1);
        x.release(2).gives(4);
    }

    @Says(in = "Promise 7", words = "NONE below 0 or above 199;")
    static void releaseOfANumberThatCannotBe() {
        Books x = Books.opened(-10);
        x.hold(1, 0, 3).gives(1);
        for (int entry : new int[] {-1, 200, 256 + 1, 65536 + 1, LOWEST, LOWEST + 1, HIGHEST}) {
            x.release(entry).gives(-1);
        }
        x.release(0).gives(-2);
        x.release(199).gives(-2);
        x.count(3).gives(1);
    }

    @Says(in = "Promise 7", words = "REFUSED.")
    static void refusedReleaseReleasesNothing() {
        Books x = Books.opened(-10);
        x.hold(1, 0, 3).gives(1);
        x.hold(2, 0, 3).gives(2);
        x.release(1).gives(3);
        String before = x.state();
        x.release(1).gives(-2);
        x.stillHasState(before);
    }

    @Says(in = "Promise 8", words = "A CAPTURE: its entry;")
    static void captureGivesItsEntry() {
        Books x = Books.opened(-10, 0);
        x.hold(1, 0, 3).gives(2);
        x.capture(2, 2, 1, 3).gives(3);
        x.entry(3, 0).gives(5);
        x.entry(2, 5).gives(3);
        x.account(1, 0).gives(3);
    }

    @Says(in = "Promise 8", words = "NONE: key 0,")
    static void captureOfKey0() {
        Books x = held();
        x.capture(0, 2, 1, 1).gives(-1);
        x.capture(1L << 32, 2, 1, 1).gives(3);
    }

    @Says(in = "Promise 8", words = "entry not 0 .. 199,")
    static void captureOfANumberThatCannotBe() {
        Books x = held();
        for (int entry : new int[] {-1, 200, 256 + 2, 65536 + 2, LOWEST, LOWEST + 2, HIGHEST}) {
            x.capture(9, entry, 1, 1).gives(-1);
        }
        x.capture(9, 0, 1, 1).gives(-2);
        x.capture(9, 199, 1, 1).gives(-2);
        x.capture(9, 2, 1, 1).gives(3);
    }

    @Says(in = "Promise 8", words = "ACCOUNT not 0 .. 255,")
    static void captureToAnAccountThatCannotBe() {
        Books x = held();
        for (int account : new int[] {-1, 256, 256 + 1, 65536 + 1, LOWEST, HIGHEST}) {
            x.capture(9, 2, account, 1).gives(-1);
        }
        x.capture(9, 2, 255, 1).gives(-2);
        x.capture(9, 2, 0, 1).gives(3);
    }

    @Says(in = "Promise 8", words = "amount not above 0;")
    static void captureOfAnAmountNotAbove0() {
        Books x = held();
        for (long amount : new long[] {0, -1, LEAST, -MOST}) {
            x.capture(9, 2, 1, amount).gives(-1);
        }
        x.capture(9, 2, 1, 1).gives(3);
    }

    @Says(in = "Promise 8", words = "-2 also if the amount is above the HOLD's;")
    static void captureOfMoreThanTheHold() {
        Books x = held();
        // another HOLD of the same account doesn't help
        x.hold(2, 0, 50).gives(3);
        x.capture(9, 2, 1, 11).gives(-2);
        x.capture(9, 2, 1, MOST).gives(-2);
        x.capture(9, 2, 1, (1L << 32) + 10).gives(-2);
        x.count(3).gives(2);
        x.capture(9, 2, 1, 10).gives(4);
        Books top = Books.opened(LEAST, 0);
        top.hold(1, 0, MOST).gives(2);
        top.capture(2, 2, 1, MOST).gives(3);
    }

    @Says(in = "Promise 8", words = "REFUSED.")
    static void refusedCaptureLeavesTheHold() {
        Books x = held();
        String before = x.state();
        x.capture(9, 2, 1, 11).gives(-2);
        x.capture(9, 2, 5, 1).gives(-2);
        x.capture(1, 2, 1, 1).gives(-4);
        x.stillHasState(before);
    }

    @Says(in = "Promise 9", words = "A REVERSAL: its entry;")
    static void reverseGivesItsEntry() {
        Books x = Books.opened(-10, 0);
        x.move(1, 0, 1, 4).gives(2);
        x.reverse(2, 2).gives(3);
        x.entry(3, 0).gives(6);
        x.entry(2, 5).gives(3);
        x.account(0, 0).gives(0);
        x.account(1, 0).gives(0);
    }

    @Says(in = "Promise 9", words = "NONE: key 0,")
    static void reverseOfKey0() {
        Books x = Books.opened(-10, 0);
        x.move(1, 0, 1, 4).gives(2);
        x.reverse(0, 2).gives(-1);
        x.count(1).gives(3);
        x.reverse(1L << 32, 2).gives(3);
    }

    @Says(in = "Promise 9", words = "entry not 0 .. 199;")
    static void reverseOfANumberThatCannotBe() {
        Books x = Books.opened(-10, 0);
        x.move(1, 0, 1, 4).gives(2);
        for (int entry : new int[] {-1, 200, 256 + 2, 65536 + 2, LOWEST, LOWEST + 2, HIGHEST}) {
            x.reverse(9, entry).gives(-1);
        }
        x.reverse(9, 0).gives(-2);
        x.reverse(9, 199).gives(-2);
        x.reverse(9, 2).gives(3);
    }

    @Says(in = "Promise 9", words = "REFUSED.")
    static void refusedReversalChangesNothing() {
        Books x = Books.opened(-10, 0);
        x.move(1, 0, 1, 4).gives(2);
        x.hold(2, 1, 1).gives(3);
        String before = x.state();
        x.reverse(9, 2).gives(-6);
        x.reverse(9, 3).gives(-2);
        x.stillHasState(before);
    }

    @Says(in = "Promise 10", words = "EVERY becomes n (0 .. 50),")
    static void everyGoesFrom0To50() {
        Books x = new Books();
        for (int n = 0; n <= 50; n++) {
            x.every(n).gives(n == 0 ? 0 : n - 1);
            x.count(4).gives(n);
        }
    }

    @Says(in = "Promise 10", words = "counted from now:")
    static void everyIsCountedFromNow() {
        Books x = Books.opened(-10, 0);
        x.every(2);
        x.move(1, 0, 1, 1).gives(2);
        x.count(5).gives(1);
        x.every(2).gives(2);
        x.count(5).gives(0);
        x.move(2, 0, 1, 1).gives(3);
        x.count(1).gives(4);
        // as many as are told at once: none was counted before
        x.every(1).gives(2);
        x.count(1).gives(4);
        x.move(3, 0, 1, 1).gives(4);
        x.entry(5, 0).gives(7);
        x.every(0).gives(1);
        x.move(4, 0, 1, 1).gives(6);
        x.count(5).gives(1);
        x.every(0).gives(0);
        x.count(5).gives(0);
    }

    @Says(in = "Promise 10", words = "what it was;")
    static void everyGivesWhatItWas() {
        Books x = new Books();
        x.every(50).gives(0);
        x.every(50).gives(50);
        x.every(0).gives(50);
        x.every(3).gives(0);
    }

    @Says(in = "Promise 10", words = "NONE for others.")
    static void everyOfOthersChangesNothing() {
        Books x = Books.opened(-10, 0);
        x.every(3);
        x.move(1, 0, 1, 1).gives(2);
        for (int n : new int[] {-1, 51, 256, 256 + 3, LOWEST, HIGHEST}) {
            x.every(n).gives(-1);
        }
        x.count(4).gives(3);
        x.count(5).gives(1);
        x.move(2, 0, 1, 1).gives(3);
        x.move(3, 0, 1, 1).gives(4);
        x.entry(5, 0).gives(7);
    }

    /** Accounts 0 and 1, and entry 2, a HOLD of 10 of account 0 by key 1. */
    private static Books held() {
        Books x = Books.opened(-100, 0);
        x.hold(1, 0, 10).gives(2);
        return x;
    }

    private static void leavesLegs(Books x, long key, int want, long... accountsAndAmounts) {
        x.postOf(key, accountsAndAmounts).gives(want);
        x.count(6).gives(accountsAndAmounts.length / 2);
    }
}
