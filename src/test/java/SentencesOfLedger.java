/** Terms I without REFUSED: ACCOUNTS, ENTRIES and their bytes, legs, HOLDS, TRIALS. */
public final class SentencesOfLedger {
    private static final long LEAST = Books.LEAST;
    private static final long MOST = Books.MOST;

    public static void main(String[] args) throws IllegalAccessException {
        SentenceTests.run(SentencesOfLedger.class);
    }

    @Says(in = "Terms", words = "I. ACCOUNTS 0 .. 39, as they are opened,")
    static void accountsAre0To39() {
        Books x = new Books();
        for (int a = 0; a < 40; a++) {
            x.account(a, 2).gives(Books.NOTHING);
            x.open(-a).gives(a);
            x.account(a, 2).gives(-a);
        }
        x.open(-40).gives(-1);
        x.account(40, 2).gives(Books.NOTHING);
        x.move(1, 39, 0, 39).gives(40);
        x.account(39, 0).gives(-39);
    }

    @Says(in = "Terms", words = "have a FLOOR (any number of 64 bits with a sign),")
    static void floorHas64Bits() {
        long[] floors = {LEAST, LEAST + 1, -(1L << 32) - 1, -(1L << 31) - 1, -256, -1, 0};
        Books x = Books.opened(floors);
        for (int a = 0; a < floors.length; a++) {
            x.account(a, 2).gives(floors[a]);
        }
    }

    @Says(in = "Terms", words = "a BALANCE (0 at first,")
    static void balanceIs0AtFirst() {
        Books.opened(-5).account(0, 0).gives(0);
    }

    @Says(in = "Terms", words = "such a number) and HOLDS.")
    static void balanceGoesFromTheLeastToTheMost() {
        Books x = Books.opened(LEAST, LEAST, LEAST);
        x.postOf(1, 0, -MOST, 0, -1, 1, MOST, 2, 1).gives(3);
        x.account(0, 0).gives(LEAST);
        x.account(1, 0).gives(MOST);
        x.account(1, 1).gives(0);
    }

    @Says(in = "Terms", words = "ENTRIES 0 .. 199 of THE JOURNAL,")
    static void entriesAre0To199() {
        Books x = Books.opened(-1000).filled(1);
        x.count(1).gives(200);
        x.entry(0, 0).gives(1);
        x.entry(199, 0).gives(3);
        x.entry(200, 0).gives(Books.NOTHING);
        x.hold(1, 0, 1).gives(-8);
        x.count(1).gives(200);
    }

    @Says(in = "Terms", words = "each a row of bytes: its KIND, then")
    static void rowsBeginWithTheirKindOneBehindTheOther() {
        Books x = Books.ofAllKinds();
        int[] kinds = {1, 1, 2, 3, 4, 3, 5, 6, 7};
        int[] sizes = {9, 9, 28, 18, 3, 18, 20, 11, 18};
        int start = 0;
        for (int i = 0; i < kinds.length; i++) {
            x.entry(i, 0).gives(kinds[i]);
            x.entry(i, 2).gives(start);
            x.entry(i, 1).gives(sizes[i]);
            x.data(start).gives(kinds[i]);
            start += sizes[i];
        }
        x.count(2).gives(start);
        x.data(start).gives(-1);
    }

    @Says(in = "Terms", words = "(numbers of 8,")
    static void numbersOf8BytesTheHighestFirstWithASign() {
        Books x = Books.opened(0x8102030405060708L);
        x.hasBytes(0, new byte[] {1, (byte) 0x81, 2, 3, 4, 5, 6, 7, 8});
        x.hold(0xF1E2D3C4B5A69788L, 0, 0x0102030405060708L).gives(1);
        x.hasBytes(1, new byte[] {3, (byte) 0xF1, (byte) 0xE2, (byte) 0xD3, (byte) 0xC4, (byte) 0xB5, (byte) 0xA6,
            (byte) 0x97, (byte) 0x88, 0, 1, 2, 3, 4, 5, 6, 7, 8});
    }

    @Says(in = "Terms", words = "2,")
    static void numbersOf2BytesTheHighestFirst() {
        Books x = Books.opened(-1000);
        for (int i = 1; i < 199; i++) {
            x.hold(i, 0, 1).gives(i);
        }
        x.release(198).gives(199);
        x.hasBytes(199, new byte[] {4, 0, (byte) 198});
    }

    @Says(in = "Terms", words = "16 bytes the highest byte first, with a sign;")
    static void numbersOf16BytesTheHighestFirst() {
        Books x = Books.opened(LEAST, 0, LEAST, 0, LEAST, 0);
        x.every(1);
        x.move(1, 0, 1, 0x0102030405060708L).gives(6);
        x.hasBytes(7, new byte[] {7, 6, 0, 0, 0, 0, 0, 0, 0, 0, 1, 2, 3, 4, 5, 6, 7, 8});
        x.move(2, 2, 3, MOST).gives(8);
        // the 64th bit is set, which is no sign here
        x.hasBytes(9, new byte[] {7, 6, 0, 0, 0, 0, 0, 0, 0, 0, (byte) 0x81, 2, 3, 4, 5, 6, 7, 7});
        x.move(3, 4, 5, MOST).gives(10);
        x.hasBytes(11, new byte[] {7, 6, 0, 0, 0, 0, 0, 0, 0, 1, 1, 2, 3, 4, 5, 6, 7, 6});
    }

    @Says(in = "Terms", words = "others one byte):")
    static void othersHaveOneByte() {
        Books x = new Books();
        for (int a = 0; a < 40; a++) {
            x.open(-8);
        }
        x.every(1);
        x.postOf(-1, 39, 1, 38, -1, 37, 1, 36, -1, 35, 1, 34, -1, 33, 1, 32, -1).gives(40);
        x.data(360 + 9).gives(8);
        for (int k = 0; k < 8; k++) {
            x.data(360 + 10 + 9 * k).gives(39 - k);
        }
        x.data(360 + 82).gives(7);
        x.data(360 + 82 + 1).gives(40);
    }

    @Says(in = "Terms", words = "1 OPEN: FLOOR (8).")
    static void bytesOfAnOpen() {
        Books x = Books.opened(0, LEAST, -1);
        x.hasBytes(0, EntryBytes.open(0));
        x.hasBytes(1, EntryBytes.open(LEAST));
        x.hasBytes(2, EntryBytes.open(-1));
    }

    @Says(in = "Terms", words = "2 POST: key (8), how many legs, of each its ACCOUNT, amount (8).")
    static void bytesOfAPost() {
        Books x = Books.opened(LEAST, LEAST, LEAST);
        x.postOf(LEAST, 0, -MOST, 1, MOST).gives(3);
        x.hasBytes(3, EntryBytes.post(LEAST, 0, -MOST, 1, MOST));
        long[] eight = {2, 1, 0, 2, 2, 3, 0, 4, 2, -1, 0, -2, 2, -3, 0, -4};
        x.postOf(MOST, eight).gives(4);
        x.hasBytes(4, EntryBytes.post(MOST, eight));
        x.entry(4, 1).gives(82);
    }

    @Says(in = "Terms", words = "3 HOLD: key, ACCOUNT, amount (8).")
    static void bytesOfAHold() {
        Books x = Books.opened(0, LEAST);
        x.hold(-1, 1, MOST).gives(2);
        x.hasBytes(2, EntryBytes.hold(-1, 1, MOST));
        x.hold(7, 1, 1).gives(3);
        x.hasBytes(3, EntryBytes.hold(7, 1, 1));
    }

    @Says(in = "Terms", words = "4 RELEASE: the HOLD's entry (2).")
    static void bytesOfARelease() {
        Books x = Books.opened(-9);
        x.hold(1, 0, 9);
        x.release(1).gives(2);
        x.hasBytes(2, EntryBytes.release(1));
    }

    @Says(in = "Terms", words = "5 CAPTURE: key, the HOLD's entry (2), ACCOUNT, amount (8).")
    static void bytesOfACapture() {
        Books x = Books.opened(LEAST, 0);
        x.hold(1, 0, MOST);
        x.capture(LEAST, 2, 1, MOST - 1).gives(3);
        x.hasBytes(3, EntryBytes.capture(LEAST, 2, 1, MOST - 1));
    }

    @Says(in = "Terms", words = "6 REVERSAL: key, entry (2).")
    static void bytesOfAReversal() {
        Books x = Books.opened(-9, -9);
        x.move(1, 0, 1, 9).gives(2);
        x.reverse(-2, 2).gives(3);
        x.hasBytes(3, EntryBytes.reversal(-2, 2));
    }

    @Says(in = "Terms", words = "7 TRIAL: how many ACCOUNTS, the sum of all BALANCES above 0 (16).")
    static void bytesOfATrial() {
        Books x = Books.opened(LEAST, LEAST, LEAST);
        x.every(1);
        x.postOf(1, 0, 5, 0, -5).gives(3);
        x.hasBytes(4, EntryBytes.trial(3, 0));
        x.postOf(2, 0, -300, 1, 299, 2, 1).gives(5);
        x.hasBytes(6, EntryBytes.trial(3, 300));
        x.open(0).gives(3);
        x.postOf(3, 0, -MOST + 300, 1, MOST - 300, 2, -1, 3, 1).gives(8);
        x.hasBytes(9, EntryBytes.trial(4, MOST));
    }

    @Says(in = "Terms", words = "the sum of all BALANCES above 0 (16).")
    static void sumOfATrialIsAlsoOfTheFirstAndTheLastAccount() {
        Books x = Books.opened(LEAST, LEAST, LEAST);
        x.every(1);
        x.move(1, 1, 0, 7).gives(3);
        x.hasBytes(4, EntryBytes.trial(3, 7));
        x.move(2, 1, 2, 50).gives(5);
        x.hasBytes(6, EntryBytes.trial(3, 57));
        x.move(3, 0, 1, 8).gives(7);
        x.hasBytes(8, EntryBytes.trial(3, 50));
    }

    @Says(in = "Terms", words = "An entry's legs: of a POST those that are told;")
    static void legsOfAPost() {
        Books x = Books.opened(LEAST, LEAST);
        long[] amounts = {MOST, -MOST, -1, 2, -3, 4, 2, -4};
        for (int k = 0; k < 8; k++) {
            x.leg(k % 2, amounts[k]);
        }
        x.post(1).gives(2);
        hasLegs(x, 2, 0, MOST, 1, -MOST, 0, -1, 1, 2, 0, -3, 1, 4, 0, 2, 1, -4);
        x.account(0, 0).gives(MOST - 2);
        x.account(1, 0).gives(-MOST + 2);
    }

    @Says(in = "Terms", words = "of a CAPTURE minus its amount of the HOLD's ACCOUNT, and its amount of the ACCOUNT;")
    static void legsOfACapture() {
        Books x = Books.opened(-9, -9, -9);
        x.hold(1, 2, 9);
        x.capture(2, 3, 1, 4).gives(4);
        hasLegs(x, 4, 2, -4, 1, 4);
        x.account(2, 0).gives(-4);
        x.account(1, 0).gives(4);
        x.account(0, 0).gives(0);
        x.hold(3, 0, 9);
        x.capture(4, 5, 0, 9).gives(6);
        hasLegs(x, 6, 0, -9, 0, 9);
        x.account(0, 0).gives(0);
    }

    @Says(in = "Terms", words = "of a REVERSAL those of the entry, in their order, each with the other sign;")
    static void legsOfAReversal() {
        Books x = Books.opened(LEAST, LEAST, LEAST);
        x.postOf(1, 2, 7, 0, MOST, 1, -MOST, 0, -7).gives(3);
        x.reverse(2, 3).gives(4);
        hasLegs(x, 4, 2, -7, 0, -MOST, 1, MOST, 0, 7);
        x.reverse(3, 4).gives(5);
        hasLegs(x, 5, 2, 7, 0, MOST, 1, -MOST, 0, -7);
        x.hold(4, 2, 5);
        x.capture(5, 6, 1, 3).gives(7);
        x.reverse(6, 7).gives(8);
        hasLegs(x, 8, 2, 3, 1, -3);
        x.account(2, 0).gives(7);
    }

    @Says(in = "Terms", words = "none of others.")
    static void noLegsOfOthers() {
        Books x = Books.ofAllKinds();
        for (int i : new int[] {0, 3, 4, 8}) {
            x.entry(i, 4).gives(0);
            x.entry(i, 10).gives(Books.NOTHING);
            x.entry(i, 30).gives(Books.NOTHING);
        }
    }

    @Says(in = "Terms", words = "Legs are added to BALANCES one by one.")
    static void legsAreAddedOneByOne() {
        Books x = Books.opened(LEAST, LEAST);
        x.postOf(1, 0, -MOST, 0, MOST, 0, -MOST, 0, MOST - 1, 1, 1).gives(2);
        x.account(0, 0).gives(-1);
        x.account(1, 0).gives(1);
        // all at once they would come to a number of 64 bits
        x.postOf(2, 1, MOST, 1, -MOST, 0, 5, 0, -5).gives(-5);
        x.postOf(2, 1, -MOST, 1, MOST, 0, 5, 0, -5).gives(3);
    }

    @Says(in = "Terms", words = "A HOLD is there till its RELEASE")
    static void holdIsThereTillItsRelease() {
        Books x = Books.opened(-10);
        x.hold(1, 0, 10).gives(1);
        x.count(3).gives(1);
        x.hold(2, 0, 1).gives(-6);
        x.release(1).gives(2);
        x.count(3).gives(0);
        x.hold(2, 0, 10).gives(3);
    }

    @Says(in = "Terms", words = "or CAPTURE (which ends it whole).")
    static void captureOfAPartEndsTheHoldWhole() {
        Books x = Books.opened(-10, 0);
        x.hold(1, 0, 10).gives(2);
        x.capture(2, 2, 1, 1).gives(3);
        x.count(3).gives(0);
        x.account(0, 1).gives(0);
        x.capture(3, 2, 1, 1).gives(-2);
        x.hold(3, 0, 9).gives(4);
        x.hold(4, 0, 1).gives(-6);
    }

    @Says(in = "Terms", words = "HOLDS of an ACCOUNT: the sum of those that are there.")
    static void holdsAreTheSumOfThoseThatAreThere() {
        Books x = Books.opened(LEAST, LEAST);
        x.hold(1, 0, 5).gives(2);
        x.hold(2, 1, 70).gives(3);
        x.hold(3, 0, 6).gives(4);
        x.hold(4, 0, 1L << 40).gives(5);
        x.account(0, 1).gives((1L << 40) + 11);
        x.account(1, 1).gives(70);
        x.release(4).gives(6);
        x.account(0, 1).gives((1L << 40) + 5);
        x.capture(5, 5, 1, 1).gives(7);
        x.account(0, 1).gives(5);
        // the HOLD stays gone although its CAPTURE is REVERSED
        x.reverse(6, 7).gives(8);
        x.account(0, 1).gives(5);
        x.account(1, 1).gives(70);
    }

    @Says(in = "Terms", words = "TRIALS: behind every so many")
    static void trialsComeBehindEverySoMany() {
        for (int n : new int[] {1, 2, 3, 50}) {
            Books x = Books.opened(-100, 0);
            x.every(n);
            for (int i = 0; i < n; i++) {
                x.count(1).gives(2 + i);
                x.move(1 + i, 0, 1, 1).gives(2 + i);
            }
            x.count(1).gives(3 + n);
            x.entry(2 + n, 0).gives(7);
        }
    }

    @Says(in = "Terms", words = "(EVERY, 0: never;")
    static void everyOf0BringsNoTrial() {
        Books x = Books.opened(-100, 0);
        x.every(1);
        x.every(0);
        for (int i = 0; i < 52; i++) {
            x.move(1 + i, 0, 1, 1).gives(2 + i);
        }
        x.count(1).gives(54);
    }

    @Says(in = "Terms", words = "0 at first)")
    static void everyIs0AtFirst() {
        Books x = Books.opened(-100, 0);
        x.count(4).gives(0);
        for (int i = 0; i < 52; i++) {
            x.move(1 + i, 0, 1, 1).gives(2 + i);
        }
        x.count(1).gives(54);
        x.every(7).gives(0);
    }

    @Says(in = "Terms", words = "POSTS, CAPTURES and REVERSALS")
    static void postsCapturesAndReversalsAloneCount() {
        Books x = Books.opened(-100, -100);
        x.every(3);
        x.move(1, 0, 1, 1).gives(2);
        x.count(5).gives(1);
        x.hold(2, 0, 1).gives(3);
        x.hold(3, 0, 1).gives(4);
        x.release(3).gives(5);
        x.open(0).gives(2);
        x.count(5).gives(1);
        x.move(1, 0, 1, 1).gives(2);
        x.move(4, 2, 1, 1).gives(-6);
        x.count(5).gives(1);
        x.capture(5, 4, 1, 1).gives(7);
        x.count(5).gives(2);
        x.capture(5, 4, 1, 1).gives(7);
        x.count(1).gives(8);
        x.reverse(6, 2).gives(8);
        x.entry(9, 0).gives(7);
        x.count(5).gives(0);
    }

    @Says(in = "Terms", words = "since the latest TRIAL,")
    static void theNextTrialCountsFromTheLatest() {
        Books x = Books.opened(-100, 0);
        x.every(2);
        for (int i = 0; i < 6; i++) {
            x.move(1 + i, 0, 1, 1).gives(2 + i + i / 2);
            x.count(5).gives((i + 1) % 2);
        }
        for (int i : new int[] {4, 7, 10}) {
            x.entry(i, 0).gives(7);
        }
        x.count(1).gives(11);
    }

    @Says(in = "Terms", words = "or since EVERY was told,")
    static void everyToldAgainBeginsAnew() {
        Books x = Books.opened(-100, 0);
        x.move(1, 0, 1, 1).gives(2);
        x.move(2, 0, 1, 1).gives(3);
        // those before EVERY was told don't count
        x.every(2);
        x.move(3, 0, 1, 1).gives(4);
        x.every(2);
        x.move(4, 0, 1, 1).gives(5);
        x.count(1).gives(6);
        x.move(5, 0, 1, 1).gives(6);
        x.entry(7, 0).gives(7);
        x.every(1);
        x.move(6, 0, 1, 1).gives(8);
        x.entry(9, 0).gives(7);
    }

    @Says(in = "Terms", words = "a TRIAL comes by itself as the next entry")
    static void trialIsTheNextEntry() {
        Books x = Books.opened(-100, 0);
        x.every(1);
        x.move(1, 0, 1, 5).gives(2);
        x.hasBytes(3, EntryBytes.trial(2, 5));
        x.hold(2, 0, 1).gives(4);
        x.capture(3, 4, 1, 1).gives(5);
        x.hasBytes(6, EntryBytes.trial(2, 6));
        x.reverse(4, 2).gives(7);
        x.hasBytes(8, EntryBytes.trial(2, 1));
        x.open(0).gives(2);
        x.entry(9, 0).gives(1);
    }

    @Says(in = "Terms", words = "(not if there are 200).")
    static void noTrialBehind200Entries() {
        Books last = nearlyFull(198);
        last.move(1, 0, 1, 1).gives(198);
        last.entry(199, 0).gives(7);
        last.count(5).gives(0);
        Books none = nearlyFull(199);
        none.move(1, 0, 1, 1).gives(199);
        none.count(1).gives(200);
        none.entry(199, 0).gives(2);
        none.count(5).gives(1);
        none.audit().gives(Books.NONE);
    }

    private static Books nearlyFull(int entries) {
        Books x = Books.opened(-1000, 0);
        x.every(1);
        for (int i = 2; i < entries; i++) {
            x.hold(1000 + i, 0, 1).gives(i);
        }
        return x;
    }

    private static void hasLegs(Books x, int entry, long... accountsAndAmounts) {
        int legs = accountsAndAmounts.length / 2;
        x.entry(entry, 4).gives(legs);
        for (int k = 0; k < legs; k++) {
            x.entry(entry, 10 + k).gives(accountsAndAmounts[2 * k]);
            x.entry(entry, 30 + k).gives(accountsAndAmounts[2 * k + 1]);
        }
        x.entry(entry, 10 + legs).gives(Books.NOTHING);
        x.entry(entry, 30 + legs).gives(Books.NOTHING);
    }
}
