import java.util.Arrays;

/**
 * Promise 22. Where an entry has to be told as a bad one, entry 0 is altered too, into another that is good: if the
 * bad one weren't seen, audit() would tell 0, the first whose bytes are not what they were.
 */
public final class SentencesOfAudit {
    private static final long LEAST = Books.LEAST;
    private static final long MOST = Books.MOST;
    private static final String READ = "All bytes are read from the first one on as entries of a ledger,";
    private static final String CALLED = "each as if it were called then";
    private static final String WHERE = "and only where it has to:";
    private static final String EVERY = "EVERY as it was told then):";
    private static final String GOOD = "NONE if all are good and they tell what is so;";
    private static final String UNREADABLE = "else the number of the first that can't be read,";
    private static final String REFUSED = "or would be REFUSED,";
    private static final String SECOND = "or isn't just what such a call gives (also a second one by a key);";
    private static final String ALTERED = "if there is none such, of the first whose bytes are not what they were.";

    public static void main(String[] args) throws IllegalAccessException {
        SentenceTests.run(SentencesOfAudit.class);
    }

    @Says(in = "Promise 22", words = READ)
    static void entriesAreWhereTheBytesTellThem() {
        Books x = Books.opened(-100);
        x.hold(1, 0, 1).gives(1);
        x.hold(2, 0, 1).gives(2);
        x.release(2).gives(3);
        // two OPENS have the bytes of a HOLD, so that all behind it are one number further
        x.overwrite(1, EntryBytes.open(0), EntryBytes.open(0));
        x.audit().gives(4);
        x.overwrite(3, EntryBytes.release(3));
        x.audit().gives(1);
    }

    @Says(in = "Promise 22", words = READ)
    static void bytesAreReadToTheLastOne() {
        Books x = ledger();
        int last = (int) x.count(2).value() - 1;
        x.alter(0, 2);
        x.audit().gives(0);
        x.alter(0, 2);
        x.alter(last, 1);
        x.audit().gives(8);
    }

    @Says(in = "Promise 22", words = READ)
    static void nothingIsLeftOfAnAuditBefore() {
        Books reversal = ledger();
        reversal.audit().gives(-1);
        isBad(reversal, 5, EntryBytes.reversal(4, 5));
        Books hold = Books.opened(-100);
        hold.hold(1, 0, 1).gives(1);
        hold.audit().gives(-1);
        isBad(hold, 1, EntryBytes.release(1), EntryBytes.release(1));
        Books legs = Books.opened(-100, -100);
        legs.hold(1, 0, 1).gives(2);
        legs.move(2, 0, 1, 5).gives(3);
        legs.reverse(3, 3).gives(4);
        legs.audit().gives(-1);
        // entry 3 is an OPEN then, and the REVERSAL of it is entry 5
        isAltered(legs);
        legs.overwrite(2, EntryBytes.open(0), EntryBytes.open(0));
        legs.audit().gives(5);
        Books leg = Books.opened(-100, 0);
        leg.postOf(1, 0, -10, 1, 5, 1, 5).gives(2);
        leg.reverse(2, 2).gives(3);
        leg.audit().gives(-1);
        // the REVERSAL is of two legs then, since the third is read as an OPEN
        isGood(leg, 2, EntryBytes.post(1, 0, -5, 1, 5), EntryBytes.open(0));
    }

    @Says(in = "Promise 22", words = CALLED)
    static void accountThatIsOpenedLaterIsNotThereThen() {
        Books x = Books.opened(-100);
        x.hold(1, 0, 1).gives(1);
        x.open(-100).gives(1);
        isBad(x, 1, EntryBytes.hold(1, 1, 1));
        Books y = Books.opened(-100, -100);
        y.hold(1, 0, 1).gives(2);
        isGood(y, 2, EntryBytes.hold(1, 1, 1));
    }

    @Says(in = "Promise 22", words = CALLED)
    static void holdThatIsGoneNowWasThereThen() {
        Books x = Books.opened(-10, 0);
        x.hold(1, 0, 10).gives(2);
        x.capture(2, 2, 1, 10).gives(3);
        x.reverse(3, 3).gives(4);
        x.hold(4, 0, 10).gives(5);
        x.release(5).gives(6);
        x.audit().gives(-1);
    }

    @Says(in = "Promise 22", words = CALLED)
    static void balanceIsThatOfThen() {
        Books x = Books.opened(-100, 0);
        x.move(1, 0, 1, 5).gives(2);
        x.move(2, 0, 1, 5).gives(3);
        x.move(3, 0, 1, 5).gives(4);
        // account 1 has 15 now, but had 5 then
        isBad(x, 3, EntryBytes.post(2, 1, -6, 0, 6));
        isGood(x, 3, EntryBytes.post(2, 1, -5, 0, 5));
    }

    @Says(in = "Promise 22", words = CALLED)
    static void fullLedgerWasNotFullThen() {
        Books.opened(-1000).filled(1).audit().gives(-1);
    }

    @Says(in = "Promise 22", words = "(a TRIAL as it has to be,")
    static void eachByteOfATrialHasToBe() {
        for (int b = 0; b < 18; b++) {
            Books x = withTrial();
            byte[] trial = EntryBytes.trial(2, 5);
            trial[b] ^= 1;
            isBad(x, 3, trial);
            isGood(x, 3, EntryBytes.trial(2, 5));
        }
    }

    @Says(in = "Promise 22", words = "(a TRIAL as it has to be,")
    static void trialIsOfTheEntriesAsTheyAreRead() {
        Books x = withTrial();
        isBad(x, 3, EntryBytes.trial(2, 6));
        x.overwrite(2, EntryBytes.post(1, 0, -6, 1, 6));
        x.audit().gives(0);
        x.overwrite(3, EntryBytes.trial(2, 5));
        x.audit().gives(3);
    }

    @Says(in = "Promise 22", words = WHERE)
    static void trialWhereNoneHasToBe() {
        // never told; one POST of two; right behind a TRIAL
        Books never = Books.opened(-100, 0);
        never.move(1, 0, 1, 5).gives(2);
        never.hold(2, 0, 1).gives(3);
        isBad(never, 3, EntryBytes.trial(2, 5));
        Books one = Books.opened(-100, 0);
        one.every(2);
        one.move(1, 0, 1, 5).gives(2);
        one.hold(2, 0, 1).gives(3);
        isBad(one, 3, EntryBytes.trial(2, 5));
        Books second = withTrial();
        isBad(second, 4, EntryBytes.trial(2, 5));
    }

    @Says(in = "Promise 22", words = WHERE)
    static void anotherEntryWhereATrialHasToBe() {
        Books x = withTrial();
        isBad(x, 3, EntryBytes.hold(9, 0, 1));
        isBad(x, 3, EntryBytes.open(0), EntryBytes.open(0));
    }

    /** Two HOLDS and a RELEASE have as many bytes as a POST of two legs and its REVERSAL. */
    @Says(in = "Promise 22", words = WHERE)
    static void noBytesWhereATrialHasToBe() {
        int[] told = {0, 1, 2, 3};
        int[] want = {0, 3, 4, 0};
        for (int k = 0; k < told.length; k++) {
            Books x = Books.opened(-100, 0);
            x.every(told[k]);
            x.hold(1, 0, 1).gives(2);
            x.hold(2, 0, 1).gives(3);
            x.release(2).gives(4);
            isAltered(x);
            x.overwrite(2, EntryBytes.post(1, 0, -5, 1, 5), EntryBytes.reversal(2, 2));
            x.audit().gives(want[k]);
        }
    }

    /** Two HOLDS and an OPEN have as many bytes as a POST of two legs and a TRIAL but its last byte, which is 0 here. */
    @Says(in = "Promise 22", words = WHERE)
    static void tooFewBytesWhereATrialHasToBe() {
        Books x = Books.opened(-1000, 0);
        x.every(1);
        x.hold(1, 0, 1).gives(2);
        x.hold(2, 0, 1).gives(3);
        x.open(0).gives(2);
        isAltered(x);
        x.overwrite(2, EntryBytes.post(1, 0, -256, 1, 256), Arrays.copyOf(EntryBytes.trial(2, 256), 17));
        x.audit().gives(3);
    }

    @Says(in = "Promise 22", words = WHERE)
    static void noTrialHasToBeBehind200() {
        Books x = Books.opened(-1000, 0);
        x.every(1);
        for (int i = 2; i < 198; i++) {
            x.hold(i, 0, 1).gives(i);
        }
        x.move(1000, 0, 1, 5).gives(198);
        x.count(1).gives(200);
        x.audit().gives(-1);
        Books y = Books.opened(-1000, 0);
        y.every(1);
        for (int i = 2; i < 199; i++) {
            y.hold(i, 0, 1).gives(i);
        }
        y.move(1000, 0, 1, 5).gives(199);
        y.audit().gives(-1);
        isGood(y, 199, EntryBytes.post(1000, 0, -6, 1, 6));
    }

    @Says(in = "Promise 22", words = EVERY)
    static void everyIsThatOfThenAndNotOfNow() {
        Books x = Books.opened(-100, 0);
        x.move(1, 0, 1, 1).gives(2);
        x.every(2);
        x.move(2, 0, 1, 1).gives(3);
        x.move(3, 0, 1, 1).gives(4);
        x.entry(5, 0).gives(7);
        x.every(0);
        x.move(4, 0, 1, 1).gives(6);
        x.move(5, 0, 1, 1).gives(7);
        x.every(1);
        x.move(6, 0, 1, 1).gives(8);
        x.entry(9, 0).gives(7);
        x.every(50);
        x.audit().gives(-1);
        isBad(x, 5, EntryBytes.hold(9, 0, 1));
        x.overwrite(5, EntryBytes.trial(2, 3));
        isBad(x, 9, EntryBytes.hold(9, 0, 1));
    }

    @Says(in = "Promise 22", words = EVERY)
    static void everyToldTwiceAtOnceIsTheLast() {
        Books x = Books.opened(-100, 0);
        x.every(1);
        x.every(2);
        x.move(1, 0, 1, 1).gives(2);
        x.hold(2, 0, 1).gives(3);
        x.move(3, 0, 1, 1).gives(4);
        x.entry(5, 0).gives(7);
        x.every(1);
        x.every(0);
        x.move(4, 0, 1, 1).gives(6);
        x.audit().gives(-1);
        isBad(x, 3, EntryBytes.trial(2, 1));
    }

    @Says(in = "Promise 22", words = EVERY)
    static void everyToldAgainBeginsAnew() {
        Books x = Books.opened(-100, 0);
        x.every(2);
        x.move(1, 0, 1, 1).gives(2);
        x.every(2);
        x.move(2, 0, 1, 1).gives(3);
        x.hold(3, 0, 1).gives(4);
        x.audit().gives(-1);
        isBad(x, 4, EntryBytes.trial(2, 2));
    }

    @Says(in = "Promise 22", words = EVERY)
    static void everyThatCannotBeWasNotTold() {
        Books x = Books.opened(-100, 0);
        x.every(2);
        x.move(1, 0, 1, 1).gives(2);
        x.every(51).gives(-1);
        x.every(-1).gives(-1);
        x.move(2, 0, 1, 1).gives(3);
        x.entry(4, 0).gives(7);
        x.audit().gives(-1);
    }

    @Says(in = "Promise 22", words = EVERY)
    static void everyToldBehindAllEntriesOrBehind200() {
        Books x = Books.opened(-100, 0);
        x.move(1, 0, 1, 1).gives(2);
        x.every(1);
        x.audit().gives(-1);
        Books full = Books.opened(-1000).filled(1);
        full.every(1).gives(0);
        full.audit().gives(-1);
    }

    /** Read anew, 2 is a POST behind which a TRIAL comes by itself as entry 3, where EVERY was told. */
    @Says(in = "Promise 22", words = {WHERE, EVERY})
    static void trialHasToBeThoughEveryWasToldThere() {
        for (int told : new int[] {0, 1, 2, 50}) {
            Books x = Books.opened(-100, 0);
            x.every(1);
            x.hold(1, 0, 1).gives(2);
            x.every(told).gives(1);
            x.hold(2, 0, 1).gives(3);
            x.release(2).gives(4);
            isAltered(x);
            x.overwrite(2, EntryBytes.post(1, 0, -5, 1, 5), EntryBytes.reversal(2, 2));
            x.audit().gives(3);
        }
    }

    @Says(in = "Promise 22", words = {WHERE, EVERY})
    static void trialWithoutBytesHasToBeThoughEveryWasToldThere() {
        for (int told : new int[] {0, 1, 2, 50}) {
            Books x = Books.opened(-100, 0);
            x.every(2);
            x.hold(1, 0, 1).gives(2);
            x.hold(2, 0, 1).gives(3);
            x.every(told).gives(2);
            x.release(2).gives(4);
            isAltered(x);
            x.overwrite(2, EntryBytes.post(1, 0, -5, 1, 5), EntryBytes.reversal(2, 2));
            x.audit().gives(4);
        }
    }

    /** A HOLD and a POST of two legs have as many bytes as such a POST and a TRIAL. */
    @Says(in = "Promise 22", words = {WHERE, EVERY})
    static void everyToldWhereATrialComesIsThatBehindIt() {
        Books x = Books.opened(-100, 0);
        x.every(1);
        x.hold(1, 0, 1).gives(2);
        x.every(2);
        x.move(2, 0, 1, 5).gives(3);
        x.move(3, 0, 1, 5).gives(4);
        x.entry(5, 0).gives(7);
        x.move(4, 0, 1, 5).gives(6);
        x.hold(5, 0, 1).gives(7);
        isAltered(x);
        x.overwrite(2, EntryBytes.post(2, 0, -5, 1, 5), EntryBytes.trial(2, 5));
        // one POST of two is behind the TRIAL that is entry 3 now, so the one that was made as entry 5 has not to be
        x.audit().gives(5);
        x.overwrite(5, EntryBytes.hold(1, 0, 1));
        x.audit().gives(7);
        x.overwrite(7, EntryBytes.trial(2, 15));
        x.audit().gives(0);
    }

    @Says(in = "Promise 22", words = {WHERE, EVERY})
    static void neverToldWhereATrialComesIsNeverBehindIt() {
        Books x = Books.opened(-100, 0);
        x.every(1);
        x.hold(1, 0, 1).gives(2);
        x.every(0);
        x.move(2, 0, 1, 5).gives(3);
        x.move(3, 0, 1, 5).gives(4);
        isAltered(x);
        x.overwrite(2, EntryBytes.post(2, 0, -5, 1, 5), EntryBytes.trial(2, 5));
        x.audit().gives(0);
    }

    @Says(in = "Promise 22", words = GOOD)
    static void noEntriesAreGood() {
        new Books().audit().gives(-1);
    }

    @Says(in = "Promise 22", words = GOOD)
    static void eachByteThatIsAlteredIsSeen() {
        Books x = ledger();
        int bytes = (int) x.count(2).value();
        int seen = 0;
        for (int i = 0; i < bytes; i++) {
            x.alter(i, 1 << i % 8);
            seen += x.audit().value() >= 0 ? 1 : 0;
            x.alter(i, 1 << i % 8);
        }
        SentenceTests.due("audit() of each byte altered, told", seen, bytes);
        x.audit().gives(-1);
    }

    @Says(in = "Promise 22", words = GOOD)
    static void auditChangesNothing() {
        Books x = withTrial();
        x.leg(0, 1);
        x.alter(3, 1);
        String before = x.state();
        x.audit().gives(0);
        x.stillHasState(before);
        x.alter(3, 1);
        x.audit().gives(-1);
        x.audit().gives(-1);
        x.count(5).gives(0);
    }

    @Says(in = "Promise 22", words = UNREADABLE)
    static void kindThatIsNone() {
        for (int kind : new int[] {0, 8, 127, 128, 129, 255}) {
            for (int entry : new int[] {1, 2, 7, 8}) {
                isBad(ledger(), entry, new byte[] {(byte) kind});
            }
        }
    }

    @Says(in = "Promise 22", words = UNREADABLE)
    static void firstEntryThatCannotBeRead() {
        Books x = ledger();
        x.overwrite(8, new byte[] {9});
        x.audit().gives(8);
        x.overwrite(4, new byte[] {9});
        x.audit().gives(4);
        x.overwrite(0, new byte[] {9});
        x.audit().gives(0);
    }

    @Says(in = "Promise 22", words = UNREADABLE)
    static void tooFewBytesOfAnOpen() {
        Books x = Books.opened(-100);
        x.hold(1, 0, 1).gives(1);
        x.release(1).gives(2);
        isBad(x, 2, Arrays.copyOf(EntryBytes.open(LEAST), 3));
    }

    /** A HOLD and an OPEN have as many bytes as a POST of two legs but its last one, which is 0 here. */
    @Says(in = "Promise 22", words = UNREADABLE)
    static void tooFewBytesOfAPost() {
        Books x = Books.opened(-1000, 0);
        x.hold(1, 0, 1).gives(2);
        x.open(0).gives(2);
        isBad(x, 2, Arrays.copyOf(EntryBytes.post(1, 0, -256, 1, 256), 27));
        Books y = Books.opened(-1000, 0);
        y.open(0).gives(2);
        isBad(y, 2, Arrays.copyOf(EntryBytes.post(1, 0, -256, 1, 256), 9));
    }

    @Says(in = "Promise 22", words = UNREADABLE)
    static void tooFewBytesOfAHold() {
        Books x = Books.opened(-100, LEAST);
        x.move(1, 0, 1, 5).gives(2);
        x.reverse(2, 2).gives(3);
        isBad(x, 3, Arrays.copyOf(EntryBytes.hold(2, 1, 1L << 57), 11));
    }

    @Says(in = "Promise 22", words = UNREADABLE)
    static void tooFewBytesOfARelease() {
        Books x = Books.opened(-100);
        x.postOf(1, 0, 1, 0, -1).gives(1);
        isAltered(x);
        x.overwrite(1, EntryBytes.hold(1, 0, 1), EntryBytes.open(0), new byte[] {4});
        x.audit().gives(3);
    }

    @Says(in = "Promise 22", words = UNREADABLE)
    static void tooFewBytesOfACapture() {
        Books x = Books.opened(-100, LEAST);
        x.hold(1, 1, 1L << 40).gives(2);
        x.hold(2, 1, 1).gives(3);
        isBad(x, 3, Arrays.copyOf(EntryBytes.capture(2, 2, 0, 1L << 32), 18));
    }

    @Says(in = "Promise 22", words = UNREADABLE)
    static void tooFewBytesOfAReversal() {
        Books x = Books.opened(-100, 0);
        x.move(1, 0, 1, 5).gives(2);
        x.open(0).gives(2);
        isBad(x, 3, Arrays.copyOf(EntryBytes.reversal(2, 2), 9));
    }

    @Says(in = "Promise 22", words = REFUSED)
    static void openIsRefused() {
        isBad(ledger(), 1, EntryBytes.open(1));
        isBad(ledger(), 1, EntryBytes.open(MOST));
        isGood(ledger(), 1, EntryBytes.open(-1));
        isGood(ledger(), 1, EntryBytes.open(LEAST));
    }

    @Says(in = "Promise 22", words = REFUSED)
    static void openOfTheFortyFirstIsRefused() {
        for (int accounts : new int[] {39, 40}) {
            Books x = new Books();
            for (int a = 0; a < accounts; a++) {
                x.open(-100).gives(a);
            }
            x.hold(1, 0, 1).gives(accounts);
            isAltered(x);
            x.overwrite(accounts, EntryBytes.open(0), EntryBytes.open(0));
            x.audit().gives(40);
        }
    }

    @Says(in = "Promise 22", words = REFUSED)
    static void postIsRefused() {
        isBad(ledger(), 2, EntryBytes.post(0, 0, -60, 1, 60));
        isBad(ledger(), 2, EntryBytes.post(1, 0, -60, 2, 60));
        isBad(ledger(), 2, EntryBytes.post(1, 255, -60, 1, 60));
        isBad(ledger(), 2, EntryBytes.post(1, 0, -60, 1, 61));
        isBad(ledger(), 2, EntryBytes.post(1, 0, -102, 1, 102));
        isGood(ledger(), 2, EntryBytes.post(1, 0, -101, 1, 101));
        isGood(ledger(), 2, EntryBytes.post(-1, 0, -60, 1, 60));
    }

    /** A POST of no legs and a HOLD have as many bytes as a POST of two legs. */
    @Says(in = "Promise 22", words = REFUSED)
    static void postOfNoLegsIsRefused() {
        Books x = Books.opened(-100, 0);
        x.move(1, 0, 1, 5).gives(2);
        isBad(x, 2, EntryBytes.post(1), EntryBytes.hold(2, 0, 1));
    }

    /** A POST of 8 legs and an OPEN have as many bytes as a POST of 9 legs. */
    @Says(in = "Promise 22", words = REFUSED)
    static void postOfNineLegsIsRefused() {
        Books x = Books.opened(-100);
        x.postOf(1, 0, 1, 0, 1, 0, 1, 0, 1, 0, 1, 0, 1, 0, 1, 0, -7).gives(1);
        x.open(0).gives(1);
        isBad(x, 1, EntryBytes.post(1, 0, 1, 0, 1, 0, 1, 0, 1, 0, 1, 0, 1, 0, 1, 0, 1, 0, -8));
        Books y = Books.opened(-100);
        y.postOf(1, 0, 1, 0, -1).gives(1);
        isBad(y, 1, new byte[] {2, 0, 0, 0, 0, 0, 0, 0, 1, (byte) 255});
    }

    @Says(in = "Promise 22", words = REFUSED)
    static void postOfALegThatCannotBeIsRefused() {
        Books x = Books.opened(-100, LEAST, 0, 0);
        x.postOf(1, 1, -2, 2, 1, 3, 1).gives(4);
        isBad(x, 4, EntryBytes.post(1, 1, -2, 2, 2, 3, 0));
        isBad(x, 4, EntryBytes.post(1, 1, LEAST, 2, MOST, 3, 1));
        isGood(x, 4, EntryBytes.post(1, 1, -MOST, 2, MOST - 1, 3, 1));
    }

    @Says(in = "Promise 22", words = REFUSED)
    static void postThatIsUnevenBy2To64IsRefused() {
        Books x = Books.opened(-100, LEAST, LEAST, LEAST, LEAST);
        x.postOf(1, 1, 1, 2, 1, 3, -1, 4, -1).gives(5);
        isBad(x, 5, EntryBytes.post(1, 1, MOST, 2, MOST, 3, 1, 4, 1));
        isGood(x, 5, EntryBytes.post(1, 1, MOST, 2, -MOST, 3, 1, 4, -1));
    }

    @Says(in = "Promise 22", words = REFUSED)
    static void postIsRefusedByOver() {
        Books x = Books.opened(-100, LEAST, LEAST);
        x.move(1, 1, 2, MOST - 5).gives(3);
        x.move(2, 0, 2, 5).gives(4);
        isBad(x, 4, EntryBytes.post(2, 0, -6, 2, 6));
        isGood(x, 4, EntryBytes.post(2, 1, -5, 2, 5));
        isBad(x, 4, EntryBytes.post(2, 2, 6, 2, -6));
        isGood(x, 4, EntryBytes.post(2, 2, -6, 2, 6));
        isBad(x, 4, EntryBytes.post(2, 1, -7, 0, 7));
        isGood(x, 4, EntryBytes.post(2, 1, -6, 0, 6));
    }

    @Says(in = "Promise 22", words = REFUSED)
    static void holdIsRefused() {
        isBad(ledger(), 3, EntryBytes.hold(0, 1, 20));
        isBad(ledger(), 3, EntryBytes.hold(2, 2, 20));
        isBad(ledger(), 3, EntryBytes.hold(2, 255, 20));
        isBad(ledger(), 3, EntryBytes.hold(2, 1, 0));
        isBad(ledger(), 3, EntryBytes.hold(2, 1, -1));
        isBad(ledger(), 3, EntryBytes.hold(2, 1, LEAST));
        isBad(ledger(), 3, EntryBytes.hold(2, 1, 61));
        isGood(ledger(), 3, EntryBytes.hold(2, 1, 60));
    }

    @Says(in = "Promise 22", words = REFUSED)
    static void releaseIsRefused() {
        for (int hold : new int[] {0, 2, 3, 4, 7, 8, 9, 199, 200, 256 + 6, -1, -32768 + 6}) {
            isBad(ledger(), 7, EntryBytes.release(hold));
        }
        Books x = Books.opened(-100);
        x.hold(1, 0, 1).gives(1);
        x.hold(2, 0, 1).gives(2);
        x.release(1).gives(3);
        x.release(2).gives(4);
        isBad(x, 4, EntryBytes.release(1));
        isGood(x, 3, EntryBytes.release(2), EntryBytes.release(1));
    }

    @Says(in = "Promise 22", words = REFUSED)
    static void captureIsRefused() {
        isBad(ledger(), 4, EntryBytes.capture(0, 3, 0, 15));
        for (int hold : new int[] {0, 2, 4, 6, 9, 199, 200, 256 + 3, -1, -32768 + 3}) {
            isBad(ledger(), 4, EntryBytes.capture(3, hold, 0, 15));
        }
        isBad(ledger(), 4, EntryBytes.capture(3, 3, 2, 15));
        isBad(ledger(), 4, EntryBytes.capture(3, 3, 255, 15));
        isBad(ledger(), 4, EntryBytes.capture(3, 3, 0, 0));
        isBad(ledger(), 4, EntryBytes.capture(3, 3, 0, -1));
        isBad(ledger(), 4, EntryBytes.capture(3, 3, 0, LEAST));
        isBad(ledger(), 4, EntryBytes.capture(3, 3, 0, 21));
        isGood(ledger(), 4, EntryBytes.capture(3, 3, 0, 20));
        isGood(ledger(), 4, EntryBytes.capture(3, 3, 1, 15));
    }

    @Says(in = "Promise 22", words = REFUSED)
    static void captureIsRefusedByOver() {
        Books x = Books.opened(-100, LEAST, 0);
        x.move(1, 1, 2, MOST - 5).gives(3);
        x.hold(2, 0, 50).gives(4);
        x.capture(3, 4, 2, 4).gives(5);
        isBad(x, 5, EntryBytes.capture(3, 4, 2, 6));
        isGood(x, 5, EntryBytes.capture(3, 4, 2, 5));
    }

    @Says(in = "Promise 22", words = REFUSED)
    static void reversalIsRefused() {
        isBad(ledger(), 5, EntryBytes.reversal(0, 4));
        for (int entry : new int[] {0, 3, 5, 6, 8, 9, 199, 200, 256 + 4, -1, -32768 + 4}) {
            isBad(ledger(), 5, EntryBytes.reversal(4, entry));
        }
        // account 1 would be below its FLOOR
        isBad(ledger(), 5, EntryBytes.reversal(4, 2));
    }

    @Says(in = "Promise 22", words = REFUSED)
    static void reversalIsRefusedByReversed() {
        Books x = Books.opened(-100, -100);
        x.move(1, 0, 1, 5).gives(2);
        x.move(2, 0, 1, 5).gives(3);
        x.reverse(3, 2).gives(4);
        x.reverse(4, 3).gives(5);
        isBad(x, 5, EntryBytes.reversal(4, 2));
        isGood(x, 5, EntryBytes.reversal(4, 4));
    }

    @Says(in = "Promise 22", words = REFUSED)
    static void reversalIsRefusedByOver() {
        Books x = Books.opened(-100, LEAST, LEAST);
        x.move(1, 1, 2, 5).gives(3);
        x.move(2, 2, 1, 5).gives(4);
        x.move(3, 2, 1, MOST).gives(5);
        x.reverse(4, 4).gives(6);
        // account 1 has the most there
        isBad(x, 6, EntryBytes.reversal(4, 3));
        isGood(x, 6, EntryBytes.reversal(4, 5));
    }

    /** Three RELEASES have as many bytes as an OPEN. */
    @Says(in = "Promise 22", words = REFUSED)
    static void entryBehind200IsRefused() {
        Books x = Books.opened(-1000);
        for (int i = 1; i < 199; i++) {
            x.hold(i, 0, 1).gives(i);
        }
        x.open(0).gives(1);
        isAltered(x);
        x.overwrite(199, EntryBytes.release(1), EntryBytes.release(2), EntryBytes.release(3));
        x.audit().gives(200);
        Books y = Books.opened(-1000);
        for (int i = 1; i < 197; i++) {
            y.hold(i, 0, 1).gives(i);
        }
        y.open(0).gives(1);
        isGood(y, 197, EntryBytes.release(1), EntryBytes.release(2), EntryBytes.release(3));
    }

    @Says(in = "Promise 22", words = SECOND)
    static void secondByAKeyOfTheSameCall() {
        isBad(ledger(), 8, EntryBytes.post(1, 0, -60, 1, 60));
        isBad(ledger(), 6, EntryBytes.hold(2, 1, 20));
        Books x = Books.opened(-100, -100);
        x.hold(1, 0, 9).gives(2);
        x.hold(2, 0, 9).gives(3);
        x.capture(3, 2, 1, 9).gives(4);
        x.capture(4, 3, 1, 9).gives(5);
        x.reverse(5, 4).gives(6);
        x.reverse(6, 5).gives(7);
        isBad(x, 7, EntryBytes.reversal(5, 4));
        isBad(x, 5, EntryBytes.capture(3, 2, 1, 9));
    }

    @Says(in = "Promise 22", words = SECOND)
    static void secondByAKeyOfAnotherCall() {
        for (long key : new long[] {1, 2, 3, 4, 5}) {
            isBad(ledger(), 8, EntryBytes.post(key, 1, -1, 0, 1));
        }
        for (long key : new long[] {1, 2, 3, 4}) {
            isBad(ledger(), 6, EntryBytes.hold(key, 1, 19));
        }
        for (long key : new long[] {1, 2}) {
            isBad(ledger(), 4, EntryBytes.capture(key, 3, 0, 15));
        }
        for (long key : new long[] {1, 2, 3}) {
            isBad(ledger(), 5, EntryBytes.reversal(key, 4));
        }
        // the key that comes later is free then, and the later one is the second
        Books x = ledger();
        isAltered(x);
        x.overwrite(6, EntryBytes.hold(6, 1, 20));
        x.audit().gives(8);
    }

    @Says(in = "Promise 22", words = ALTERED)
    static void firstThatIsGoodButNotWhatItWas() {
        Books x = ledger();
        x.overwrite(8, EntryBytes.post(7, 1, -2, 0, 2));
        x.audit().gives(8);
        x.overwrite(6, EntryBytes.hold(50, 1, 21));
        x.audit().gives(6);
        x.overwrite(3, EntryBytes.hold(LEAST, 1, 21));
        x.audit().gives(3);
        x.overwrite(1, EntryBytes.open(-1));
        x.audit().gives(1);
        x.overwrite(0, EntryBytes.open(LEAST));
        x.audit().gives(0);
    }

    @Says(in = "Promise 22", words = "if there is none such,")
    static void laterBadOneIsToldBeforeAnEarlierAlteredOne() {
        Books x = ledger();
        x.overwrite(0, EntryBytes.open(-101));
        x.overwrite(1, EntryBytes.open(-1));
        x.overwrite(8, EntryBytes.post(6, 1, -1, 0, 2));
        x.audit().gives(8);
        x.overwrite(7, EntryBytes.release(5));
        x.audit().gives(7);
    }

    @Says(in = "Promise 22", words = ALTERED)
    static void numberOfAnAlteredOneIsThatAsItWasMade() {
        Books x = Books.opened(-100);
        x.hold(1, 0, 1).gives(1);
        x.open(0).gives(1);
        x.open(0).gives(2);
        // the two OPENS are read as one HOLD, which is still entry 2
        x.overwrite(2, EntryBytes.hold(2, 0, 1));
        x.audit().gives(2);
        x.overwrite(2, EntryBytes.open(0), EntryBytes.open(-1));
        x.audit().gives(3);
    }

    private static void isAltered(Books x) {
        long floor = x.account(0, 2).value();
        x.overwrite(0, EntryBytes.open(floor - 1));
        x.audit().gives(0);
    }

    private static void isBad(Books x, int entry, byte[]... parts) {
        x.overwrite(0, EntryBytes.open(x.account(0, 2).value() - 1));
        x.overwrite(entry, parts);
        x.audit().gives(entry);
    }

    private static void isGood(Books x, int entry, byte[]... parts) {
        x.overwrite(0, EntryBytes.open(x.account(0, 2).value() - 1));
        x.overwrite(entry, parts);
        x.audit().gives(0);
    }

    /** 0 OPEN, 1 OPEN, 2 POST, 3 HOLD, 4 its CAPTURE, 5 the REVERSAL of 4, 6 HOLD, 7 its RELEASE, 8 POST; keys 1 to 6. */
    private static Books ledger() {
        Books x = Books.opened(-100, 0);
        x.move(1, 0, 1, 60).gives(2);
        x.hold(2, 1, 20).gives(3);
        x.capture(3, 3, 0, 15).gives(4);
        x.reverse(4, 4).gives(5);
        x.hold(5, 1, 20).gives(6);
        x.release(6).gives(7);
        x.move(6, 1, 0, 1).gives(8);
        return x;
    }

    /** 2 POST, 3 TRIAL, 4 HOLD. */
    private static Books withTrial() {
        Books x = Books.opened(-100, 0);
        x.every(1);
        x.move(1, 0, 1, 5).gives(2);
        x.hold(2, 0, 1).gives(4);
        return x;
    }
}
