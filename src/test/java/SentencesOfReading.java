import java.lang.reflect.Field;
import java.util.List;

/** Promises 11 to 17 and 23: what is read of accounts, entries, bytes, hashes and heads; alter(); and the counts. */
public final class SentencesOfReading {
    private static final long LEAST = Books.LEAST;
    private static final long MOST = Books.MOST;
    private static final long NOTHING = Books.NOTHING;
    private static final int LOWEST = Integer.MIN_VALUE;
    private static final int HIGHEST = Integer.MAX_VALUE;

    public static void main(String[] args) throws IllegalAccessException {
        SentenceTests.run(SentencesOfReading.class);
    }

    @Says(in = "Promise 11", words = "Of an ACCOUNT what 0 BALANCE, 1 HOLDS, 2 FLOOR.")
    static void accountTellsBalanceHoldsFloor() {
        Books x = Books.opened(-100, -50);
        x.move(1, 0, 1, 60).gives(2);
        x.hold(2, 1, 70).gives(3);
        long[][] want = {{-60, 0, -100}, {60, 70, -50}};
        for (int a = 0; a < 2; a++) {
            for (int what = 0; what < 3; what++) {
                x.account(a, what).gives(want[a][what]);
            }
        }
    }

    @Says(in = "Promise 11", words = "NOTHING if there is none such")
    static void accountOrWhatThatIsNone() {
        Books x = Books.opened(-1, -2);
        for (int a : new int[] {-1, 2, 39, 40, 255, 256, LOWEST, HIGHEST}) {
            for (int what = 0; what < 3; what++) {
                x.account(a, what).gives(NOTHING);
            }
        }
        for (int what : new int[] {-1, 3, 256, LOWEST, HIGHEST}) {
            x.account(0, what).gives(NOTHING);
        }
    }

    @Says(in = "Promise 11", words = "(HOLDS of 64 bits alone, the lowest).")
    static void holdsAreTheLowest64Bits() {
        Books x = Books.opened(LEAST, LEAST);
        x.move(1, 0, 1, MOST).gives(2);
        x.hold(2, 1, MOST).gives(3);
        x.account(1, 1).gives(MOST);
        x.hold(3, 1, 1).gives(4);
        x.account(1, 1).gives(LEAST);
        x.hold(4, 1, MOST).gives(5);
        x.account(1, 1).gives(-1);
        x.release(4).gives(6);
        x.account(1, 1).gives(-2);
    }

    @Says(in = "Promise 12", words = {
        "Of entry i what 0 its KIND, 1 how many bytes it has, 2 where they begin in all, 3 its key", "4 how many legs,"})
    static void entryTellsKindBytesKeyLegs() {
        Books x = posted();
        long[][] want = {{1, 9, 0, 0, 0}, {1, 9, 9, 0, 0}, {2, 82, 18, LEAST, 8}, {3, 18, 100, -7, 0}, {6, 11, 118, 7, 8}};
        for (int i = 0; i < want.length; i++) {
            for (int what = 0; what < 5; what++) {
                x.entry(i, what).gives(want[i][what]);
            }
        }
    }

    @Says(in = "Promise 12", words = "(0 without),")
    static void entryWithoutAKey() {
        Books x = Books.opened(-10, 0);
        x.every(1);
        x.move(5, 0, 1, 1).gives(2);
        x.hold(6, 0, 1).gives(4);
        x.release(4).gives(5);
        x.entry(0, 3).gives(0);
        x.entry(3, 3).gives(0);
        x.entry(5, 3).gives(0);
        x.entry(4, 3).gives(6);
    }

    @Says(in = "Promise 12", words = "5 the entry that REVERSED it,")
    static void entryThatReversedIt() {
        Books x = Books.opened(-10, -10);
        x.move(1, 0, 1, 1).gives(2);
        x.entry(2, 5).gives(-1);
        x.reverse(2, 2).gives(3);
        x.reverse(3, 3).gives(4);
        x.entry(2, 5).gives(3);
        x.entry(3, 5).gives(4);
        x.entry(4, 5).gives(-1);
    }

    @Says(in = "Promise 12", words = "or ended its HOLD")
    static void entryThatEndedItsHold() {
        Books x = Books.opened(-10, -10);
        x.hold(1, 0, 1).gives(2);
        x.hold(2, 0, 1).gives(3);
        x.capture(3, 3, 1, 1).gives(4);
        x.release(2).gives(5);
        x.entry(2, 5).gives(5);
        x.entry(3, 5).gives(4);
        // a CAPTURE ends a HOLD, but is REVERSED itself
        x.entry(4, 5).gives(-1);
        x.reverse(4, 4).gives(6);
        x.entry(4, 5).gives(6);
        x.entry(3, 5).gives(4);
    }

    @Says(in = "Promise 12", words = "(-1 without),")
    static void entryThatNothingEnded() {
        Books x = Books.opened(-10, -10);
        x.every(1);
        x.move(1, 0, 1, 1).gives(2);
        x.hold(2, 0, 1).gives(4);
        x.hold(3, 0, 1).gives(5);
        x.release(4).gives(6);
        for (int i : new int[] {0, 1, 2, 3, 5, 6}) {
            x.entry(i, 5).gives(-1);
        }
    }

    @Says(in = "Promise 12", words = "10 + k the ACCOUNT of leg k, 30 + k its amount.")
    static void entryTellsEachOf8Legs() {
        Books x = posted();
        for (int k = 0; k < 8; k++) {
            x.entry(2, 10 + k).gives(k % 2);
            x.entry(2, 30 + k).gives(k < 7 ? k + 1 : -28);
            x.entry(4, 10 + k).gives(k % 2);
            x.entry(4, 30 + k).gives(k < 7 ? -k - 1 : 28);
        }
    }

    @Says(in = "Promise 12", words = "NOTHING for others.")
    static void entryOrWhatThatIsNone() {
        Books x = posted();
        for (int what : new int[] {-1, 6, 7, 8, 9, 18, 19, 29, 38, 39, 50, LOWEST, HIGHEST}) {
            x.entry(2, what).gives(NOTHING);
        }
        for (int i : new int[] {-1, 5, 199, 200, 256, LOWEST, HIGHEST}) {
            for (int what : new int[] {0, 1, 2, 3, 4, 5, 10, 30}) {
                x.entry(i, what).gives(NOTHING);
            }
        }
        // a leg behind the last one, and legs of entries that have none
        x.move(9, 0, 1, 1).gives(5);
        x.entry(5, 11).gives(1);
        x.entry(5, 12).gives(NOTHING);
        x.entry(5, 31).gives(1);
        x.entry(5, 32).gives(NOTHING);
        x.entry(0, 10).gives(NOTHING);
        x.entry(3, 30).gives(NOTHING);
    }

    @Says(in = "Promise 12", words = "(As it was made, whatever was altered.)")
    static void entryIsAsItWasMade() {
        Books x = Books.opened(-10, 0);
        x.move(7, 0, 1, 3).gives(2);
        String before = x.state();
        for (int i = 0; i < 46; i++) {
            x.alter(i, 255);
        }
        x.count(7).gives(46);
        x.stillHasState(before);
    }

    @Says(in = "Promise 13", words = "Byte i of all entries' bytes,")
    static void dataGoesOverAllEntries() {
        Books x = Books.opened(-2, LEAST);
        x.data(0).gives(1);
        x.data(8).gives(254);
        x.data(9).gives(1);
        x.data(10).gives(128);
        x.data(17).gives(0);
    }

    @Says(in = "Promise 13", words = "as they are (0 .. 255);")
    static void dataIsAsBytesAre() {
        Books x = Books.opened(-1, 0);
        x.data(8).gives(255);
        x.data(17).gives(0);
        x.alter(8, 127).gives(128);
        x.data(8).gives(128);
        x.alter(17, 255).gives(255);
        x.data(17).gives(255);
        x.open(0).gives(2);
        x.data(8).gives(128);
    }

    @Says(in = "Promise 13", words = "NONE.")
    static void dataOfNoByte() {
        Books x = Books.opened(0, 0);
        for (int i : new int[] {-1, 18, 16400, LOWEST, HIGHEST}) {
            x.data(i).gives(-1);
        }
        x.data(17).gives(0);
        x.open(0).gives(2);
        x.data(18).gives(1);
        new Books().data(0).gives(-1);
    }

    @Says(in = "Promise 14", words = {
        "That byte is altered: by what mask (1 .. 255) has of bits: what it is then.", "(1 .. 255)"})
    static void alterFlipsTheBitsOfTheMask() {
        Books x = Books.opened(-2);
        x.alter(8, 1).gives(255);
        x.alter(8, 255).gives(0);
        x.alter(8, 128).gives(128);
        x.alter(8, 129).gives(1);
        x.data(8).gives(1);
        x.data(7).gives(255);
        x.alter(0, 255).gives(254);
    }

    @Says(in = "Promise 14", words = "NONE if there is none such,")
    static void alterOfNoByte() {
        Books x = Books.opened(0);
        for (int i : new int[] {-1, 9, 16400, LOWEST, HIGHEST}) {
            x.alter(i, 1).gives(-1);
        }
        x.open(0).gives(1);
        x.data(9).gives(1);
        x.count(7).gives(0);
        x.alter(17, 1).gives(1);
        new Books().alter(0, 1).gives(-1);
    }

    @Says(in = "Promise 14", words = "or for another mask.")
    static void alterByAnotherMask() {
        Books x = Books.opened(-2);
        for (int mask : new int[] {0, -1, 256, 257, LOWEST, LOWEST + 1, HIGHEST}) {
            x.alter(8, mask).gives(-1);
        }
        x.data(8).gives(254);
        x.count(7).gives(0);
    }

    @Says(in = "Promise 14", words = "(Nothing but bytes is altered.)")
    static void alterLeavesAllButBytes() {
        Books x = Books.opened(-10, 0);
        x.move(1, 0, 1, 4).gives(2);
        x.hold(2, 0, 3).gives(3);
        String before = x.state();
        x.overwrite(0, EntryBytes.open(LEAST));
        x.overwrite(2, EntryBytes.post(8, 0, -10, 1, 10));
        x.overwrite(3, EntryBytes.hold(9, 1, 9));
        x.stillHasState(before);
        // what the bytes tell now is nothing to the calls that come
        x.hold(8, 0, 4).gives(-6);
        x.move(1, 0, 1, 4).gives(2);
        x.capture(4, 3, 1, 4).gives(-2);
        x.capture(4, 3, 1, 3).gives(4);
        x.hasBytes(4, EntryBytes.capture(4, 3, 1, 3));
        x.reverse(5, 2).gives(5);
        x.account(1, 0).gives(3);
    }

    @Says(in = "Promise 15", words = "Byte b (0 .. 31)")
    static void hashHasBytes0To31() {
        Books x = Books.opened(0, 0);
        for (int what = 0; what < 3; what++) {
            for (int b : new int[] {-1, 32, 256, LOWEST, HIGHEST}) {
                x.hash(what, 1, b).gives(-1);
            }
        }
        x.hasHash(0, 1, Hashes.sha(new byte[32], EntryBytes.open(0)));
    }

    @Says(in = "Promise 15", words = "of THE CHAIN behind n entries (what 0),")
    static void hashOfTheChainBehind0ToAll() {
        Books x = Books.opened(0, -1);
        byte[] one = Hashes.sha(new byte[32], EntryBytes.open(0));
        x.hasHash(0, 0, new byte[32]);
        x.hasHash(0, 1, one);
        x.hasHash(0, 2, Hashes.sha(one, EntryBytes.open(-1)));
        x.hash(0, 3, 0).gives(-1);
    }

    @Says(in = "Promise 15", words = "of THE TREE of the first n (1),")
    static void hashOfTheTreeOf0ToAll() {
        Books x = Books.opened(0, -1);
        byte[] one = Hashes.leaf(EntryBytes.open(0));
        x.hasHash(1, 0, Hashes.sha());
        x.hasHash(1, 1, one);
        x.hasHash(1, 2, Hashes.node(one, Hashes.leaf(EntryBytes.open(-1))));
        x.hash(1, 3, 0).gives(-1);
    }

    @Says(in = "Promise 15", words = "of the LEAF of entry n (2),")
    static void hashOfTheLeafOf0ToTheLast() {
        Books x = Books.opened(0, -1);
        x.hasHash(2, 0, Hashes.leaf(EntryBytes.open(0)));
        x.hasHash(2, 1, Hashes.leaf(EntryBytes.open(-1)));
        x.hash(2, 2, 0).gives(-1);
    }

    @Says(in = "Promise 15", words = "as bytes are.")
    static void hashIsOfBytesAsTheyAre() {
        Books x = Books.opened(0, -1, -2);
        x.hasHash(1, 3, Hashes.tree(List.of(EntryBytes.open(0), EntryBytes.open(-1), EntryBytes.open(-2))));
        x.overwrite(1, EntryBytes.open(-5));
        List<byte[]> now = List.of(EntryBytes.open(0), EntryBytes.open(-5), EntryBytes.open(-2));
        x.hasHash(0, 1, Hashes.chain(now.subList(0, 1)));
        x.hasHash(0, 2, Hashes.chain(now.subList(0, 2)));
        x.hasHash(0, 3, Hashes.chain(now));
        x.hasHash(1, 2, Hashes.tree(now.subList(0, 2)));
        x.hasHash(1, 3, Hashes.tree(now));
        x.hasHash(2, 1, Hashes.leaf(now.get(1)));
        x.hasHash(2, 2, Hashes.leaf(now.get(2)));
        x.overwrite(1, EntryBytes.open(-1));
        x.hasHash(1, 2, Hashes.node(Hashes.leaf(EntryBytes.open(0)), Hashes.leaf(EntryBytes.open(-1))));
    }

    @Says(in = "Promise 15", words = "NONE for others.")
    static void hashOfOthers() {
        Books x = Books.opened(0, -1);
        for (int what : new int[] {-1, 3, 256, LOWEST, HIGHEST}) {
            x.hash(what, 0, 0).gives(-1);
        }
        for (int n : new int[] {-1, 3, 200, 201, 256, LOWEST, HIGHEST}) {
            for (int what = 0; what < 3; what++) {
                x.hash(what, n, 0).gives(-1);
            }
        }
        Books full = Books.opened(-1000).filled(1);
        for (int what = 0; what < 3; what++) {
            full.hash(what, 201, 0).gives(-1);
        }
        full.hash(2, 200, 0).gives(-1);
        new Books().hash(2, 0, 0).gives(-1);
    }

    @Says(in = "Promise 16", words =
        "How many entries there are, THE CHAIN behind them, and THE TREE are kept as head k (0 .. 7): how many;")
    static void keepGivesHowMany() {
        Books x = new Books();
        for (int k = 0; k < 8; k++) {
            x.keep(k).gives(k);
            x.open(0).gives(k);
        }
        for (int k = 0; k < 8; k++) {
            x.verify(k).gives(0);
        }
        Books full = Books.opened(-1000).filled(1);
        full.keep(7).gives(200);
        full.verify(7).gives(0);
        full.alter((int) full.count(2).value() - 1, 1);
        full.verify(7).gives(1);
    }

    @Says(in = "Promise 16", words = "are kept as head k")
    static void keepAgainKeepsAnew() {
        Books x = Books.opened(0);
        x.keep(3).gives(1);
        x.open(0);
        x.alter(0, 2);
        x.verify(3).gives(1);
        x.keep(3).gives(2);
        x.verify(3).gives(0);
        x.alter(9, 2);
        x.verify(3).gives(1);
    }

    @Says(in = "Promise 16", words = "NONE for others.")
    static void keepOfOthers() {
        Books x = Books.opened(0);
        for (int k : new int[] {-1, 8, 256, LOWEST, HIGHEST}) {
            x.keep(k).gives(-1);
        }
        for (int k = 0; k < 8; k++) {
            x.verify(k).gives(-1);
        }
    }

    @Says(in = "Promise 17", words = "Head k against the bytes as they are: 0 both are as they were,")
    static void verifyOfWhatIsAsItWas() {
        Books x = new Books();
        x.keep(0).gives(0);
        x.open(-1);
        x.open(-2);
        x.keep(1).gives(2);
        x.open(-3);
        x.verify(1).gives(0);
        // behind the head
        x.alter(18, 1);
        x.alter(26, 1);
        x.verify(0).gives(0);
        x.verify(1).gives(0);
        x.alter(17, 4);
        x.alter(17, 4);
        x.verify(1).gives(0);
    }

    @Says(in = "Promise 17", words = "1 THE CHAIN behind as many is another one,")
    static void verifyOfAnotherChain() {
        Books x = Books.opened(-1, -2, -3);
        x.keep(0).gives(3);
        for (int i : new int[] {0, 8, 9, 17, 18, 26}) {
            x.alter(i, 1);
            x.verify(0).gives(1);
            x.alter(i, 1);
            x.verify(0).gives(0);
        }
        x.alter(0, 1);
        x.keep(1).gives(3);
        x.verify(1).gives(0);
        x.alter(0, 1);
        x.verify(1).gives(1);
    }

    /** Calls alone don't come here: the same CHAIN of other bytes would break SHA-256. So the head's TREE is altered. */
    @Says(in = "Promise 17", words = "2 (it isn't, but) THE TREE of as many is.")
    static void verifyOfAnotherTreeAlone() {
        Books x = Books.opened(-1, -2, -3);
        x.keep(5).gives(3);
        int[] tree = (int[]) fieldOf(((Object[]) fieldOf(x.real, "heads"))[5], "tree");
        for (int word = 0; word < tree.length; word++) {
            tree[word] ^= 1 << word;
            x.verify(5).gives(2);
            x.alter(0, 1);
            x.verify(5).gives(1);
            x.alter(0, 1);
            tree[word] ^= 1 << word;
        }
        x.verify(5).gives(0);
    }

    @Says(in = "Promise 17", words = "NONE if it was not kept.")
    static void verifyOfWhatWasNotKept() {
        Books x = Books.opened(0);
        x.keep(0).gives(1);
        x.keep(7).gives(1);
        for (int k : new int[] {-1, 1, 2, 3, 4, 5, 6, 8, 256, LOWEST, HIGHEST}) {
            x.verify(k).gives(-1);
        }
    }

    @Says(in = "Promise 23", words = "0 ACCOUNTS, 1 entries, 2 bytes of all,")
    static void countOfAccountsEntriesBytes() {
        Books x = new Books();
        dueCounts(x, 0, 0, 0);
        x.open(0);
        dueCounts(x, 1, 1, 9);
        x.open(-10);
        x.every(1);
        x.move(1, 1, 0, 5).gives(2);
        dueCounts(x, 2, 4, 18 + 28 + 18);
        x.move(1, 1, 0, 6).gives(-4);
        x.open(1).gives(-6);
        dueCounts(x, 2, 4, 64);
    }

    @Says(in = "Promise 23", words = "2 bytes of all,")
    static void countOfBytesOfTheLongestEntry() {
        Books x = new Books();
        x.open(0);
        for (int k = 0; k < 8; k++) {
            x.leg(0, k < 7 ? 1 : -7);
        }
        x.post(1).gives(1);
        x.count(2).gives(9 + 82);
        x.data(90).gives(249);
        x.data(91).gives(-1);
    }

    /** 38 POSTS of 8 legs, and HOLDS: nearly as many bytes as 512 calls can make. */
    @Says(in = "Promise 23", words = "2 bytes of all,")
    static void countOfBytesOf200LongEntries() {
        Books x = Books.opened(-1000);
        for (int i = 1; i < 39; i++) {
            for (int k = 0; k < 8; k++) {
                x.leg(0, k < 7 ? 1 : -7);
            }
            x.post(i).gives(i);
        }
        x.filled(39);
        int all = 9 + 38 * 82 + 161 * 18;
        x.count(2).gives(all);
        x.data(all - 1).gives(1);
        x.data(all).gives(-1);
        x.audit().gives(-1);
        x.alter(all - 1, 3).gives(2);
        x.audit().gives(199);
    }

    @Says(in = "Promise 23", words = "3 HOLDS that are there,")
    static void countOfHolds() {
        Books x = Books.opened(-10, -10);
        x.hold(1, 0, 1).gives(2);
        x.hold(2, 1, 1).gives(3);
        x.hold(3, 0, 1).gives(4);
        x.count(3).gives(3);
        x.hold(3, 0, 1).gives(4);
        x.hold(4, 0, 100).gives(-6);
        x.count(3).gives(3);
        x.release(2).gives(5);
        x.count(3).gives(2);
        x.capture(5, 4, 1, 1).gives(6);
        x.count(3).gives(1);
        x.reverse(6, 6).gives(7);
        x.count(3).gives(1);
    }

    @Says(in = "Promise 23", words = "4 EVERY,")
    static void countOfEvery() {
        Books x = new Books();
        x.count(4).gives(0);
        x.every(50);
        x.count(4).gives(50);
        x.every(51);
        x.count(4).gives(50);
        x.every(0);
        x.count(4).gives(0);
    }

    @Says(in = "Promise 23", words = "5 POSTS and alike since the latest TRIAL (or EVERY),")
    static void countSinceTheLatestTrialOrEvery() {
        Books x = Books.opened(-10, -10);
        x.move(1, 0, 1, 1).gives(2);
        x.count(5).gives(1);
        x.hold(2, 0, 1).gives(3);
        x.capture(3, 3, 1, 1).gives(4);
        x.count(5).gives(2);
        x.reverse(4, 2).gives(5);
        x.count(5).gives(3);
        x.every(2);
        x.count(5).gives(0);
        x.move(5, 0, 1, 1).gives(6);
        x.count(5).gives(1);
        x.move(6, 0, 1, 1).gives(7);
        x.count(5).gives(0);
        x.move(7, 0, 1, 1).gives(9);
        x.count(5).gives(1);
    }

    @Says(in = "Promise 23", words = "6 legs that are told,")
    static void countOfLegs() {
        Books x = Books.opened(-10);
        for (int k = 1; k <= 8; k++) {
            x.leg(0, k < 8 ? 1 : -7);
            x.count(6).gives(k);
        }
        x.leg(0, 1).gives(-1);
        x.count(6).gives(8);
        x.post(1).gives(1);
        x.count(6).gives(0);
    }

    @Says(in = "Promise 23", words = "7 bytes that are altered (are not what they were).")
    static void countOfAlteredBytes() {
        Books x = Books.opened(-10, -10);
        x.alter(3, 1);
        x.count(7).gives(1);
        x.alter(3, 2);
        x.count(7).gives(1);
        x.alter(17, 255);
        x.alter(0, 128);
        x.count(7).gives(3);
        x.alter(3, 3);
        x.count(7).gives(2);
        x.open(0);
        x.count(7).gives(2);
        x.alter(17, 255);
        x.alter(0, 128);
        x.count(7).gives(0);
    }

    @Says(in = "Promise 23", words = "NONE for others.")
    static void countOfOthers() {
        Books x = Books.opened(0);
        for (int what : new int[] {-1, 8, 256, LOWEST, HIGHEST}) {
            x.count(what).gives(-1);
        }
    }

    /** POST 2 of 8 legs, HOLD 3, REVERSAL 4 of 2. */
    private static Books posted() {
        Books x = Books.opened(-100, -100);
        x.postOf(LEAST, 0, 1, 1, 2, 0, 3, 1, 4, 0, 5, 1, 6, 0, 7, 1, -28).gives(2);
        x.hold(-7, 0, 1).gives(3);
        x.reverse(7, 2).gives(4);
        return x;
    }

    private static void dueCounts(Books x, int accounts, int entries, int bytes) {
        x.count(0).gives(accounts);
        x.count(1).gives(entries);
        x.count(2).gives(bytes);
    }

    private static Object fieldOf(Object object, String name) {
        try {
            Field field = object.getClass().getDeclaredField(name);
            field.setAccessible(true);
            return field.get(object);
        } catch (ReflectiveOperationException e) {
            throw new IllegalStateException(e);
        }
    }
}
