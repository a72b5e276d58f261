import java.util.List;

/** Terms II: HASHES, THE CHAIN, THE TREE, THE PATH, THE PROOF; and the constants. */
public final class SentencesOfHashes {
    private static final int CHAIN = 0;
    private static final int TREE = 1;
    private static final int LEAF = 2;

    public static void main(String[] args) throws IllegalAccessException {
        SentenceTests.run(SentencesOfHashes.class);
    }

    @Says(in = "Terms", words = "II. HASHES are SHA-256 (FIPS 180-4), of 32 bytes.")
    static void hashOfNoBytesIsThatOfTheStandard() {
        Books x = new Books();
        int[] want = {
            0xe3, 0xb0, 0xc4, 0x42, 0x98, 0xfc, 0x1c, 0x14, 0x9a, 0xfb, 0xf4, 0xc8, 0x99, 0x6f, 0xb9, 0x24,
            0x27, 0xae, 0x41, 0xe4, 0x64, 0x9b, 0x93, 0x4c, 0xa4, 0x95, 0x99, 0x1b, 0x78, 0x52, 0xb8, 0x55
        };
        for (int b = 0; b < 32; b++) {
            x.hash(TREE, 0, b).gives(want[b]);
        }
        x.hash(TREE, 0, 32).gives(-1);
    }

    @Says(in = "Terms", words = "II. HASHES are SHA-256 (FIPS 180-4), of 32 bytes.")
    static void hashOfEachLengthThatAnEntryCanHave() {
        for (int legs = 2; legs <= 8; legs++) {
            Books x = Books.opened(-100);
            long[] told = new long[2 * legs];
            for (int k = 0; k < legs; k++) {
                told[2 * k + 1] = k == 0 ? 1 - legs : 1;
            }
            x.postOf(legs, told).gives(1);
            hasHashes(x, List.of(EntryBytes.open(-100), EntryBytes.post(legs, told)));
        }
        Books x = Books.opened(-100);
        x.every(1);
        x.hold(1, 0, 5).gives(1);
        x.capture(2, 1, 0, 5).gives(2);
        x.hold(3, 0, 5).gives(4);
        x.release(4).gives(5);
        x.reverse(4, 2).gives(6);
        hasHashes(x, List.of(EntryBytes.open(-100), EntryBytes.hold(1, 0, 5), EntryBytes.capture(2, 1, 0, 5),
            EntryBytes.trial(1, 0), EntryBytes.hold(3, 0, 5), EntryBytes.release(4), EntryBytes.reversal(4, 2),
            EntryBytes.trial(1, 0)));
    }

    @Says(in = "Terms", words = "THE CHAIN: behind no entry 32 bytes 0;")
    static void chainBehindNoEntry() {
        new Books().hasHash(CHAIN, 0, new byte[32]);
        Books.opened(0).hasHash(CHAIN, 0, new byte[32]);
    }

    @Says(in = "Terms", words = "behind one more that of the hash before, followed by the entry's bytes.")
    static void chainBehindOneMore() {
        Books x = Books.opened(0, -1, -2);
        byte[] one = Hashes.sha(new byte[32], EntryBytes.open(0));
        byte[] two = Hashes.sha(one, EntryBytes.open(-1));
        x.hasHash(CHAIN, 1, one);
        x.hasHash(CHAIN, 2, two);
        x.hasHash(CHAIN, 3, Hashes.sha(two, EntryBytes.open(-2)));
    }

    @Says(in = "Terms", words = "behind one more that of the hash before, followed by the entry's bytes.")
    static void chainBehind200() {
        List<byte[]> entries = EntryBytes.filled();
        Books x = Books.opened(-1000).filled(1);
        x.hasHash(CHAIN, 200, Hashes.chain(entries));
        x.hasHash(CHAIN, 199, Hashes.chain(entries.subList(0, 199)));
    }

    @Says(in = "Terms", words = "LEAF: the hash of a byte 0 and the entry's bytes;")
    static void leafHasAByte0Before() {
        Books x = Books.opened(0, -1);
        x.hasHash(LEAF, 0, Hashes.sha(new byte[] {0}, EntryBytes.open(0)));
        x.hasHash(LEAF, 1, Hashes.sha(new byte[] {0}, EntryBytes.open(-1)));
    }

    @Says(in = "Terms", words = "of one entry its LEAF;")
    static void treeOfOneEntryIsItsLeaf() {
        Books x = Books.opened(-7, 0);
        x.hasHash(TREE, 1, Hashes.leaf(EntryBytes.open(-7)));
    }

    @Says(in = "Terms", words = "THE TREE of n entries (as RFC 6962 tells it):")
    static void treesOf1To9() {
        List<byte[]> entries = EntryBytes.opens(9);
        Books x = new Books().openedUpTo(9);
        for (int n = 1; n <= 9; n++) {
            x.hasHash(TREE, n, Hashes.tree(entries.subList(0, n)));
        }
    }

    @Says(in = "Terms", words = "of more the hash of a byte 1, the TREE of the first k, the TREE of the others,")
    static void treeOfTwoAndOfThree() {
        Books x = Books.opened(0, -1, -2);
        byte[] two = Hashes.sha(new byte[] {1}, Hashes.leaf(EntryBytes.open(0)), Hashes.leaf(EntryBytes.open(-1)));
        x.hasHash(TREE, 2, two);
        x.hasHash(TREE, 3, Hashes.sha(new byte[] {1}, two, Hashes.leaf(EntryBytes.open(-2))));
    }

    @Says(in = "Terms", words = "k the greatest power of 2 below n;")
    static void greatestPowerBelowAPowerIsItsHalf() {
        List<byte[]> entries = EntryBytes.opens(9);
        Books x = new Books().openedUpTo(9);
        byte[] four = Hashes.tree(entries.subList(0, 4));
        byte[] eight = Hashes.node(four, Hashes.tree(entries.subList(4, 8)));
        x.hasHash(TREE, 8, eight);
        x.hasHash(TREE, 9, Hashes.node(eight, Hashes.leaf(entries.get(8))));
        x.hasHash(TREE, 7, Hashes.node(four, Hashes.tree(entries.subList(4, 7))));
        x.hasHash(TREE, 5, Hashes.node(four, Hashes.leaf(entries.get(4))));
    }

    @Says(in = "Terms", words = "k the greatest power of 2 below n;")
    static void treesOf127To200() {
        List<byte[]> entries = EntryBytes.filled();
        Books x = Books.opened(-1000).filled(1);
        for (int n : new int[] {127, 128, 129, 192, 193, 199, 200}) {
            x.hasHash(TREE, n, Hashes.tree(entries.subList(0, n)));
        }
    }

    @Says(in = "Terms", words = "of none the hash of no bytes.")
    static void treeOfNone() {
        Books.opened(0).hasHash(TREE, 0, Hashes.sha());
    }

    @Says(in = "Terms", words = "THE PATH of entry i in n: none if n is 1;")
    static void pathInOne() {
        Books x = Books.opened(0, -1);
        x.path(0, 1).gives(0);
        x.step(0, 0).gives(-1);
    }

    @Says(in = "Terms",
        words = "else, k as above: if i is below k the PATH in the first k and then the TREE of the others;")
    static void pathBelowK() {
        List<byte[]> entries = EntryBytes.opens(6);
        Books x = new Books().openedUpTo(6);
        x.path(0, 6).gives(3);
        x.hasStep(0, Hashes.leaf(entries.get(1)));
        x.hasStep(1, Hashes.tree(entries.subList(2, 4)));
        x.hasStep(2, Hashes.tree(entries.subList(4, 6)));
        x.path(3, 6).gives(3);
        x.hasStep(0, Hashes.leaf(entries.get(2)));
        x.hasStep(1, Hashes.tree(entries.subList(0, 2)));
        x.hasStep(2, Hashes.tree(entries.subList(4, 6)));
    }

    @Says(in = "Terms", words = "else the PATH of i - k in the others and then the TREE of the first k.")
    static void pathFromKOn() {
        List<byte[]> entries = EntryBytes.opens(7);
        Books x = new Books().openedUpTo(7);
        x.path(4, 7).gives(3);
        x.hasStep(0, Hashes.leaf(entries.get(5)));
        x.hasStep(1, Hashes.leaf(entries.get(6)));
        x.hasStep(2, Hashes.tree(entries.subList(0, 4)));
        x.path(6, 7).gives(2);
        x.hasStep(0, Hashes.tree(entries.subList(4, 6)));
        x.hasStep(1, Hashes.tree(entries.subList(0, 4)));
        x.path(4, 5).gives(1);
        x.hasStep(0, Hashes.tree(entries.subList(0, 4)));
    }

    @Says(in = "Terms", words = "THE PATH of entry i in n:")
    static void allPathsInUpTo9() {
        for (int n = 1; n <= 9; n++) {
            for (int i = 0; i < n; i++) {
                List<byte[]> entries = EntryBytes.opens(9);
                Books x = new Books().openedUpTo(9);
                x.path(i, n);
                hasSteps(x, Hashes.path(i, entries.subList(0, n)));
            }
        }
    }

    @Says(in = "Terms", words = "THE PATH of entry i in n:")
    static void longestPathsIn200() {
        for (int i : new int[] {0, 127, 128, 191, 192, 199}) {
            List<byte[]> entries = EntryBytes.filled();
            Books x = Books.opened(-1000).filled(1);
            x.path(i, 200);
            hasSteps(x, Hashes.path(i, entries));
        }
    }

    @Says(in = "Terms",
        words = "THE PROOF that the TREE of n goes on from that of m (0 < m < n): P(m, n, true):")
    static void allProofsInUpTo9() {
        for (int n = 2; n <= 9; n++) {
            for (int m = 1; m < n; m++) {
                List<byte[]> entries = EntryBytes.opens(9);
                Books x = new Books().openedUpTo(9);
                x.proof(m, n);
                hasSteps(x, Hashes.proof(m, entries.subList(0, n), true));
            }
        }
    }

    @Says(in = "Terms",
        words = "THE PROOF that the TREE of n goes on from that of m (0 < m < n): P(m, n, true):")
    static void longestProofsIn200() {
        for (int m : new int[] {1, 3, 127, 128, 129, 191, 192, 193, 199}) {
            List<byte[]> entries = EntryBytes.filled();
            Books x = Books.opened(-1000).filled(1);
            x.proof(m, 200);
            hasSteps(x, Hashes.proof(m, entries, true));
        }
    }

    @Says(in = "Terms", words = "P(m, n, b) is none if m is n and b;")
    static void proofFromAWholeFirstPartDoesNotTellIt() {
        List<byte[]> entries = EntryBytes.opens(5);
        Books x = new Books().openedUpTo(5);
        x.proof(4, 5).gives(1);
        x.hasStep(0, Hashes.leaf(entries.get(4)));
        x.proof(1, 2).gives(1);
        x.hasStep(0, Hashes.leaf(entries.get(1)));
    }

    @Says(in = "Terms", words = "the TREE of these n alone if m is n and not b;")
    static void proofFromAPartThatIsNotTheFirstTellsIt() {
        List<byte[]> entries = EntryBytes.opens(7);
        Books x = new Books().openedUpTo(7);
        x.proof(6, 7).gives(3);
        x.hasStep(0, Hashes.tree(entries.subList(4, 6)));
        x.hasStep(1, Hashes.leaf(entries.get(6)));
        x.hasStep(2, Hashes.tree(entries.subList(0, 4)));
    }

    @Says(in = "Terms", words = "else, if m is not above k: P(m, first k, b) and then the TREE of the others;")
    static void proofFromKAndFromBelow() {
        List<byte[]> entries = EntryBytes.opens(7);
        Books x = new Books().openedUpTo(7);
        x.proof(4, 7).gives(1);
        x.hasStep(0, Hashes.tree(entries.subList(4, 7)));
        x.proof(3, 7).gives(4);
        x.hasStep(0, Hashes.leaf(entries.get(2)));
        x.hasStep(1, Hashes.leaf(entries.get(3)));
        x.hasStep(2, Hashes.tree(entries.subList(0, 2)));
        x.hasStep(3, Hashes.tree(entries.subList(4, 7)));
    }

    @Says(in = "Terms", words = "else P(m - k, the others, false) and then the TREE of the first k.")
    static void proofFromAboveK() {
        List<byte[]> entries = EntryBytes.opens(7);
        Books x = new Books().openedUpTo(7);
        x.proof(5, 7).gives(4);
        x.hasStep(0, Hashes.leaf(entries.get(4)));
        x.hasStep(1, Hashes.leaf(entries.get(5)));
        x.hasStep(2, Hashes.leaf(entries.get(6)));
        x.hasStep(3, Hashes.tree(entries.subList(0, 4)));
        x.proof(3, 4).gives(3);
        x.hasStep(0, Hashes.leaf(entries.get(2)));
        x.hasStep(1, Hashes.leaf(entries.get(3)));
        x.hasStep(2, Hashes.tree(entries.subList(0, 2)));
    }

    @Says(in = "Terms", words = "The constants: `NONE = -1`: There is none, or a number that can't be.")
    static void noneIsMinusOne() {
        SentenceTests.due("NONE", ChainBooks.NONE, -1);
        new Books().post(0).gives(ChainBooks.NONE);
    }

    @Says(in = "Terms", words = "`NOTHING = -9223372036854775808L`: No such number.")
    static void nothingIsTheLeastNumber() {
        SentenceTests.due("NOTHING", ChainBooks.NOTHING, -9223372036854775808L);
        new Books().account(0, 0).gives(ChainBooks.NOTHING);
    }

    private static void hasHashes(Books x, List<byte[]> entries) {
        x.count(1).gives(entries.size());
        for (int i = 1; i < entries.size(); i++) {
            x.hasHash(LEAF, i, Hashes.leaf(entries.get(i)));
            x.hasHash(CHAIN, i + 1, Hashes.chain(entries.subList(0, i + 1)));
        }
    }

    private static void hasSteps(Books x, List<byte[]> want) {
        for (int i = 0; i < want.size(); i++) {
            x.hasStep(i, want.get(i));
        }
        x.step(want.size(), 0).gives(-1);
    }
}
