/** Promises 18 to 21: path, proof, step, leads. */
public final class SentencesOfTrails {
    private static final int LOWEST = Integer.MIN_VALUE;
    private static final int HIGHEST = Integer.MAX_VALUE;

    public static void main(String[] args) throws IllegalAccessException {
        SentenceTests.run(SentencesOfTrails.class);
    }

    @Says(in = "Promise 18", words = "THE PATH of entry i in the first n")
    static void pathIsInTheFirstNAlone() {
        Books x = new Books().openedUpTo(8);
        int[] hashesInFirst = {0, 1, 2, 2, 3, 3, 3, 3};
        for (int n = 1; n <= 8; n++) {
            x.path(0, n).gives(hashesInFirst[n - 1]);
        }
        x.path(2, 3).gives(1);
        x.hasStep(0, Hashes.tree(EntryBytes.opens(8).subList(0, 2)));
    }

    @Says(in = "Promise 18", words = "(0 <= i < n) is made: how many hashes;")
    static void pathOfTheFirstAndOfTheLastEntry() {
        Books x = new Books().openedUpTo(9);
        x.path(0, 9).gives(4);
        x.path(7, 9).gives(4);
        x.path(8, 9).gives(1);
        x.path(7, 8).gives(3);
        x.path(0, 1).gives(0);
        Books full = Books.opened(-1000).filled(1);
        full.path(0, 200).gives(8);
        full.path(199, 200).gives(5);
        full.path(127, 128).gives(7);
        full.path(128, 129).gives(1);
    }

    @Says(in = "Promise 18", words = "NONE for others.")
    static void pathOfOthers() {
        Books x = new Books().openedUpTo(5);
        int[][] others = {
            {-1, 5}, {5, 5}, {6, 5}, {0, 0}, {0, 6}, {5, 6}, {0, -1}, {-2, -1}, {0, 200}, {0, 201}, {0, 256},
            {LOWEST, 5}, {HIGHEST, 5}, {0, LOWEST}, {0, HIGHEST}, {LOWEST, HIGHEST}, {HIGHEST, LOWEST}, {LOWEST, LOWEST + 1}
        };
        for (int[] other : others) {
            x.path(other[0], other[1]).gives(-1);
        }
        x.step(0, 0).gives(-1);
        Books full = Books.opened(-1000).filled(1);
        full.path(0, 201).gives(-1);
        full.path(200, 201).gives(-1);
    }

    @Says(in = "Promise 19", words = "THE PROOF that the first n go on from the first m: how many hashes;")
    static void proofFromTheFirstEntryAndFromAllButOne() {
        Books x = new Books().openedUpTo(9);
        x.proof(1, 2).gives(1);
        x.proof(1, 9).gives(4);
        x.proof(8, 9).gives(1);
        x.proof(7, 9).gives(5);
        x.proof(7, 8).gives(4);
        Books full = Books.opened(-1000).filled(1);
        full.proof(1, 200).gives(8);
        full.proof(3, 200).gives(9);
        full.proof(127, 200).gives(9);
        full.proof(128, 200).gives(1);
        full.proof(199, 200).gives(6);
    }

    @Says(in = "Promise 19", words = "NONE for others.")
    static void proofOfOthers() {
        Books x = new Books().openedUpTo(5);
        int[][] others = {
            {0, 5}, {-1, 5}, {5, 5}, {6, 5}, {0, 0}, {0, 1}, {1, 1}, {1, 6}, {5, 6}, {1, 0}, {1, -1}, {-2, -1}, {1, 200},
            {LOWEST, 5}, {HIGHEST, 5}, {1, LOWEST}, {1, HIGHEST}, {HIGHEST, LOWEST}, {LOWEST, HIGHEST}
        };
        for (int[] other : others) {
            x.proof(other[0], other[1]).gives(-1);
        }
        x.step(0, 0).gives(-1);
        Books full = Books.opened(-1000).filled(1);
        full.proof(1, 201).gives(-1);
        full.proof(200, 201).gives(-1);
        full.proof(200, 200).gives(-1);
    }

    @Says(in = "Promise 20", words = "Byte b of hash i")
    static void stepOfTheFirstAndTheLastHash() {
        Books x = new Books().openedUpTo(6);
        x.path(4, 6).gives(2);
        byte[] first = Hashes.leaf(EntryBytes.opens(6).get(5));
        byte[] last = Hashes.tree(EntryBytes.opens(6).subList(0, 4));
        x.step(0, 0).gives(first[0] & 255);
        x.step(0, 31).gives(first[31] & 255);
        x.step(1, 0).gives(last[0] & 255);
        x.step(1, 31).gives(last[31] & 255);
    }

    @Says(in = "Promise 20", words = "of the latest PATH or PROOF that was made;")
    static void stepOfTheLatestOfBoth() {
        Books x = new Books().openedUpTo(6);
        byte[] five = Hashes.leaf(EntryBytes.opens(6).get(5));
        byte[] others = Hashes.tree(EntryBytes.opens(6).subList(4, 6));
        x.path(4, 6).gives(2);
        x.hasStep(0, five);
        x.proof(4, 6).gives(1);
        x.hasStep(0, others);
        x.step(1, 0).gives(-1);
        x.path(4, 6).gives(2);
        x.hasStep(0, five);
        // one that can't be made isn't the latest that was made
        x.path(6, 6).gives(-1);
        x.proof(6, 6).gives(-1);
        x.hasStep(0, five);
        x.path(0, 1).gives(0);
        x.step(0, 0).gives(-1);
    }

    @Says(in = "Promise 20", words = "of the latest PATH or PROOF that was made;")
    static void stepIsAsItWasMade() {
        Books x = new Books().openedUpTo(6);
        x.path(4, 6).gives(2);
        x.alter(45, 1);
        x.open(0);
        x.hasStep(0, Hashes.leaf(EntryBytes.opens(6).get(5)));
        x.path(4, 6).gives(2);
        byte[] altered = EntryBytes.opens(6).get(5);
        altered[0] ^= 1;
        x.hasStep(0, Hashes.leaf(altered));
    }

    @Says(in = "Promise 20", words = "NONE.")
    static void stepOfNone() {
        Books x = new Books().openedUpTo(6);
        x.step(0, 0).gives(-1);
        x.path(4, 6).gives(2);
        for (int i : new int[] {-1, 2, 8, 9, 256, LOWEST, HIGHEST}) {
            x.step(i, 0).gives(-1);
        }
        for (int b : new int[] {-1, 32, 256, LOWEST, HIGHEST}) {
            x.step(0, b).gives(-1);
        }
        Books full = Books.opened(-1000).filled(1);
        full.proof(3, 200).gives(9);
        full.step(8, 0).gives(Hashes.tree(EntryBytes.filled().subList(128, 200))[0] & 255);
        full.step(9, 0).gives(-1);
    }

    @Says(in = "Promise 21", words = "The latest PATH or PROOF against kept heads, by its hashes alone:")
    static void leadsIsOfTheLatest() {
        Books x = withHeads();
        x.proof(3, 7).gives(4);
        x.path(0, 7).gives(3);
        x.leads(0, 2).gives(1);
        x.proof(3, 7).gives(4);
        x.leads(0, 2).gives(-1);
        x.leads(1, 2).gives(1);
        // one that can't be made isn't the latest
        x.path(7, 7).gives(-1);
        x.leads(1, 2).gives(1);
    }

    @Says(in = "Promise 21", words = "by its hashes alone:")
    static void leadsOfAPathIsOfItsHashesAsTheyWereMade() {
        Books x = withHeads();
        x.path(0, 7).gives(3);
        // entry 5 is altered behind it: neither its hashes nor LEAF 0 nor the head are
        x.alter(45, 1);
        x.leads(0, 2).gives(1);
        x.path(0, 7).gives(3);
        x.leads(0, 2).gives(0);
        x.alter(45, 1);
        x.leads(0, 2).gives(0);
    }

    @Says(in = "Promise 21", words = "by its hashes alone:")
    static void leadsOfAProofIsOfItsHashesAsTheyWereMade() {
        Books x = withHeads();
        x.proof(3, 7).gives(4);
        for (int i = 0; i < 7; i++) {
            x.alter(9 * i, 1);
        }
        x.leads(1, 2).gives(1);
        x.proof(3, 7).gives(4);
        x.leads(1, 2).gives(0);
    }

    @Says(in = "Promise 21", words =
        "of a PATH whether it leads from the LEAF of entry i, as its bytes are now, to the TREE of head k;")
    static void leadsOfAPathFromEachLeaf() {
        int[] sizes = {1, 3, 7};
        for (int k = 0; k < 3; k++) {
            for (int i = 0; i < sizes[k]; i++) {
                Books x = withHeads();
                x.path(i, sizes[k]);
                x.leads(0, k).gives(1);
                x.alter(9 * i + 8, 1);
                x.leads(0, k).gives(0);
                x.alter(9 * i + 8, 1);
                x.leads(0, k).gives(1);
                x.alter(9 * ((i + 1) % 8), 1);
                x.leads(0, k).gives(1);
            }
        }
    }

    @Says(in = "Promise 21", words = "to the TREE of head k;")
    static void leadsOfAPathToAnotherTreeOfAsMany() {
        Books x = new Books().openedUpTo(7);
        x.keep(0).gives(7);
        x.path(4, 7).gives(3);
        x.alter(0, 1);
        x.keep(1).gives(7);
        x.leads(0, 0).gives(1);
        x.leads(0, 1).gives(0);
        x.path(4, 7).gives(3);
        x.leads(0, 0).gives(0);
        x.leads(0, 1).gives(1);
    }

    @Says(in = "Promise 21", words =
        "of a PROOF whether it leads to the TREE of head j and to that of head k: 1, 0.")
    static void leadsOfAProofOfEachPair() {
        for (int m = 1; m < 9; m++) {
            for (int n = m + 1; n <= 9; n++) {
                Books x = new Books();
                x.openedUpTo(m).keep(0).gives(m);
                x.openedUpTo(n).keep(7).gives(n);
                x.proof(m, n);
                x.leads(0, 7).gives(1);
            }
        }
    }

    @Says(in = "Promise 21", words = "to the TREE of head j")
    static void leadsOfAProofToAnotherTreeOfHeadJ() {
        for (int m : new int[] {3, 4}) {
            Books x = new Books().openedUpTo(m);
            x.alter(0, 1);
            x.keep(1).gives(m);
            x.alter(0, 1);
            x.keep(2).gives(m);
            x.open(-9);
            x.keep(3).gives(m + 1);
            x.proof(m, m + 1);
            x.leads(2, 3).gives(1);
            x.leads(1, 3).gives(0);
        }
    }

    @Says(in = "Promise 21", words = "and to that of head k:")
    static void leadsOfAProofToAnotherTreeOfHeadK() {
        for (int m : new int[] {3, 4}) {
            Books x = new Books().openedUpTo(m);
            x.keep(1).gives(m);
            x.open(-9);
            x.keep(2).gives(m + 1);
            x.alter(9 * m, 1);
            x.keep(3).gives(m + 1);
            x.proof(m, m + 1);
            // the proof is of the altered bytes, and so is head 3
            x.leads(1, 3).gives(1);
            x.leads(1, 2).gives(0);
            x.alter(9 * m, 1);
            x.proof(m, m + 1);
            x.leads(1, 2).gives(1);
            x.leads(1, 3).gives(0);
        }
    }

    @Says(in = "Promise 21", words = "NONE: none was made,")
    static void leadsWhereNoneWasMade() {
        Books x = withHeads();
        x.leads(1, 2).gives(-1);
        x.path(7, 7).gives(-1);
        x.proof(0, 7).gives(-1);
        x.leads(1, 2).gives(-1);
    }

    @Says(in = "Promise 21", words = "no such heads kept")
    static void leadsToHeadsThatAreNotKept() {
        int[] none = {-1, 3, 4, 7, 8, 256, LOWEST, HIGHEST};
        Books x = withHeads();
        for (int head : none) {
            x.path(0, 7);
            x.leads(0, head).gives(-1);
            x.proof(3, 7);
            x.leads(1, head).gives(-1);
            x.leads(head, 2).gives(-1);
            x.leads(head, head).gives(-1);
        }
    }

    @Says(in = "Promise 21", words = "(j is not looked at for a PATH),")
    static void leadsOfAPathDoesNotLookAtJ() {
        Books x = withHeads();
        x.path(0, 7);
        for (int j : new int[] {-1, 0, 1, 2, 3, 7, 8, LOWEST, HIGHEST}) {
            x.leads(j, 2).gives(1);
        }
    }

    @Says(in = "Promise 21", words = "or they don't have n (m, n) entries.")
    static void leadsToHeadsOfOtherSizes() {
        Books x = withHeads();
        x.keep(4).gives(8);
        x.path(0, 7);
        x.leads(2, 1).gives(-1);
        x.leads(2, 4).gives(-1);
        x.proof(3, 7);
        x.leads(1, 2).gives(1);
        x.leads(2, 1).gives(-1);
        x.leads(1, 1).gives(-1);
        x.leads(2, 2).gives(-1);
        x.leads(0, 2).gives(-1);
        x.leads(1, 4).gives(-1);
        // a head that is kept anew has another size
        x.keep(2).gives(8);
        x.leads(1, 2).gives(-1);
    }

    @Says(in = "Promise 21", words = "of a PROOF whether it leads to the TREE of head j and to that of head k: 1, 0.")
    static void leadsIn200() {
        Books x = Books.opened(-1000);
        int[] sizes = {3, 127, 128, 129, 199, 200};
        int k = 0;
        for (int i = 1; i < 200; i++) {
            if (i == sizes[k]) {
                x.keep(k).gives(i);
                k++;
            }
            x.hold(100000 + i, 0, 1).gives(i);
        }
        x.keep(5).gives(200);
        for (int j = 0; j < 5; j++) {
            x.proof(sizes[j], 200);
            x.leads(j, 5).gives(1);
        }
        x.path(127, 200).gives(8);
        x.leads(0, 5).gives(1);
    }

    /** 8 entries; heads 0, 1, 2 of 1, 3, 7. */
    private static Books withHeads() {
        Books x = new Books();
        x.openedUpTo(1).keep(0).gives(1);
        x.openedUpTo(3).keep(1).gives(3);
        x.openedUpTo(7).keep(2).gives(7);
        return x.openedUpTo(8);
    }
}
