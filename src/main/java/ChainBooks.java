/**
 * A ledger that can't be altered unseen; shared/DOC.md says what each public call answers.
 *
 * Ledger makes the entries and reckons what they tell. Pages has their bytes as they are now, with
 * the hashes over them. Auditor reads the pages into a Ledger of its own, so that an entry is judged
 * by the very rules that made it. All rows are made once and used again: no call makes an object.
 */
public final class ChainBooks {
    public static final int NONE = -1;
    public static final long NOTHING = -9223372036854775808L;

    private static final int UNKNOWN = -2;
    private static final int UNEVEN = -3;
    private static final int KEY = -4;
    private static final int OVER = -5;
    private static final int FLOOR = -6;
    private static final int REVERSED = -7;
    private static final int FULL = -8;
    private static final int NOT_REFUSED = 0;

    private static final int OPEN = 1;
    private static final int POST = 2;
    private static final int HOLD = 3;
    private static final int RELEASE = 4;
    private static final int CAPTURE = 5;
    private static final int REVERSAL = 6;
    private static final int TRIAL = 7;

    private static final int MOST_ACCOUNTS = 40;
    private static final int MOST_ENTRIES = 200;
    private static final int MOST_LEGS = 8;
    private static final int MOST_EVERY = 50;
    private static final int MOST_HEADS = 8;
    private static final int HIGHEST_BYTE = 255;
    // a POST of 8 legs: KIND, key, how many, and 9 bytes a leg
    private static final int LONGEST_ENTRY = 82;
    private static final int MOST_BYTES = MOST_ENTRIES * LONGEST_ENTRY;

    private static final int HASH_WORDS = 8;
    private static final int HASH_BYTES = 32;
    // the least power of 2 that is not below MOST_ENTRIES
    private static final int LEAVES = 256;
    private static final int TREE_LEVELS = 8;
    // a PROOF has a hash a level, and one of where it begins
    private static final int LONGEST_TRAIL = TREE_LEVELS + 1;

    private final Ledger ledger;
    private final Legs told;
    private final int[] everyTold;
    private final Pages pages;
    private final Head[] heads;
    private final Trail trail;
    private final Auditor auditor;
    private final int[] spareHash;

    public ChainBooks() {
        ledger = new Ledger();
        told = new Legs();
        everyTold = new int[MOST_ENTRIES + 1];
        for (int i = 0; i <= MOST_ENTRIES; i++) {
            everyTold[i] = NONE;
        }
        pages = new Pages();
        heads = new Head[MOST_HEADS];
        for (int k = 0; k < MOST_HEADS; k++) {
            heads[k] = new Head();
        }
        trail = new Trail();
        auditor = new Auditor();
        spareHash = new int[HASH_WORDS];
    }

    public int open(long floor) {
        return written(ledger.addAccount(floor));
    }

    public int leg(int account, long amount) {
        return told.add(account, amount) ? told.size : NONE;
    }

    public int clear() {
        int were = told.size;
        told.size = 0;
        return were;
    }

    public int post(long key) {
        int answer = ledger.addPost(key, told);
        if (answer >= 0) {
            told.size = 0;
        }
        return written(answer);
    }

    public int hold(long key, int account, long amount) {
        return written(ledger.addHold(key, account, amount));
    }

    public int release(int entry) {
        return written(ledger.addRelease(entry));
    }

    public int capture(long key, int entry, int account, long amount) {
        return written(ledger.addCapture(key, entry, account, amount));
    }

    public int reverse(long key, int entry) {
        return written(ledger.addReversal(key, entry));
    }

    public int every(int n) {
        if (n < 0 || n > MOST_EVERY) {
            return NONE;
        }
        int was = ledger.every;
        ledger.startEvery(n);
        everyTold[ledger.entries] = n;
        return was;
    }

    public long account(int account, int what) {
        if (account < 0 || account >= ledger.accounts) {
            return NOTHING;
        }
        switch (what) {
            case 0: return ledger.balance[account];
            case 1: return ledger.held[account];
            case 2: return ledger.floor[account];
            default: return NOTHING;
        }
    }

    public long entry(int i, int what) {
        if (i < 0 || i >= ledger.entries) {
            return NOTHING;
        }
        switch (what) {
            case 0: return ledger.kindOf(i);
            case 1: return ledger.start[i + 1] - ledger.start[i];
            case 2: return ledger.start[i];
            case 3: return ledger.keys[i];
            case 4: return ledger.legCount[i];
            case 5: return ledger.endedBy[i];
            default: return legOf(i, what);
        }
    }

    public int data(int i) {
        return i >= 0 && i < pages.size() ? pages.now[i] & HIGHEST_BYTE : NONE;
    }

    public int alter(int i, int mask) {
        if (i < 0 || i >= pages.size() || mask < 1 || mask > HIGHEST_BYTE) {
            return NONE;
        }
        pages.flip(i, mask);
        return pages.now[i] & HIGHEST_BYTE;
    }

    public int hash(int what, int n, int b) {
        if (n < 0 || n > pages.entries || b < 0 || b >= HASH_BYTES) {
            return NONE;
        }
        switch (what) {
            case 0:
                return byteOf(pages.chainBehind(n), b);
            case 1:
                pages.treeOf(0, n, spareHash);
                return byteOf(spareHash, b);
            case 2:
                return n < pages.entries ? byteOf(pages.leafOf(n), b) : NONE;
            default:
                return NONE;
        }
    }

    public int keep(int k) {
        if (k < 0 || k >= MOST_HEADS) {
            return NONE;
        }
        Head head = heads[k];
        head.entries = pages.entries;
        copyHash(pages.chainBehind(head.entries), head.chain);
        pages.treeOf(0, head.entries, head.tree);
        return head.entries;
    }

    public int verify(int k) {
        if (k < 0 || k >= MOST_HEADS || heads[k].entries == NONE) {
            return NONE;
        }
        Head head = heads[k];
        if (!sameHash(pages.chainBehind(head.entries), head.chain)) {
            return 1;
        }
        pages.treeOf(0, head.entries, spareHash);
        return sameHash(spareHash, head.tree) ? 0 : 2;
    }

    public int path(int i, int n) {
        if (i < 0 || i >= n || n > pages.entries) {
            return NONE;
        }
        trail.make(pages, false, i, n);
        return trail.steps;
    }

    public int proof(int m, int n) {
        if (m <= 0 || m >= n || n > pages.entries) {
            return NONE;
        }
        trail.make(pages, true, m, n);
        return trail.steps;
    }

    public int step(int i, int b) {
        if (i < 0 || i >= trail.steps || b < 0 || b >= HASH_BYTES) {
            return NONE;
        }
        return byteOf(trail.hashes[i], b);
    }

    public int leads(int j, int k) {
        if (!trail.isMade || !isHeadOf(k, trail.till)) {
            return NONE;
        }
        if (trail.isProof) {
            return isHeadOf(j, trail.from) ? oneIf(trail.joins(heads[j], heads[k])) : NONE;
        }
        return oneIf(trail.reaches(pages.leafOf(trail.from), heads[k]));
    }

    public int audit() {
        int bad = auditor.firstBad(pages, everyTold);
        if (bad != NONE) {
            return bad;
        }
        for (int i = 0; i < pages.size(); i++) {
            if (pages.now[i] != ledger.made[i]) {
                return pages.entryWith(i);
            }
        }
        return NONE;
    }

    public int count(int what) {
        switch (what) {
            case 0: return ledger.accounts;
            case 1: return ledger.entries;
            case 2: return pages.size();
            case 3: return ledger.holdsThere;
            case 4: return ledger.every;
            case 5: return ledger.sinceTrial;
            case 6: return told.size;
            case 7: return alteredBytes();
            default: return NONE;
        }
    }

    private int written(int answer) {
        pages.follow(ledger);
        return answer;
    }

    private long legOf(int i, int what) {
        int legs = ledger.legCount[i];
        if (what >= 10 && what < 10 + legs) {
            return ledger.legAccount[i * MOST_LEGS + what - 10];
        }
        if (what >= 30 && what < 30 + legs) {
            return ledger.legAmount[i * MOST_LEGS + what - 30];
        }
        return NOTHING;
    }

    private int alteredBytes() {
        int altered = 0;
        for (int i = 0; i < pages.size(); i++) {
            if (pages.now[i] != ledger.made[i]) {
                altered++;
            }
        }
        return altered;
    }

    private boolean isHeadOf(int k, int entries) {
        return k >= 0 && k < MOST_HEADS && heads[k].entries == entries;
    }

    private static int oneIf(boolean so) {
        return so ? 1 : 0;
    }

    private static int byteOf(int[] hash, int b) {
        return (hash[b >> 2] >>> (24 - 8 * (b & 3))) & HIGHEST_BYTE;
    }

    private static void copyHash(int[] from, int[] to) {
        for (int w = 0; w < HASH_WORDS; w++) {
            to[w] = from[w];
        }
    }

    private static boolean sameHash(int[] one, int[] other) {
        for (int w = 0; w < HASH_WORDS; w++) {
            if (one[w] != other[w]) {
                return false;
            }
        }
        return true;
    }

    private static boolean isByte(int number) {
        return number >= 0 && number <= HIGHEST_BYTE;
    }

    private static boolean canBeEntry(int number) {
        return number >= 0 && number < MOST_ENTRIES;
    }

    /** Both are numbers of 64 bits without a sign. */
    private static boolean isBelow(long one, long other) {
        return (one ^ NOTHING) < (other ^ NOTHING);
    }

    /** Legs that can be told: add() refuses all others, so what is in here needs no second look. */
    private static final class Legs {
        final int[] account = new int[MOST_LEGS];
        final long[] amount = new long[MOST_LEGS];
        int size;

        boolean add(int itsAccount, long itsAmount) {
            if (size >= MOST_LEGS || !isByte(itsAccount) || itsAmount == 0 || itsAmount == NOTHING) {
                return false;
            }
            account[size] = itsAccount;
            amount[size] = itsAmount;
            size++;
            return true;
        }

        /** Halves of 32 bits are added apart, since the sum of 8 amounts may need 67 bits. */
        boolean comeToNothing() {
            long high = 0;
            long low = 0;
            for (int k = 0; k < size; k++) {
                high += amount[k] >> 32;
                low += amount[k] & 0xFFFFFFFFL;
            }
            return (low & 0xFFFFFFFFL) == 0 && high + (low >> 32) == 0;
        }
    }

    /** The bytes of the entry that a call would make; they also tell whether a call is the same again. */
    private static final class Draft {
        final byte[] bytes = new byte[LONGEST_ENTRY];
        int size;

        void begin(int kind) {
            size = 0;
            add(kind, 1);
        }

        void beginKeyed(int kind, long key) {
            begin(kind);
            add(key, 8);
        }

        void add(long number, int width) {
            for (int k = width - 1; k >= 0; k--) {
                if (size < LONGEST_ENTRY) {
                    bytes[size] = (byte) (number >>> (8 * k));
                    size++;
                }
            }
        }
    }

    /** Accounts and entries as they were made: alterations never come here. */
    private static final class Ledger {
        final long[] floor = new long[MOST_ACCOUNTS];
        final long[] balance = new long[MOST_ACCOUNTS];
        // HOLDS are never above BALANCE less FLOOR, so 64 bits without a sign have them exactly
        final long[] held = new long[MOST_ACCOUNTS];
        final long[] balanceBehind = new long[MOST_ACCOUNTS];
        int accounts;

        final byte[] made = new byte[MOST_BYTES];
        final int[] start = new int[MOST_ENTRIES + 1];
        final long[] keys = new long[MOST_ENTRIES];
        final int[] endedBy = new int[MOST_ENTRIES];
        final int[] legCount = new int[MOST_ENTRIES];
        final int[] legAccount = new int[MOST_ENTRIES * MOST_LEGS];
        final long[] legAmount = new long[MOST_ENTRIES * MOST_LEGS];
        int entries;

        final Draft draft = new Draft();
        final Legs moving = new Legs();
        int holdsThere;
        int every;
        int sinceTrial;

        void startAnew() {
            accounts = 0;
            entries = 0;
            holdsThere = 0;
            startEvery(0);
        }

        void startEvery(int n) {
            every = n;
            sinceTrial = 0;
        }

        int addAccount(long itsFloor) {
            if (itsFloor > 0) {
                return FLOOR;
            }
            if (entries >= MOST_ENTRIES) {
                return FULL;
            }
            if (accounts >= MOST_ACCOUNTS) {
                return NONE;
            }
            int number = accounts;
            floor[number] = itsFloor;
            balance[number] = 0;
            held[number] = 0;
            accounts++;
            draft.begin(OPEN);
            draft.add(itsFloor, 8);
            append(0);
            return number;
        }

        int addPost(long key, Legs legs) {
            if (legs.size == 0 || key == 0) {
                return NONE;
            }
            draft.beginKeyed(POST, key);
            draft.add(legs.size, 1);
            for (int k = 0; k < legs.size; k++) {
                draft.add(legs.account[k], 1);
                draft.add(legs.amount[k], 8);
            }
            int before = answeredBefore(key);
            if (before != NONE) {
                return before;
            }
            if (!areThere(legs)) {
                return UNKNOWN;
            }
            if (!legs.comeToNothing()) {
                return UNEVEN;
            }
            int refusal = weigh(legs, NONE, 0);
            return refusal == NOT_REFUSED ? move(key, legs) : refusal;
        }

        int addHold(long key, int account, long amount) {
            if (key == 0 || !isByte(account) || amount <= 0) {
                return NONE;
            }
            draft.beginKeyed(HOLD, key);
            draft.add(account, 1);
            draft.add(amount, 8);
            int before = answeredBefore(key);
            if (before != NONE) {
                return before;
            }
            if (account >= accounts) {
                return UNKNOWN;
            }
            if (isBelow(balance[account] - floor[account] - held[account], amount)) {
                return FLOOR;
            }
            if (entries >= MOST_ENTRIES) {
                return FULL;
            }
            held[account] += amount;
            holdsThere++;
            return append(key);
        }

        int addRelease(int hold) {
            if (!canBeEntry(hold)) {
                return NONE;
            }
            if (!isHoldThere(hold)) {
                return UNKNOWN;
            }
            if (entries >= MOST_ENTRIES) {
                return FULL;
            }
            draft.begin(RELEASE);
            draft.add(hold, 2);
            endHold(hold, entries);
            return append(0);
        }

        int addCapture(long key, int hold, int account, long amount) {
            if (key == 0 || !canBeEntry(hold) || !isByte(account) || amount <= 0) {
                return NONE;
            }
            draft.beginKeyed(CAPTURE, key);
            draft.add(hold, 2);
            draft.add(account, 1);
            draft.add(amount, 8);
            int before = answeredBefore(key);
            if (before != NONE) {
                return before;
            }
            if (!isHoldThere(hold) || account >= accounts || amount > amountHeld(hold)) {
                return UNKNOWN;
            }
            moving.size = 0;
            moving.add(accountHeld(hold), -amount);
            moving.add(account, amount);
            int refusal = weigh(moving, accountHeld(hold), amountHeld(hold));
            if (refusal != NOT_REFUSED) {
                return refusal;
            }
            endHold(hold, entries);
            return move(key, moving);
        }

        int addReversal(long key, int entry) {
            if (key == 0 || !canBeEntry(entry)) {
                return NONE;
            }
            draft.beginKeyed(REVERSAL, key);
            draft.add(entry, 2);
            int before = answeredBefore(key);
            if (before != NONE) {
                return before;
            }
            if (entry >= entries || legCount[entry] == 0) {
                return UNKNOWN;
            }
            if (endedBy[entry] != NONE) {
                return REVERSED;
            }
            moving.size = 0;
            for (int k = 0; k < legCount[entry]; k++) {
                moving.add(legAccount[entry * MOST_LEGS + k], -legAmount[entry * MOST_LEGS + k]);
            }
            int refusal = weigh(moving, NONE, 0);
            if (refusal != NOT_REFUSED) {
                return refusal;
            }
            endedBy[entry] = entries;
            return move(key, moving);
        }

        int kindOf(int i) {
            return made[start[i]];
        }

        /** The entry that the same call made, KEY if another call made one by this key, NONE if none did. */
        private int answeredBefore(long key) {
            for (int i = 0; i < entries; i++) {
                if (keys[i] == key) {
                    return isAsDrafted(i) ? i : KEY;
                }
            }
            return NONE;
        }

        private boolean isAsDrafted(int i) {
            if (start[i + 1] - start[i] != draft.size) {
                return false;
            }
            for (int k = 0; k < draft.size; k++) {
                if (made[start[i] + k] != draft.bytes[k]) {
                    return false;
                }
            }
            return true;
        }

        private boolean areThere(Legs legs) {
            for (int k = 0; k < legs.size; k++) {
                if (legs.account[k] >= accounts) {
                    return false;
                }
            }
            return true;
        }

        /** What refuses legs of accounts that are there, where a HOLD of freedAccount ends with them. */
        private int weigh(Legs legs, int freedAccount, long freed) {
            System.arraycopy(balance, 0, balanceBehind, 0, accounts);
            for (int k = 0; k < legs.size; k++) {
                long was = balanceBehind[legs.account[k]];
                long is = was + legs.amount[k];
                if (((was ^ is) & (legs.amount[k] ^ is)) < 0) {
                    return OVER;
                }
                balanceBehind[legs.account[k]] = is;
            }
            for (int k = 0; k < legs.size; k++) {
                int a = legs.account[k];
                long heldBehind = a == freedAccount ? held[a] - freed : held[a];
                if (balanceBehind[a] < floor[a] || isBelow(balanceBehind[a] - floor[a], heldBehind)) {
                    return FLOOR;
                }
            }
            return entries >= MOST_ENTRIES ? FULL : NOT_REFUSED;
        }

        /** Only behind weigh(), which has reckoned the BALANCES behind these legs. */
        private int move(long key, Legs legs) {
            System.arraycopy(balanceBehind, 0, balance, 0, accounts);
            int i = append(key);
            legCount[i] = legs.size;
            for (int k = 0; k < legs.size; k++) {
                legAccount[i * MOST_LEGS + k] = legs.account[k];
                legAmount[i * MOST_LEGS + k] = legs.amount[k];
            }
            sinceTrial++;
            if (every > 0 && sinceTrial >= every && entries < MOST_ENTRIES) {
                addTrial();
            }
            return i;
        }

        private void addTrial() {
            long high = 0;
            long low = 0;
            for (int a = 0; a < accounts; a++) {
                if (balance[a] > 0) {
                    low += balance[a];
                    high += isBelow(low, balance[a]) ? 1 : 0;
                }
            }
            draft.begin(TRIAL);
            draft.add(accounts, 1);
            draft.add(high, 8);
            draft.add(low, 8);
            append(0);
            sinceTrial = 0;
        }

        private boolean isHoldThere(int i) {
            return i < entries && kindOf(i) == HOLD && endedBy[i] == NONE;
        }

        private int accountHeld(int hold) {
            return made[start[hold] + 9] & HIGHEST_BYTE;
        }

        private long amountHeld(int hold) {
            long amount = 0;
            for (int k = 10; k < 18; k++) {
                amount = amount << 8 | made[start[hold] + k] & HIGHEST_BYTE;
            }
            return amount;
        }

        private void endHold(int hold, int by) {
            held[accountHeld(hold)] -= amountHeld(hold);
            holdsThere--;
            endedBy[hold] = by;
        }

        /** Only where there are fewer than MOST_ENTRIES. */
        private int append(long key) {
            int i = entries;
            System.arraycopy(draft.bytes, 0, made, start[i], draft.size);
            start[i + 1] = start[i] + draft.size;
            keys[i] = key;
            endedBy[i] = NONE;
            legCount[i] = 0;
            entries++;
            return i;
        }
    }

    /** SHA-256 of texts of at most 119 bytes, which is two blocks; CHAIN, LEAF and TREE need no more. */
    private static final class Sha {
        private static final int BLOCK = 64;
        private static final int LONGEST_TEXT = 119;
        private static final int[] FIRST = {
            0x6a09e667, 0xbb67ae85, 0x3c6ef372, 0xa54ff53a, 0x510e527f, 0x9b05688c, 0x1f83d9ab, 0x5be0cd19
        };
        private static final int[] ROUND = {
            0x428a2f98, 0x71374491, 0xb5c0fbcf, 0xe9b5dba5, 0x3956c25b, 0x59f111f1, 0x923f82a4, 0xab1c5ed5,
            0xd807aa98, 0x12835b01, 0x243185be, 0x550c7dc3, 0x72be5d74, 0x80deb1fe, 0x9bdc06a7, 0xc19bf174,
            0xe49b69c1, 0xefbe4786, 0x0fc19dc6, 0x240ca1cc, 0x2de92c6f, 0x4a7484aa, 0x5cb0a9dc, 0x76f988da,
            0x983e5152, 0xa831c66d, 0xb00327c8, 0xbf597fc7, 0xc6e00bf3, 0xd5a79147, 0x06ca6351, 0x14292967,
            0x27b70a85, 0x2e1b2138, 0x4d2c6dfc, 0x53380d13, 0x650a7354, 0x766a0abb, 0x81c2c92e, 0x92722c85,
            0xa2bfe8a1, 0xa81a664b, 0xc24b8b70, 0xc76c51a3, 0xd192e819, 0xd6990624, 0xf40e3585, 0x106aa070,
            0x19a4c116, 0x1e376c08, 0x2748774c, 0x34b0bcb5, 0x391c0cb3, 0x4ed8aa4a, 0x5b9cca4f, 0x682e6ff3,
            0x748f82ee, 0x78a5636f, 0x84c87814, 0x8cc70208, 0x90befffa, 0xa4506ceb, 0xbef9a3f7, 0xc67178f2
        };

        final byte[] text = new byte[2 * BLOCK];
        int size;
        final int[] schedule = new int[BLOCK];
        final int[] state = new int[HASH_WORDS];

        void begin() {
            size = 0;
        }

        void add(int one) {
            if (size < LONGEST_TEXT) {
                text[size] = (byte) one;
                size++;
            }
        }

        void addBytes(byte[] from, int start, int end) {
            for (int i = start; i < end; i++) {
                add(from[i]);
            }
        }

        void addHash(int[] hash) {
            for (int b = 0; b < HASH_BYTES; b++) {
                add(byteOf(hash, b));
            }
        }

        void join(int[] left, int[] right, int[] to) {
            begin();
            add(1);
            addHash(left);
            addHash(right);
            end(to);
        }

        void end(int[] to) {
            int blocks = size + 9 <= BLOCK ? 1 : 2;
            int last = blocks * BLOCK;
            text[size] = (byte) 0x80;
            for (int i = size + 1; i < last - 2; i++) {
                text[i] = 0;
            }
            // the other six bytes of how many bits there are stay 0 for so short a text
            text[last - 2] = (byte) (size >> 5);
            text[last - 1] = (byte) (size << 3);
            copyHash(FIRST, state);
            for (int k = 0; k < blocks; k++) {
                readSchedule(k * BLOCK);
                mix();
            }
            copyHash(state, to);
        }

        private void readSchedule(int from) {
            for (int t = 0; t < 16; t++) {
                int at = from + 4 * t;
                schedule[t] = (text[at] & 255) << 24 | (text[at + 1] & 255) << 16
                    | (text[at + 2] & 255) << 8 | text[at + 3] & 255;
            }
            for (int t = 16; t < BLOCK; t++) {
                int x = schedule[t - 15];
                int y = schedule[t - 2];
                schedule[t] = schedule[t - 16] + schedule[t - 7]
                    + ((x >>> 7 | x << 25) ^ (x >>> 18 | x << 14) ^ x >>> 3)
                    + ((y >>> 17 | y << 15) ^ (y >>> 19 | y << 13) ^ y >>> 10);
            }
        }

        private void mix() {
            int a = state[0];
            int b = state[1];
            int c = state[2];
            int d = state[3];
            int e = state[4];
            int f = state[5];
            int g = state[6];
            int h = state[7];
            for (int t = 0; t < BLOCK; t++) {
                int one = h + ((e >>> 6 | e << 26) ^ (e >>> 11 | e << 21) ^ (e >>> 25 | e << 7))
                    + (e & f ^ ~e & g) + ROUND[t] + schedule[t];
                int two = ((a >>> 2 | a << 30) ^ (a >>> 13 | a << 19) ^ (a >>> 22 | a << 10))
                    + (a & b ^ a & c ^ b & c);
                h = g;
                g = f;
                f = e;
                e = d + one;
                d = c;
                c = b;
                b = a;
                a = one + two;
            }
            state[0] += a;
            state[1] += b;
            state[2] += c;
            state[3] += d;
            state[4] += e;
            state[5] += f;
            state[6] += g;
            state[7] += h;
        }
    }

    /**
     * All entries' bytes as they are now. Hashes are kept till a byte below them is altered, since a
     * run that asks for every byte of a hash would else reckon it 32 times.
     */
    private static final class Pages {
        final byte[] now = new byte[MOST_BYTES];
        final int[] start = new int[MOST_ENTRIES + 1];
        int entries;

        final Sha sha = new Sha();
        final int[][] chain = new int[MOST_ENTRIES + 1][HASH_WORDS];
        int chained;
        // the TREE of 2^level entries from position * 2^level on is node (LEAVES >> level) + position
        final int[][] nodes = new int[LEAVES + MOST_ENTRIES][HASH_WORDS];
        final boolean[] known = new boolean[LEAVES + MOST_ENTRIES];

        int size() {
            return start[entries];
        }

        void follow(Ledger ledger) {
            int from = size();
            int till = ledger.start[ledger.entries];
            System.arraycopy(ledger.made, from, now, from, till - from);
            System.arraycopy(ledger.start, 0, start, 0, ledger.entries + 1);
            entries = ledger.entries;
        }

        /** Bytes beyond the last one are read as 0. */
        long number(int at, int width) {
            long number = 0;
            for (int i = at; i < at + width; i++) {
                number = number << 8 | (i < size() ? now[i] & HIGHEST_BYTE : 0);
            }
            return number;
        }

        void flip(int i, int mask) {
            now[i] = (byte) (now[i] ^ mask);
            int entry = entryWith(i);
            chained = Math.min(chained, entry);
            for (int level = 0; level <= TREE_LEVELS; level++) {
                known[(LEAVES + entry) >> level] = false;
            }
        }

        int entryWith(int i) {
            int entry = 0;
            while (entry + 1 < entries && start[entry + 1] <= i) {
                entry++;
            }
            return entry;
        }

        int[] chainBehind(int n) {
            for (int i = chained; i < n; i++) {
                sha.begin();
                sha.addHash(chain[i]);
                sha.addBytes(now, start[i], start[i + 1]);
                sha.end(chain[i + 1]);
            }
            chained = Math.max(chained, n);
            return chain[n];
        }

        int[] leafOf(int i) {
            return nodeOf(0, i);
        }

        /** The n entries from first on must be a part into which THE TREE's own rule cuts it. */
        void treeOf(int first, int n, int[] to) {
            if (n == 0) {
                sha.begin();
                sha.end(to);
                return;
            }
            int till = first + n;
            for (int level = 0; level < TREE_LEVELS; level++) {
                if ((n >> level & 1) == 1) {
                    till -= 1 << level;
                    int[] node = nodeOf(level, till >> level);
                    if (till + (1 << level) == first + n) {
                        copyHash(node, to);
                    } else {
                        sha.join(node, to, to);
                    }
                }
            }
        }

        private int[] nodeOf(int level, int position) {
            for (int height = 0; height <= level; height++) {
                int from = (LEAVES >> height) + (position << (level - height));
                int till = from + (1 << (level - height));
                for (int node = from; node < till; node++) {
                    if (!known[node]) {
                        learn(node);
                    }
                }
            }
            return nodes[(LEAVES >> level) + position];
        }

        /** Only where both nodes below are known. */
        private void learn(int node) {
            known[node] = true;
            if (node < LEAVES) {
                sha.join(nodes[2 * node], nodes[2 * node + 1], nodes[node]);
                return;
            }
            sha.begin();
            sha.add(0);
            sha.addBytes(now, start[node - LEAVES], start[node - LEAVES + 1]);
            sha.end(nodes[node]);
        }
    }

    private static final class Head {
        final int[] chain = new int[HASH_WORDS];
        final int[] tree = new int[HASH_WORDS];
        int entries = NONE;
    }

    /**
     * The latest PATH or PROOF. Both go down from the whole tree by turns, a PATH to a leaf, a PROOF to
     * the part that ends with the first m entries; their hashes are of what each turn leaves aside.
     */
    private static final class Trail {
        final int[][] hashes = new int[LONGEST_TRAIL][HASH_WORDS];
        int steps;
        boolean isMade;
        boolean isProof;
        int from;
        int till;

        final boolean[] wentRight = new boolean[TREE_LEVELS];
        final int[] asideFirst = new int[TREE_LEVELS];
        final int[] asideSize = new int[TREE_LEVELS];
        int turns;
        int endFirst;
        int endSize;

        final Sha sha = new Sha();
        final int[] older = new int[HASH_WORDS];
        final int[] newer = new int[HASH_WORDS];

        void make(Pages pages, boolean asProof, int itsFrom, int itsTill) {
            isMade = true;
            isProof = asProof;
            from = itsFrom;
            till = itsTill;
            steps = 0;
            goDown(asProof ? itsFrom - 1 : itsFrom);
            if (hasOwnBeginning()) {
                pages.treeOf(endFirst, endSize, hashes[0]);
                steps = 1;
            }
            for (int t = turns - 1; t >= 0; t--) {
                pages.treeOf(asideFirst[t], asideSize[t], hashes[steps]);
                steps++;
            }
        }

        boolean reaches(int[] leaf, Head head) {
            goUp(leaf);
            return sameHash(newer, head.tree);
        }

        boolean joins(Head old, Head young) {
            goUp(hasOwnBeginning() ? hashes[0] : old.tree);
            return sameHash(older, old.tree) && sameHash(newer, young.tree);
        }

        /** A PROOF that never went right begins at the TREE of the first m, which its reader has. */
        private boolean hasOwnBeginning() {
            return isProof && endFirst > 0;
        }

        private void goDown(int entry) {
            endFirst = 0;
            endSize = till;
            turns = 0;
            while (turns < TREE_LEVELS && !isEnd(entry)) {
                int half = powerBelow(endSize);
                boolean right = entry >= endFirst + half;
                wentRight[turns] = right;
                asideFirst[turns] = right ? endFirst : endFirst + half;
                asideSize[turns] = right ? half : endSize - half;
                endFirst = right ? endFirst + half : endFirst;
                endSize = right ? endSize - half : half;
                turns++;
            }
        }

        private boolean isEnd(int entry) {
            return endSize == 1 || isProof && entry == endFirst + endSize - 1;
        }

        private static int powerBelow(int n) {
            int power = 1;
            for (int level = 0; level < TREE_LEVELS && 2 * power < n; level++) {
                power *= 2;
            }
            return power;
        }

        private void goUp(int[] beginning) {
            copyHash(beginning, older);
            copyHash(beginning, newer);
            int step = steps - turns;
            for (int t = turns - 1; t >= 0; t--) {
                if (wentRight[t]) {
                    sha.join(hashes[step], older, older);
                    sha.join(hashes[step], newer, newer);
                } else {
                    sha.join(newer, hashes[step], newer);
                }
                step++;
            }
        }
    }

    private static final class Auditor {
        final Ledger mirror = new Ledger();
        final Legs legs = new Legs();

        /** The first entry that no ledger would make there; NONE if it would make them all. */
        int firstBad(Pages pages, int[] everyTold) {
            mirror.startAnew();
            for (int i = 0; i <= MOST_ENTRIES && hasToStand(pages, i); i++) {
                if (everyTold[i] != NONE) {
                    mirror.startEvery(everyTold[i]);
                }
                if (mirror.entries == i) {
                    callAgain(pages, mirror.start[i]);
                }
                if (mirror.entries == i || !stands(pages, i)) {
                    return i;
                }
            }
            return NONE;
        }

        /** Also without a byte of it: the entry before may have brought a TRIAL, which comes next. */
        private boolean hasToStand(Pages pages, int i) {
            return mirror.entries > i || mirror.start[i] < pages.size();
        }

        /** Makes no entry where none can be read; one that is read beyond the last byte stands() refuses. */
        private void callAgain(Pages pages, int at) {
            long first = pages.number(at + 1, 8);
            int account = (int) pages.number(at + 9, 1);
            int entry = (int) pages.number(at + 9, 2);
            switch ((int) pages.number(at, 1)) {
                case OPEN:
                    mirror.addAccount(first);
                    break;
                case POST:
                    if (readLegs(pages, at + 9)) {
                        mirror.addPost(first, legs);
                    }
                    break;
                case HOLD:
                    mirror.addHold(first, account, pages.number(at + 10, 8));
                    break;
                case RELEASE:
                    mirror.addRelease((int) pages.number(at + 1, 2));
                    break;
                case CAPTURE:
                    mirror.addCapture(first, entry, (int) pages.number(at + 11, 1), pages.number(at + 12, 8));
                    break;
                case REVERSAL:
                    mirror.addReversal(first, entry);
                    break;
                default:
                    break;
            }
        }

        private boolean readLegs(Pages pages, int at) {
            legs.size = 0;
            int told = (int) pages.number(at, 1);
            for (int k = 0; k < told; k++) {
                int leg = at + 1 + 9 * k;
                if (!legs.add((int) pages.number(leg, 1), pages.number(leg + 1, 8))) {
                    return false;
                }
            }
            return true;
        }

        private boolean stands(Pages pages, int i) {
            if (mirror.start[i + 1] > pages.size()) {
                return false;
            }
            for (int b = mirror.start[i]; b < mirror.start[i + 1]; b++) {
                if (mirror.made[b] != pages.now[b]) {
                    return false;
                }
            }
            return true;
        }
    }
}
