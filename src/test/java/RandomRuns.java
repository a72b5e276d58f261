import java.io.ByteArrayOutputStream;
import java.math.BigInteger;
import java.nio.ByteBuffer;
import java.security.MessageDigest;
import java.security.NoSuchAlgorithmException;
import java.util.ArrayList;
import java.util.Arrays;
import java.util.List;
import java.util.Random;

/** Random runs of calls, each answer against that of Model, a second ledger that is written from the document. */
public final class RandomRuns {
    private static final String[] CALLS = {
        "open", "leg", "clear", "post", "hold", "release", "capture", "reverse", "every", "account", "entry",
        "data", "alter", "hash", "keep", "verify", "path", "proof", "step", "leads", "audit", "count"
    };
    private static final long[] EXTREME = {
        Long.MIN_VALUE, Long.MIN_VALUE + 1, Long.MAX_VALUE, Long.MAX_VALUE - 1, 1L << 62, -(1L << 62),
        1L << 32, -(1L << 32), (1L << 32) - 1, 0, 1, -1
    };
    private static final int[] EDGES = {
        Integer.MIN_VALUE, Integer.MAX_VALUE, -2, -1, 0, 1, 7, 8, 31, 32, 39, 40, 50, 51, 199, 200, 255, 256
    };
    private static final int RUNS = 1000;
    private static final int FORGED = 1500;
    private static int wrong = 0;
    private static long allCalls = 0;

    public static void main(String[] args) {
        for (int seed = 1; seed <= RUNS; seed++) {
            run(seed);
        }
        int shifted = 0;
        for (int seed = 1; seed <= FORGED; seed++) {
            shifted += forge(seed);
        }
        System.out.println(allCalls + " random calls, " + shifted + " ledgers forged into others of as many bytes");
        System.out.println(wrong == 0 ? "all answers are as due" : wrong + " answers are not as due");
        if (wrong != 0) {
            System.exit(1);
        }
    }

    private static void run(int seed) {
        Random r = new Random(seed);
        Pair pair = new Pair(seed);
        Style style = new Style(r);
        while (pair.calls < 512) {
            if (r.nextInt(10) < style.good) {
                goodCall(pair, r, style);
                continue;
            }
            int op = style.pick(r);
            long[] a = arguments(op, r, style, pair.model);
            if (a.length > 0 && r.nextInt(30) == 0) {
                a[r.nextInt(a.length)] = EDGES[r.nextInt(EDGES.length)];
            }
            pair.call(op, a);
            if (op == 12 && r.nextInt(3) > 0) {
                pair.call(r.nextBoolean() ? 20 : 15, new long[] {r.nextInt(8)});
                if (r.nextInt(4) > 0) {
                    pair.call(op, a);
                }
            }
        }
        pair.compareAll(r);
    }

    /** A call that most likely makes an entry, so that a run comes to 200 of them. */
    private static void goodCall(Pair pair, Random r, Style style) {
        Model m = pair.model;
        long key = 1000000 + pair.calls;
        int i = style.number(r, m.entries.size());
        if (m.balances.size() < 3) {
            pair.call(0, r.nextBoolean() ? Long.MIN_VALUE : -r.nextInt(100000));
        } else if (m.holdIsThere(Math.max(i, 0))) {
            long amount = Math.min(style.amount(r), m.entries.get(i).amount.longValue());
            boolean whole = r.nextInt(4) == 0;
            pair.call(whole ? 5 : 6, whole ? new long[] {i} : new long[] {key, i, r.nextInt(3), amount});
        } else if (i >= 0 && i < m.entries.size() && !m.entries.get(i).legs.isEmpty() && m.entries.get(i).ended < 0) {
            pair.call(7, key, i);
        } else if (r.nextInt(3) > 0) {
            pair.call(4, key, r.nextInt(3), style.amount(r));
        } else {
            long amount = style.amount(r);
            pair.call(2);
            pair.call(1, r.nextInt(3), amount);
            pair.call(1, r.nextInt(3), -amount);
            pair.call(3, key);
        }
    }

    /** A ledger's bytes are altered into those of another one, so that its entries stand elsewhere. */
    private static int forge(int seed) {
        Random r = new Random(-seed);
        Pair pair = new Pair(-seed);
        Style style = new Style(r);
        style.small = true;
        grow(pair, r, style, 8 + r.nextInt(16));
        for (int tries = 0; tries < 400; tries++) {
            Pair other = new Pair(-seed);
            style.every = r.nextInt(4) == 0 ? 0 : style.every;
            if (r.nextBoolean()) {
                other.call(8, new long[] {r.nextInt(3)});
            }
            grow(other, r, style, 8 + r.nextInt(16));
            byte[] goal = other.model.now;
            if (goal.length == pair.model.now.length && !Arrays.equals(goal, pair.model.now)) {
                alterInto(pair, goal);
                return 1;
            }
        }
        return 0;
    }

    private static void grow(Pair pair, Random r, Style style, int most) {
        for (int c = 0; c < 60 && pair.model.entries.size() < most; c++) {
            int op = pair.model.balances.size() < 2 ? 0 : r.nextInt(9);
            pair.call(op, arguments(op, r, style, pair.model));
        }
    }

    private static void alterInto(Pair pair, byte[] goal) {
        for (int i = 0; i < goal.length; i++) {
            int mask = (goal[i] ^ pair.model.now[i]) & 255;
            if (mask != 0) {
                pair.call(12, new long[] {i, mask});
                pair.call(20, new long[0]);
            }
        }
    }

    private static long[] arguments(int op, Random r, Style s, Model m) {
        int entries = m.entries.size();
        switch (op) {
            case 0: return new long[] {s.small ? -r.nextInt(3) * 1000 : s.floor(r)};
            case 1: return leg(r, s, m);
            case 3: return new long[] {s.key(r)};
            case 4: return new long[] {s.key(r), s.account(r), s.amount(r)};
            case 5: return new long[] {s.number(r, entries)};
            case 6: return capture(r, s, m);
            case 7: return new long[] {s.key(r), s.number(r, entries)};
            case 8: return new long[] {r.nextInt(4) == 0 ? r.nextInt(56) - 3 : s.every};
            case 9: return new long[] {s.account(r), r.nextInt(5) - 1};
            case 10: return new long[] {s.number(r, entries), r.nextInt(r.nextBoolean() ? 7 : 42) - 1};
            case 11: return new long[] {s.number(r, m.now.length)};
            case 12: return new long[] {s.number(r, m.now.length), r.nextInt(8) == 0 ? r.nextInt(300) - 20 : 1 << r.nextInt(8)};
            case 13: return new long[] {r.nextInt(5) - 1, s.number(r, entries + 1), r.nextInt(36) - 2};
            case 14:
            case 15: return new long[] {r.nextInt(10) - 1};
            case 16:
            case 17: return trail(r, s, m);
            case 18: return new long[] {r.nextInt(11) - 1, r.nextInt(36) - 2};
            case 19: return heads(r, m);
            case 21: return new long[] {r.nextInt(10) - 1};
            default: return new long[0];
        }
    }

    /** Mostly the leg that makes the legs come to nothing, else few posts would be good. */
    private static long[] leg(Random r, Style s, Model m) {
        BigInteger sum = BigInteger.ZERO;
        for (long[] told : m.told) {
            sum = sum.add(BigInteger.valueOf(told[1]));
        }
        boolean even = sum.signum() != 0 && sum.bitLength() < 63 && r.nextInt(4) > 0;
        return new long[] {s.account(r), even ? -sum.longValue() : r.nextBoolean() ? s.amount(r) : -s.amount(r)};
    }

    private static long[] capture(Random r, Style s, Model m) {
        int hold = s.number(r, m.entries.size());
        for (int i = 0; i < m.entries.size() && r.nextInt(5) > 0; i++) {
            if (m.entries.get(i).kind == 3 && m.entries.get(i).ended < 0 && r.nextBoolean()) {
                hold = i;
            }
        }
        return new long[] {s.key(r), hold, s.account(r), s.amount(r)};
    }

    private static long[] trail(Random r, Style s, Model m) {
        int till = s.number(r, m.entries.size() + 1);
        int from = s.number(r, Math.max(till, 1));
        if (r.nextInt(3) > 0) {
            int j = r.nextInt(8);
            int k = r.nextInt(8);
            from = m.heads[j] == null ? from : m.heads[j].n;
            till = m.heads[k] == null ? till : m.heads[k].n;
        }
        return new long[] {from, till};
    }

    private static long[] heads(Random r, Model m) {
        int j = r.nextInt(10) - 1;
        int k = r.nextInt(10) - 1;
        for (int h = 0; h < 8 && r.nextInt(10) > 0; h++) {
            if (m.heads[h] != null && m.trail != null) {
                j = m.heads[h].n == m.from ? h : j;
                k = m.heads[h].n == m.till ? h : k;
            }
        }
        return new long[] {j, k};
    }

    /** What kind of calls a run has most of. */
    private static final class Style {
        final int[] weights = new int[CALLS.length];
        final int keys;
        final int accounts;
        final int extremes;
        final int good;
        int every;
        boolean small;

        Style(Random r) {
            for (int i = 0; i < weights.length; i++) {
                weights[i] = i < 9 ? 2 + r.nextInt(12) : 1 + r.nextInt(4);
            }
            weights[0] = 1 + r.nextInt(4);
            weights[1] = 10 + r.nextInt(20);
            weights[2] = 1;
            weights[8] = r.nextInt(3);
            keys = r.nextBoolean() ? 12 : 100000;
            accounts = 1 + r.nextInt(6);
            extremes = r.nextInt(3) == 0 ? 2 : 40;
            good = r.nextInt(10);
            every = r.nextInt(5);
        }

        int pick(Random r) {
            int sum = 0;
            for (int w : weights) {
                sum += w;
            }
            int at = r.nextInt(sum);
            int op = 0;
            while (at >= weights[op]) {
                at -= weights[op];
                op++;
            }
            return op;
        }

        long extreme(Random r) {
            return EXTREME[r.nextInt(EXTREME.length)];
        }

        long floor(Random r) {
            return r.nextInt(3) == 0 ? extreme(r) : r.nextBoolean() ? Long.MIN_VALUE : -r.nextInt(500);
        }

        long key(Random r) {
            return r.nextInt(40) == 0 ? extreme(r) : 1 + r.nextInt(keys);
        }

        int account(Random r) {
            return !small && r.nextInt(20) == 0 ? r.nextInt(300) - 20 : r.nextInt(accounts + 1);
        }

        long amount(Random r) {
            return !small && r.nextInt(extremes) == 0 ? extreme(r) : 1 + r.nextInt(60);
        }

        int number(Random r, int n) {
            return r.nextInt(20) == 0 ? r.nextInt(240) - 20 : r.nextInt(Math.max(n, 1));
        }
    }

    /** The program and the model side by side. */
    private static final class Pair {
        final ChainBooks real = new ChainBooks();
        final Model model = new Model();
        final int run;
        int calls;

        Pair(int run) {
            this.run = run;
        }

        void call(int op, long... a) {
            calls++;
            allCalls++;
            long got = real(op, a);
            long want = model(op, a);
            if (got != want && wrong++ < 40) {
                System.out.println("run " + run + ": " + CALLS[op] + Arrays.toString(a) + " answered " + got + ", due is " + want);
            }
        }

        void compareAll(Random r) {
            int entries = model.entries.size();
            for (int a = 0; a < model.balances.size() + 1; a++) {
                for (int what = 0; what < 3; what++) {
                    call(9, a, what);
                }
            }
            for (int i = 0; i <= entries; i++) {
                for (int what = 0; what < 40; what++) {
                    call(10, i, what);
                }
                call(13, 0, i, r.nextInt(32));
                call(13, 1, i, r.nextInt(32));
                call(13, 2, i, r.nextInt(32));
            }
            for (int what = 0; what < 9; what++) {
                call(21, what);
            }
            for (int i = 0; i <= model.now.length; i++) {
                call(11, i);
            }
            call(20);
        }

        long real(int op, long[] a) {
            switch (op) {
                case 0: return real.open(a[0]);
                case 1: return real.leg((int) a[0], a[1]);
                case 2: return real.clear();
                case 3: return real.post(a[0]);
                case 4: return real.hold(a[0], (int) a[1], a[2]);
                case 5: return real.release((int) a[0]);
                case 6: return real.capture(a[0], (int) a[1], (int) a[2], a[3]);
                case 7: return real.reverse(a[0], (int) a[1]);
                case 8: return real.every((int) a[0]);
                case 9: return real.account((int) a[0], (int) a[1]);
                case 10: return real.entry((int) a[0], (int) a[1]);
                case 11: return real.data((int) a[0]);
                case 12: return real.alter((int) a[0], (int) a[1]);
                case 13: return real.hash((int) a[0], (int) a[1], (int) a[2]);
                case 14: return real.keep((int) a[0]);
                case 15: return real.verify((int) a[0]);
                case 16: return real.path((int) a[0], (int) a[1]);
                case 17: return real.proof((int) a[0], (int) a[1]);
                case 18: return real.step((int) a[0], (int) a[1]);
                case 19: return real.leads((int) a[0], (int) a[1]);
                case 20: return real.audit();
                default: return real.count((int) a[0]);
            }
        }

        long model(int op, long[] a) {
            switch (op) {
                case 0: return model.open(a[0]);
                case 1: return model.leg(a[0], a[1]);
                case 2: return model.clear();
                case 3: return model.postTold(a[0]);
                case 4: return model.hold(a[0], a[1], a[2]);
                case 5: return model.release(a[0]);
                case 6: return model.capture(a[0], a[1], a[2], a[3]);
                case 7: return model.reverse(a[0], a[1]);
                case 8: return model.every((int) a[0]);
                case 9: return model.account((int) a[0], (int) a[1]);
                case 10: return model.entry((int) a[0], (int) a[1]);
                case 11: return a[0] >= 0 && a[0] < model.now.length ? model.now[(int) a[0]] & 255 : -1;
                case 12: return model.alter((int) a[0], (int) a[1]);
                case 13: return model.hash((int) a[0], (int) a[1], (int) a[2]);
                case 14: return model.keep((int) a[0]);
                case 15: return model.verify((int) a[0]);
                case 16: return model.path((int) a[0], (int) a[1]);
                case 17: return model.proof((int) a[0], (int) a[1]);
                case 18: return model.step((int) a[0], (int) a[1]);
                case 19: return model.leads((int) a[0], (int) a[1]);
                case 20: return model.audit();
                default: return model.count((int) a[0]);
            }
        }
    }

    private static final class Entry {
        int kind;
        long key;
        byte[] bytes;
        int ended = -1;
        int account;
        BigInteger amount;
        List<long[]> legs = new ArrayList<>();
    }

    private static final class Kept {
        int n;
        byte[] chain;
        byte[] tree;
    }

    private static final class Model {
        static final BigInteger LEAST = BigInteger.valueOf(Long.MIN_VALUE);
        static final BigInteger MOST = BigInteger.valueOf(Long.MAX_VALUE);

        final List<BigInteger> balances = new ArrayList<>();
        final List<BigInteger> floors = new ArrayList<>();
        final List<Entry> entries = new ArrayList<>();
        final List<int[]> everyCalls = new ArrayList<>();
        List<long[]> told = new ArrayList<>();
        byte[] now = new byte[0];
        int every;
        int since;
        final Kept[] heads = new Kept[8];
        List<byte[]> trail;
        boolean trailIsProof;
        int from;
        int till;

        int open(long floor) {
            if (floor > 0) {
                return -6;
            }
            if (entries.size() == 200) {
                return -8;
            }
            if (balances.size() == 40) {
                return -1;
            }
            balances.add(BigInteger.ZERO);
            floors.add(BigInteger.valueOf(floor));
            append(1, 0, ByteBuffer.allocate(9).put((byte) 1).putLong(floor));
            return balances.size() - 1;
        }

        int leg(long account, long amount) {
            if (told.size() == 8 || account < 0 || account > 255 || amount == 0 || amount == Long.MIN_VALUE) {
                return -1;
            }
            told.add(new long[] {account, amount});
            return told.size();
        }

        int clear() {
            int n = told.size();
            told = new ArrayList<>();
            return n;
        }

        int postTold(long key) {
            int answer = post(key, told);
            if (answer >= 0) {
                told = new ArrayList<>();
            }
            return answer;
        }

        int post(long key, List<long[]> legs) {
            if (legs.isEmpty() || key == 0) {
                return -1;
            }
            ByteBuffer bytes = ByteBuffer.allocate(10 + 9 * legs.size()).put((byte) 2).putLong(key).put((byte) legs.size());
            BigInteger sum = BigInteger.ZERO;
            boolean there = true;
            for (long[] leg : legs) {
                bytes.put((byte) leg[0]).putLong(leg[1]);
                sum = sum.add(BigInteger.valueOf(leg[1]));
                there &= leg[0] < balances.size();
            }
            int before = byKey(key, bytes);
            if (before != -1) {
                return before;
            }
            if (!there) {
                return -2;
            }
            return sum.signum() != 0 ? -3 : move(2, key, bytes, legs, null);
        }

        int hold(long key, long account, long amount) {
            if (key == 0 || account < 0 || account > 255 || amount <= 0) {
                return -1;
            }
            ByteBuffer bytes = ByteBuffer.allocate(18).put((byte) 3).putLong(key).put((byte) account).putLong(amount);
            int before = byKey(key, bytes);
            if (before != -1) {
                return before;
            }
            if (account >= balances.size()) {
                return -2;
            }
            int a = (int) account;
            BigInteger free = balances.get(a).subtract(holds(a)).subtract(BigInteger.valueOf(amount));
            if (free.compareTo(floors.get(a)) < 0) {
                return -6;
            }
            if (entries.size() == 200) {
                return -8;
            }
            Entry e = append(3, key, bytes);
            e.account = a;
            e.amount = BigInteger.valueOf(amount);
            return entries.size() - 1;
        }

        int release(long hold) {
            if (hold < 0 || hold > 199) {
                return -1;
            }
            if (!holdIsThere(hold)) {
                return -2;
            }
            if (entries.size() == 200) {
                return -8;
            }
            entries.get((int) hold).ended = entries.size();
            append(4, 0, ByteBuffer.allocate(3).put((byte) 4).putShort((short) hold));
            return entries.size() - 1;
        }

        int capture(long key, long hold, long account, long amount) {
            if (key == 0 || hold < 0 || hold > 199 || account < 0 || account > 255 || amount <= 0) {
                return -1;
            }
            ByteBuffer bytes = ByteBuffer.allocate(20).put((byte) 5).putLong(key).putShort((short) hold)
                .put((byte) account).putLong(amount);
            int before = byKey(key, bytes);
            if (before != -1) {
                return before;
            }
            if (!holdIsThere(hold) || account >= balances.size()) {
                return -2;
            }
            Entry e = entries.get((int) hold);
            if (BigInteger.valueOf(amount).compareTo(e.amount) > 0) {
                return -2;
            }
            return move(5, key, bytes, List.of(new long[] {e.account, -amount}, new long[] {account, amount}), e);
        }

        int reverse(long key, long entry) {
            if (key == 0 || entry < 0 || entry > 199) {
                return -1;
            }
            ByteBuffer bytes = ByteBuffer.allocate(11).put((byte) 6).putLong(key).putShort((short) entry);
            int before = byKey(key, bytes);
            if (before != -1) {
                return before;
            }
            if (entry >= entries.size() || entries.get((int) entry).legs.isEmpty()) {
                return -2;
            }
            Entry e = entries.get((int) entry);
            if (e.ended >= 0) {
                return -7;
            }
            List<long[]> legs = new ArrayList<>();
            for (long[] leg : e.legs) {
                legs.add(new long[] {leg[0], -leg[1]});
            }
            return move(6, key, bytes, legs, e);
        }

        /** ends: the HOLD or the entry that this one ends, or null. */
        int move(int kind, long key, ByteBuffer bytes, List<long[]> legs, Entry ends) {
            List<BigInteger> behind = new ArrayList<>(balances);
            for (long[] leg : legs) {
                BigInteger sum = behind.get((int) leg[0]).add(BigInteger.valueOf(leg[1]));
                if (sum.compareTo(LEAST) < 0 || sum.compareTo(MOST) > 0) {
                    return -5;
                }
                behind.set((int) leg[0], sum);
            }
            int was = ends == null ? -1 : ends.ended;
            if (ends != null) {
                ends.ended = entries.size();
            }
            int refusal = entries.size() == 200 ? -8 : 0;
            for (long[] leg : legs) {
                int a = (int) leg[0];
                if (behind.get(a).subtract(holds(a)).compareTo(floors.get(a)) < 0) {
                    refusal = -6;
                }
            }
            if (refusal != 0) {
                if (ends != null) {
                    ends.ended = was;
                }
                return refusal;
            }
            for (int a = 0; a < behind.size(); a++) {
                balances.set(a, behind.get(a));
            }
            int i = entries.size();
            append(kind, key, bytes).legs = legs;
            since++;
            if (every > 0 && since == every && entries.size() < 200) {
                trial();
            }
            return i;
        }

        void trial() {
            BigInteger sum = BigInteger.ZERO;
            for (BigInteger b : balances) {
                sum = sum.add(b.max(BigInteger.ZERO));
            }
            ByteBuffer bytes = ByteBuffer.allocate(18).put((byte) 7).put((byte) balances.size());
            byte[] number = sum.toByteArray();
            bytes.position(18 - number.length);
            append(7, 0, bytes.put(number));
            since = 0;
        }

        Entry append(int kind, long key, ByteBuffer bytes) {
            Entry e = new Entry();
            e.kind = kind;
            e.key = key;
            e.bytes = bytes.array();
            entries.add(e);
            now = joined(now, e.bytes);
            return e;
        }

        int byKey(long key, ByteBuffer bytes) {
            for (int i = 0; i < entries.size(); i++) {
                if (entries.get(i).key == key) {
                    return Arrays.equals(entries.get(i).bytes, bytes.array()) ? i : -4;
                }
            }
            return -1;
        }

        boolean holdIsThere(long i) {
            return i < entries.size() && entries.get((int) i).kind == 3 && entries.get((int) i).ended < 0;
        }

        BigInteger holds(int account) {
            BigInteger sum = BigInteger.ZERO;
            for (int i = 0; i < entries.size(); i++) {
                if (holdIsThere(i) && entries.get(i).account == account) {
                    sum = sum.add(entries.get(i).amount);
                }
            }
            return sum;
        }

        int every(int n) {
            if (n < 0 || n > 50) {
                return -1;
            }
            int was = every;
            every = n;
            since = 0;
            everyCalls.add(new int[] {entries.size(), n});
            return was;
        }

        long account(int a, int what) {
            if (a < 0 || a >= balances.size() || what < 0 || what > 2) {
                return Long.MIN_VALUE;
            }
            return what == 0 ? balances.get(a).longValue() : what == 1 ? holds(a).longValue() : floors.get(a).longValue();
        }

        long entry(int i, int what) {
            if (i < 0 || i >= entries.size()) {
                return Long.MIN_VALUE;
            }
            Entry e = entries.get(i);
            if (what >= 0 && what <= 5) {
                return new long[] {e.kind, e.bytes.length, start(i), e.key, e.legs.size(), e.ended}[what];
            }
            int k = what >= 30 ? what - 30 : what - 10;
            return k < 0 || k >= e.legs.size() ? Long.MIN_VALUE : e.legs.get(k)[what >= 30 ? 1 : 0];
        }

        int start(int i) {
            int at = 0;
            for (int k = 0; k < i; k++) {
                at += entries.get(k).bytes.length;
            }
            return at;
        }

        int alter(int i, int mask) {
            if (i < 0 || i >= now.length || mask < 1 || mask > 255) {
                return -1;
            }
            now[i] ^= (byte) mask;
            return now[i] & 255;
        }

        byte[] bytesNow(int i) {
            int at = start(i);
            return Arrays.copyOfRange(now, at, at + entries.get(i).bytes.length);
        }

        byte[] chain(int n) {
            byte[] hash = new byte[32];
            for (int i = 0; i < n; i++) {
                hash = sha(hash, bytesNow(i));
            }
            return hash;
        }

        byte[] leaf(int i) {
            return sha(new byte[] {0}, bytesNow(i));
        }

        byte[] tree(int first, int n) {
            if (n == 0) {
                return sha();
            }
            int k = below(n);
            return n == 1 ? leaf(first) : sha(new byte[] {1}, tree(first, k), tree(first + k, n - k));
        }

        static int below(int n) {
            return n <= 1 ? 0 : Integer.highestOneBit(n - 1);
        }

        long hash(int what, int n, int b) {
            if (b < 0 || b > 31 || n < 0 || n > entries.size() || what < 0 || what > 2 || what == 2 && n == entries.size()) {
                return -1;
            }
            return (what == 0 ? chain(n) : what == 1 ? tree(0, n) : leaf(n))[b] & 255;
        }

        int keep(int k) {
            if (k < 0 || k > 7) {
                return -1;
            }
            heads[k] = new Kept();
            heads[k].n = entries.size();
            heads[k].chain = chain(entries.size());
            heads[k].tree = tree(0, entries.size());
            return entries.size();
        }

        int verify(int k) {
            if (k < 0 || k > 7 || heads[k] == null) {
                return -1;
            }
            Kept h = heads[k];
            return !Arrays.equals(chain(h.n), h.chain) ? 1 : Arrays.equals(tree(0, h.n), h.tree) ? 0 : 2;
        }

        int path(int i, int n) {
            if (i < 0 || i >= n || n > entries.size()) {
                return -1;
            }
            trail = new ArrayList<>();
            addPath(i, 0, n);
            return made(false, i, n);
        }

        void addPath(int i, int first, int n) {
            int k = below(n);
            if (n > 1 && i < k) {
                addPath(i, first, k);
                trail.add(tree(first + k, n - k));
            } else if (n > 1) {
                addPath(i - k, first + k, n - k);
                trail.add(tree(first, k));
            }
        }

        int proof(int m, int n) {
            if (m <= 0 || m >= n || n > entries.size()) {
                return -1;
            }
            trail = new ArrayList<>();
            addProof(m, 0, n, true);
            return made(true, m, n);
        }

        void addProof(int m, int first, int n, boolean b) {
            int k = below(n);
            if (m == n) {
                if (!b) {
                    trail.add(tree(first, n));
                }
            } else if (m <= k) {
                addProof(m, first, k, b);
                trail.add(tree(first + k, n - k));
            } else {
                addProof(m - k, first + k, n - k, false);
                trail.add(tree(first, k));
            }
        }

        int made(boolean asProof, int itsFrom, int itsTill) {
            trailIsProof = asProof;
            from = itsFrom;
            till = itsTill;
            return trail.size();
        }

        int step(int i, int b) {
            return trail == null || i < 0 || i >= trail.size() || b < 0 || b > 31 ? -1 : trail.get(i)[b] & 255;
        }

        int leads(int j, int k) {
            if (trail == null || k < 0 || k > 7 || heads[k] == null || heads[k].n != till) {
                return -1;
            }
            if (!trailIsProof) {
                return climbs(leaf(from), null, trail, from, heads[k].tree) ? 1 : 0;
            }
            if (j < 0 || j > 7 || heads[j] == null || heads[j].n != from) {
                return -1;
            }
            List<byte[]> steps = new ArrayList<>(trail);
            if (Integer.bitCount(from) == 1) {
                steps.add(0, heads[j].tree);
            }
            return climbs(steps.remove(0), heads[j].tree, steps, from - 1, heads[k].tree) ? 1 : 0;
        }

        /** The readers' algorithms of RFC 9162, 2.1.3.2 (old is null) and 2.1.4.2. */
        boolean climbs(byte[] start, byte[] old, List<byte[]> steps, int fn, byte[] goal) {
            int sn = till - 1;
            while (old != null && (fn & 1) == 1) {
                fn >>= 1;
                sn >>= 1;
            }
            byte[] fr = start;
            byte[] sr = start;
            byte[] one = {1};
            for (byte[] c : steps) {
                if (sn == 0) {
                    return false;
                }
                if ((fn & 1) == 1 || fn == sn) {
                    fr = sha(one, c, fr);
                    sr = sha(one, c, sr);
                    while ((fn & 1) == 0 && fn != 0) {
                        fn >>= 1;
                        sn >>= 1;
                    }
                } else {
                    sr = sha(one, sr, c);
                }
                fn >>= 1;
                sn >>= 1;
            }
            return sn == 0 && Arrays.equals(sr, goal) && (old == null || Arrays.equals(fr, old));
        }

        int audit() {
            Model again = new Model();
            ByteBuffer in = ByteBuffer.wrap(now);
            for (int i = 0; in.hasRemaining() || again.entries.size() > i; i++) {
                for (int[] call : everyCalls) {
                    if (call[0] == i) {
                        again.every(call[1]);
                    }
                }
                if (again.entries.size() == i) {
                    again.readCall(in.slice());
                }
                if (again.entries.size() == i) {
                    return i;
                }
                byte[] due = again.entries.get(i).bytes;
                byte[] is = new byte[Math.min(due.length, in.remaining())];
                in.get(is);
                if (!Arrays.equals(due, is)) {
                    return i;
                }
            }
            for (int i = 0; i < entries.size(); i++) {
                if (!Arrays.equals(entries.get(i).bytes, bytesNow(i))) {
                    return i;
                }
            }
            return -1;
        }

        void readCall(ByteBuffer in) {
            int kind = in.get() & 255;
            int[] lengths = {0, 9, 10, 18, 3, 20, 11};
            if (kind < 1 || kind > 6 || in.remaining() + 1 < lengths[kind]) {
                return;
            }
            if (kind == 4) {
                release(in.getShort());
                return;
            }
            long first = in.getLong();
            if (kind == 1) {
                open(first);
            } else if (kind == 2) {
                int n = in.get() & 255;
                boolean good = n <= 8 && in.remaining() >= 9 * n;
                for (int k = 0; k < n && good; k++) {
                    good = leg(in.get() & 255, in.getLong()) > 0;
                }
                if (good) {
                    post(first, told);
                }
                told = new ArrayList<>();
            } else if (kind == 3) {
                hold(first, in.get() & 255, in.getLong());
            } else if (kind == 5) {
                capture(first, in.getShort(), in.get() & 255, in.getLong());
            } else {
                reverse(first, in.getShort());
            }
        }

        int count(int what) {
            int holds = 0;
            int altered = 0;
            for (int i = 0; i < entries.size(); i++) {
                holds += holdIsThere(i) ? 1 : 0;
                byte[] is = bytesNow(i);
                for (int b = 0; b < is.length; b++) {
                    altered += is[b] != entries.get(i).bytes[b] ? 1 : 0;
                }
            }
            int[] counts = {balances.size(), entries.size(), now.length, holds, every, since, told.size(), altered};
            return what < 0 || what > 7 ? -1 : counts[what];
        }

        static byte[] joined(byte[]... parts) {
            ByteArrayOutputStream all = new ByteArrayOutputStream();
            for (byte[] part : parts) {
                all.writeBytes(part);
            }
            return all.toByteArray();
        }

        static byte[] sha(byte[]... parts) {
            try {
                return MessageDigest.getInstance("SHA-256").digest(joined(parts));
            } catch (NoSuchAlgorithmException e) {
                throw new IllegalStateException(e);
            }
        }
    }
}
