import java.util.Arrays;

/** A ChainBooks whose answers bear the text of their call; nothing is promised behind the 512th call. */
final class Books {
    static final int NONE = -1;
    static final long NOTHING = Long.MIN_VALUE;
    static final long LEAST = Long.MIN_VALUE;
    static final long MOST = Long.MAX_VALUE;
    private static final int MOST_CALLS = 512;

    final ChainBooks real = new ChainBooks();
    private int calls;

    record Answer(String call, long value) {
        Answer gives(long want) {
            SentenceTests.due(call, value, want);
            return this;
        }
    }

    Answer open(long floor) {
        return told(real.open(floor), "open", floor);
    }

    Answer leg(int account, long amount) {
        return told(real.leg(account, amount), "leg", account, amount);
    }

    Answer clear() {
        return told(real.clear(), "clear");
    }

    Answer post(long key) {
        return told(real.post(key), "post", key);
    }

    Answer hold(long key, int account, long amount) {
        return told(real.hold(key, account, amount), "hold", key, account, amount);
    }

    Answer release(int entry) {
        return told(real.release(entry), "release", entry);
    }

    Answer capture(long key, int entry, int account, long amount) {
        return told(real.capture(key, entry, account, amount), "capture", key, entry, account, amount);
    }

    Answer reverse(long key, int entry) {
        return told(real.reverse(key, entry), "reverse", key, entry);
    }

    Answer every(int n) {
        return told(real.every(n), "every", n);
    }

    Answer account(int account, int what) {
        return told(real.account(account, what), "account", account, what);
    }

    Answer entry(int i, int what) {
        return told(real.entry(i, what), "entry", i, what);
    }

    Answer data(int i) {
        return told(real.data(i), "data", i);
    }

    Answer alter(int i, int mask) {
        return told(real.alter(i, mask), "alter", i, mask);
    }

    Answer hash(int what, int n, int b) {
        return told(real.hash(what, n, b), "hash", what, n, b);
    }

    Answer keep(int k) {
        return told(real.keep(k), "keep", k);
    }

    Answer verify(int k) {
        return told(real.verify(k), "verify", k);
    }

    Answer path(int i, int n) {
        return told(real.path(i, n), "path", i, n);
    }

    Answer proof(int m, int n) {
        return told(real.proof(m, n), "proof", m, n);
    }

    Answer step(int i, int b) {
        return told(real.step(i, b), "step", i, b);
    }

    Answer leads(int j, int k) {
        return told(real.leads(j, k), "leads", j, k);
    }

    Answer audit() {
        return told(real.audit(), "audit");
    }

    Answer count(int what) {
        return told(real.count(what), "count", what);
    }

    static Books opened(long... floors) {
        Books x = new Books();
        for (int a = 0; a < floors.length; a++) {
            x.open(floors[a]).gives(a);
        }
        return x;
    }

    /** Accounts up to n - 1 by FLOORS 0, -1, -2 and so on. */
    Books openedUpTo(int n) {
        for (int a = (int) count(0).value; a < n; a++) {
            open(-a).gives(a);
        }
        return this;
    }

    /** OPEN 0, 1; POST 2 (key 1); HOLD 3 (2), RELEASE 4; HOLD 5 (3), CAPTURE 6 (4); REVERSAL 7 (5) of 2; TRIAL 8. */
    static Books ofAllKinds() {
        Books x = opened(-100, -100);
        x.every(3);
        x.move(1, 0, 1, 10).gives(2);
        x.hold(2, 0, 5).gives(3);
        x.release(3).gives(4);
        x.hold(3, 1, 5).gives(5);
        x.capture(4, 5, 0, 5).gives(6);
        x.reverse(5, 2).gives(7);
        x.count(1).gives(9);
        return x;
    }

    /** 200 entries: as many as are given are there already, the others are HOLDS of 1 of account 0. */
    Books filled(int there) {
        for (int i = there; i < 200; i++) {
            hold(100000 + i, 0, 1).gives(i);
        }
        return this;
    }

    Answer postOf(long key, long... accountsAndAmounts) {
        clear();
        for (int k = 0; k < accountsAndAmounts.length; k += 2) {
            leg((int) accountsAndAmounts[k], accountsAndAmounts[k + 1]).gives(k / 2 + 1);
        }
        Answer answer = post(key);
        return new Answer(answer.call + " of " + Arrays.toString(accountsAndAmounts), answer.value);
    }

    Answer move(long key, int from, int to, long amount) {
        return postOf(key, from, -amount, to, amount);
    }

    byte[] bytesFrom(int at, int size) {
        byte[] bytes = new byte[size];
        for (int b = 0; b < size; b++) {
            bytes[b] = (byte) data(at + b).value;
        }
        return bytes;
    }

    void hasBytes(int entry, byte[] want) {
        int size = (int) entry(entry, 1).gives(want.length).value;
        SentenceTests.dueBytes("entry " + entry, bytesFrom((int) entry(entry, 2).value, size), want);
    }

    void hasHash(int what, int n, byte[] want) {
        byte[] hash = new byte[32];
        for (int b = 0; b < 32; b++) {
            hash[b] = (byte) hash(what, n, b).value;
        }
        SentenceTests.dueBytes("hash " + what + " of " + n, hash, want);
    }

    void hasStep(int i, byte[] want) {
        byte[] hash = new byte[32];
        for (int b = 0; b < 32; b++) {
            hash[b] = (byte) step(i, b).value;
        }
        SentenceTests.dueBytes("step " + i, hash, want);
    }

    /** From the first byte of this entry on. */
    void overwrite(int entry, byte[]... parts) {
        int at = (int) entry(entry, 2).value;
        for (byte goal : EntryBytes.joined(parts)) {
            int mask = (int) data(at).value ^ goal & 255;
            if (mask != 0) {
                alter(at, mask).gives(goal & 255);
            }
            at++;
        }
    }

    /** What the calls tell of counts and accounts. */
    String sums() {
        StringBuilder all = new StringBuilder();
        for (int what = 0; what < 7; what++) {
            all.append(count(what).value).append(what < 6 ? " " : " are counted\n");
        }
        for (int a = 0; a < count(0).value; a++) {
            all.append(account(a, 0).value).append(' ').append(account(a, 1).value).append(' ');
            all.append(account(a, 2).value).append(" of account ").append(a).append('\n');
        }
        return all.toString();
    }

    /** Also what they tell of entries, without their bytes. */
    String state() {
        StringBuilder all = new StringBuilder(sums());
        for (int i = 0; i < count(1).value; i++) {
            for (int what = 0; what < 6; what++) {
                all.append(entry(i, what).value).append(' ');
            }
            for (int k = 0; k < entry(i, 4).value; k++) {
                all.append(entry(i, 10 + k).value).append(' ').append(entry(i, 30 + k).value).append(' ');
            }
            all.append("of entry ").append(i).append('\n');
        }
        return all.toString();
    }

    void stillHasState(String before) {
        SentenceTests.dueText("the state behind the call", state(), before);
    }

    void stillHasSums(String before) {
        SentenceTests.dueText("the sums behind the call", sums(), before);
    }

    private Answer told(long answer, String name, long... arguments) {
        calls++;
        if (calls > MOST_CALLS) {
            throw new IllegalStateException("a test calls beyond the 512th call, behind which nothing is promised");
        }
        return new Answer(name + Arrays.toString(arguments).replace('[', '(').replace(']', ')'), answer);
    }
}
