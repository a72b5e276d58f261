import java.io.ByteArrayOutputStream;
import java.nio.ByteBuffer;
import java.security.MessageDigest;
import java.security.NoSuchAlgorithmException;

/** Each promise of the document by itself: ordinary inputs, the edges it names, and wrong inputs. */
public final class Promises {
    private static final int NONE = -1;
    private static final long NOTHING = Long.MIN_VALUE;
    private static final long LEAST = Long.MIN_VALUE;
    private static final long MOST = Long.MAX_VALUE;
    private static int promise = 0;
    private static int wrong = 0;
    private static int checks = 0;

    public static void main(String[] args) {
        newObject();
        open();
        legAndClear();
        post();
        keysOfPosts();
        floorsAndOverflows();
        hold();
        holdsBeyond64Bits();
        release();
        capture();
        reverse();
        every();
        trialBytes();
        full();
        trialAtTheEnd();
        account();
        entry();
        dataAndAlter();
        hashes();
        keepAndVerify();
        paths();
        proofs();
        leads();
        audit();
        auditOfSecondByKey();
        auditOfTrials();
        auditOfShiftedBytes();
        auditOfMissingTrials();
        auditBeyondTheEnd();
        auditOfTooManyEntries();
        count();
        System.out.println(checks + " checks, " + (wrong == 0 ? "all answers are as due" : wrong + " answers are not as due"));
        if (wrong != 0) {
            System.exit(1);
        }
    }

    private static void due(String call, long got, long want) {
        checks++;
        if (got != want) {
            wrong++;
            System.out.println("promise " + promise + ": " + call + " answered " + got + ", due is " + want);
        }
    }

    /** Accounts 0 to n - 1, all without a floor but the least number. */
    private static ChainBooks opened(int n) {
        ChainBooks x = new ChainBooks();
        for (int a = 0; a < n; a++) {
            x.open(LEAST);
        }
        return x;
    }

    private static int move(ChainBooks x, long key, int from, int to, long amount) {
        x.clear();
        x.leg(from, -amount);
        x.leg(to, amount);
        return x.post(key);
    }

    private static int postOf(ChainBooks x, long key, long... accountsAndAmounts) {
        x.clear();
        for (int k = 0; k < accountsAndAmounts.length; k += 2) {
            x.leg((int) accountsAndAmounts[k], accountsAndAmounts[k + 1]);
        }
        return x.post(key);
    }

    private static byte[] bytes(ChainBooks x, int from, int till) {
        byte[] all = new byte[till - from];
        for (int i = from; i < till; i++) {
            all[i - from] = (byte) x.data(i);
        }
        return all;
    }

    private static byte[] entryBytes(ChainBooks x, int i) {
        int from = (int) x.entry(i, 2);
        return bytes(x, from, from + (int) x.entry(i, 1));
    }

    private static void dueBytes(String what, byte[] got, byte[] want) {
        due(what + " length", got.length, want.length);
        for (int i = 0; i < Math.min(got.length, want.length); i++) {
            due(what + " byte " + i, got[i], want[i]);
        }
    }

    private static byte[] sha(byte[]... parts) {
        ByteArrayOutputStream all = new ByteArrayOutputStream();
        for (byte[] part : parts) {
            all.writeBytes(part);
        }
        try {
            return MessageDigest.getInstance("SHA-256").digest(all.toByteArray());
        } catch (NoSuchAlgorithmException e) {
            throw new IllegalStateException(e);
        }
    }

    private static byte[] node(byte[] left, byte[] right) {
        return sha(new byte[] {1}, left, right);
    }

    private static byte[] hashBytes(ChainBooks x, int what, int n) {
        byte[] hash = new byte[32];
        for (int b = 0; b < 32; b++) {
            hash[b] = (byte) x.hash(what, n, b);
        }
        return hash;
    }

    private static byte[] stepBytes(ChainBooks x, int i) {
        byte[] hash = new byte[32];
        for (int b = 0; b < 32; b++) {
            hash[b] = (byte) x.step(i, b);
        }
        return hash;
    }

    private static void newObject() {
        promise = 1;
        ChainBooks x = new ChainBooks();
        for (int what = 0; what < 8; what++) {
            due("count(" + what + ")", x.count(what), 0);
        }
        due("account(0, 0)", x.account(0, 0), NOTHING);
        due("entry(0, 0)", x.entry(0, 0), NOTHING);
        due("data(0)", x.data(0), NONE);
        due("audit()", x.audit(), NONE);
    }

    private static void open() {
        promise = 2;
        ChainBooks x = new ChainBooks();
        due("open(1)", x.open(1), -6);
        due("open(most)", x.open(MOST), -6);
        due("entries behind a refusal", x.count(1), 0);
        due("open(0)", x.open(0), 0);
        due("open(least)", x.open(LEAST), 1);
        due("floor", x.account(1, 2), LEAST);
        due("post", move(x, 1, 1, 0, 5), 2);
        due("open answers the account, not the entry", x.open(-3), 2);
        due("its entry", x.entry(3, 0), 1);
        dueBytes("OPEN", entryBytes(x, 3), ByteBuffer.allocate(9).put((byte) 1).putLong(-3).array());
        for (int a = 3; a < 40; a++) {
            due("open", x.open(0), a);
        }
        due("the 41st", x.open(0), NONE);
        due("the 41st with a floor above 0", x.open(1), -6);
        due("entries", x.count(1), 41);
        for (int i = 41; i < 200; i++) {
            x.hold(i, 1, 1);
        }
        due("full before NONE", x.open(0), -8);
        due("floor before full", x.open(1), -6);
    }

    private static void legAndClear() {
        promise = 3;
        ChainBooks x = new ChainBooks();
        due("leg(-1, 1)", x.leg(-1, 1), NONE);
        due("leg(256, 1)", x.leg(256, 1), NONE);
        due("leg(0, 0)", x.leg(0, 0), NONE);
        due("leg(0, least)", x.leg(0, LEAST), NONE);
        due("leg of no account yet", x.leg(255, MOST), 1);
        for (int k = 2; k <= 8; k++) {
            due("leg", x.leg(0, LEAST + 1), k);
        }
        due("the ninth", x.leg(0, 1), NONE);
        due("count", x.count(6), 8);
        promise = 4;
        due("clear()", x.clear(), 8);
        due("clear()", x.clear(), 0);
        due("count", x.count(6), 0);
    }

    private static void post() {
        promise = 5;
        ChainBooks x = opened(3);
        due("no legs", x.post(1), NONE);
        x.leg(0, -5);
        x.leg(1, 3);
        due("key 0", x.post(0), NONE);
        due("uneven", x.post(1), -3);
        due("legs stay when refused", x.count(6), 2);
        x.leg(2, 2);
        due("three legs", x.post(-1), 3);
        due("legs are gone", x.count(6), 0);
        due("balance", x.account(0, 0), -5);
        due("balance", x.account(1, 0), 3);
        due("balance", x.account(2, 0), 2);
        dueBytes("POST", entryBytes(x, 3), ByteBuffer.allocate(37).put((byte) 2).putLong(-1).put((byte) 3)
            .put((byte) 0).putLong(-5).put((byte) 1).putLong(3).put((byte) 2).putLong(2).array());
        due("unknown before uneven", postOf(x, 2, 0, 1, 3, 5), -2);
        due("the same account twice", postOf(x, 2, 0, 4, 0, -4), 4);
        // 2^63 - 1 four times and the like come to 0 in 64 bits, but not exactly
        due("uneven beyond 64 bits", postOf(x, 3, 0, MOST, 0, MOST, 0, 1, 0, 1), -3);
        due("uneven by 2^32", postOf(x, 3, 0, 1L << 32, 1, -1), -3);
        due("even with halves", postOf(x, 3, 0, (1L << 32) + 7, 1, -(1L << 32), 2, -7), 5);
        due("nothing moved by refusals", x.account(0, 0), (1L << 32) + 2);
    }

    private static void keysOfPosts() {
        ChainBooks x = opened(2);
        due("post", move(x, 7, 0, 1, 10), 2);
        due("again", move(x, 7, 0, 1, 10), 2);
        due("legs are gone behind a call again", x.count(6), 0);
        due("nothing happens", x.account(1, 0), 10);
        due("another amount", move(x, 7, 0, 1, 11), -4);
        due("legs stay", x.count(6), 2);
        due("the other order", postOf(x, 7, 1, 10, 0, -10), -4);
        due("more legs", postOf(x, 7, 0, -10, 1, 10, 1, 1, 0, -1), -4);
        due("key before unknown", postOf(x, 7, 9, 1), -4);
        due("a hold by that key", x.hold(7, 0, 1), -4);
        due("a reversal by that key", x.reverse(7, 2), -4);
        due("a capture by that key", x.capture(7, 0, 0, 1), -4);
        due("no legs is NONE, whatever the key", x.clear() * 0 + x.post(7), NONE);
        x.alter((int) x.entry(2, 2) + 18, 1);
        due("again, although altered", move(x, 7, 0, 1, 10), 2);
    }

    private static void floorsAndOverflows() {
        ChainBooks x = new ChainBooks();
        x.open(0);
        x.open(-100);
        x.open(LEAST);
        due("below the floor", move(x, 1, 1, 0, 101), -6);
        due("at the floor", move(x, 1, 1, 0, 100), 3);
        due("over", move(x, 2, 2, 0, MOST - 99), -5);
        due("over on the way alone", postOf(x, 2, 2, 1 - MOST, 2, -2, 2, 1 + 1, 0, MOST - 1), -5);
        due("over before floor", postOf(x, 2, 1, -1, 0, MOST, 2, -MOST + 1), -5);
        due("below on the way alone is fine", postOf(x, 2, 1, -50, 0, 20, 1, 50, 2, -20), 4);
        due("to the top", move(x, 3, 2, 0, MOST - 120), 5);
        due("balance", x.account(0, 0), MOST);
        due("one more", move(x, 4, 2, 0, 1), -5);
    }

    private static void hold() {
        promise = 6;
        ChainBooks x = new ChainBooks();
        x.open(-50);
        due("key 0", x.hold(0, 0, 1), NONE);
        due("account -1", x.hold(1, -1, 1), NONE);
        due("account 256", x.hold(1, 256, 1), NONE);
        due("amount 0", x.hold(1, 0, 0), NONE);
        due("amount least", x.hold(1, 0, LEAST), NONE);
        due("account 255", x.hold(1, 255, 1), -2);
        due("too much", x.hold(1, 0, 51), -6);
        due("far too much", x.hold(1, 0, MOST), -6);
        due("hold", x.hold(1, 0, 30), 1);
        due("again", x.hold(1, 0, 30), 1);
        due("another amount", x.hold(1, 0, 29), -4);
        due("key before unknown", x.hold(1, 9, 30), -4);
        due("holds", x.account(0, 1), 30);
        due("balance stays", x.account(0, 0), 0);
        due("too much with what is held", x.hold(2, 0, 21), -6);
        due("the rest", x.hold(2, 0, 20), 2);
        dueBytes("HOLD", entryBytes(x, 2), ByteBuffer.allocate(18).put((byte) 3).putLong(2).put((byte) 0).putLong(20).array());
        due("a post that needs what is held", postOf(x, 3, 0, -1, 0, -1, 0, 1), -3);
        x.open(0);
        due("a post that needs what is held", move(x, 3, 0, 1, 1), -6);
    }

    private static void holdsBeyond64Bits() {
        ChainBooks x = opened(2);
        due("balance at the top", move(x, 1, 0, 1, MOST), 2);
        due("hold", x.hold(2, 1, MOST), 3);
        due("hold", x.hold(3, 1, MOST), 4);
        due("the lowest 64 bits", x.account(1, 1), -2);
        due("too much", x.hold(4, 1, 2), -6);
        due("the last one", x.hold(4, 1, 1), 5);
        due("the lowest 64 bits", x.account(1, 1), -1);
        due("no more", x.hold(5, 1, 1), -6);
        due("no post", move(x, 5, 1, 0, 1), -6);
        due("release", x.release(3), 6);
        due("holds", x.account(1, 1), LEAST);
        due("a post of what is free", move(x, 5, 1, 0, MOST), 7);
        due("no more", move(x, 6, 1, 0, 1), -6);
        due("audit", x.audit(), NONE);
    }

    private static void release() {
        promise = 7;
        ChainBooks x = opened(2);
        due("hold", x.hold(5, 1, 9), 2);
        due("-1", x.release(-1), NONE);
        due("200", x.release(200), NONE);
        due("199", x.release(199), -2);
        due("an OPEN", x.release(0), -2);
        due("release", x.release(2), 3);
        dueBytes("RELEASE", entryBytes(x, 3), new byte[] {4, 0, 2});
        due("holds", x.account(1, 1), 0);
        due("ended by", x.entry(2, 5), 3);
        due("a second time", x.release(2), -2);
        due("of a RELEASE", x.release(3), -2);
        due("the hold's call again", x.hold(5, 1, 9), 2);
        due("which holds nothing", x.account(1, 1), 0);
    }

    private static void capture() {
        promise = 8;
        ChainBooks x = new ChainBooks();
        x.open(-100);
        x.open(0);
        due("hold", x.hold(1, 0, 60), 2);
        due("key 0", x.capture(0, 2, 1, 1), NONE);
        due("entry -1", x.capture(9, -1, 1, 1), NONE);
        due("entry 200", x.capture(9, 200, 1, 1), NONE);
        due("account -1", x.capture(9, 2, -1, 1), NONE);
        due("account 256", x.capture(9, 2, 256, 1), NONE);
        due("amount 0", x.capture(9, 2, 1, 0), NONE);
        due("amount least", x.capture(9, 2, 1, LEAST), NONE);
        due("more than is held", x.capture(9, 2, 1, 61), -2);
        due("no such account", x.capture(9, 2, 2, 60), -2);
        due("no hold", x.capture(9, 1, 1, 60), -2);
        due("no entry", x.capture(9, 3, 1, 60), -2);
        due("key of the hold", x.capture(1, 2, 1, 60), -4);
        due("capture", x.capture(9, 2, 1, 25), 3);
        dueBytes("CAPTURE", entryBytes(x, 3), ByteBuffer.allocate(20).put((byte) 5).putLong(9).putShort((short) 2)
            .put((byte) 1).putLong(25).array());
        due("balance", x.account(0, 0), -25);
        due("balance", x.account(1, 0), 25);
        due("the hold is gone whole", x.account(0, 1), 0);
        due("again", x.capture(9, 2, 1, 25), 3);
        due("another amount", x.capture(9, 2, 1, 24), -4);
        due("once more from the hold", x.capture(10, 2, 1, 1), -2);
        due("hold", x.hold(11, 1, 25), 4);
        due("to its own account", x.capture(12, 4, 1, 25), 5);
        due("balance", x.account(1, 0), 25);
        due("all that is held, at the floor", x.hold(13, 0, 75), 6);
        due("capture of it", x.capture(14, 6, 1, 75), 7);
        due("balance", x.account(0, 0), -100);
        ChainBooks y = opened(3);
        due("balance at the top", move(y, 1, 0, 1, MOST), 3);
        due("hold", y.hold(2, 2, 5), 4);
        due("over", y.capture(3, 4, 1, 1), -5);
        due("the hold is still there", y.count(3), 1);
        due("elsewhere", y.capture(3, 4, 0, 1), 5);
    }

    private static void reverse() {
        promise = 9;
        ChainBooks x = new ChainBooks();
        x.open(-100);
        x.open(0);
        x.open(LEAST);
        due("post", postOf(x, 1, 0, -60, 1, 50, 1, 10), 3);
        due("key 0", x.reverse(0, 3), NONE);
        due("entry -1", x.reverse(2, -1), NONE);
        due("entry 200", x.reverse(2, 200), NONE);
        due("no entry", x.reverse(2, 199), -2);
        due("an OPEN", x.reverse(2, 0), -2);
        due("hold", x.hold(2, 1, 1), 4);
        due("a HOLD", x.reverse(3, 4), -2);
        due("below the floor with what is held", x.reverse(3, 3), -6);
        due("release", x.release(4), 5);
        due("a RELEASE", x.reverse(3, 5), -2);
        due("reversal", x.reverse(3, 3), 6);
        dueBytes("REVERSAL", entryBytes(x, 6), ByteBuffer.allocate(11).put((byte) 6).putLong(3).putShort((short) 3).array());
        due("balance", x.account(0, 0), 0);
        due("balance", x.account(1, 0), 0);
        due("legs", x.entry(6, 4), 3);
        due("leg 0", x.entry(6, 30), 60);
        due("leg 1", x.entry(6, 31), -50);
        due("leg 2", x.entry(6, 32), -10);
        due("again", x.reverse(3, 3), 6);
        due("another entry by the key", x.reverse(3, 6), -4);
        due("a second reversal", x.reverse(4, 3), -7);
        due("reversal of the reversal", x.reverse(4, 6), 7);
        due("its leg 1", x.entry(7, 31), 50);
        due("balance", x.account(1, 0), 60);
        due("still reversed", x.reverse(5, 3), -7);
        due("hold", x.hold(6, 1, 20), 8);
        due("capture", x.capture(7, 8, 2, 20), 9);
        due("reversal of a capture", x.reverse(8, 9), 10);
        due("balance", x.account(1, 0), 60);
        due("its hold stays gone", x.account(1, 1), 0);
        due("far up", move(x, 9, 2, 0, MOST), 11);
        due("to the top", move(x, 10, 2, 0, 1), 12);
        due("the floor lets it", x.account(1, 0), 60);
        due("over", x.reverse(11, 7), -5);
        due("reversed before over", x.reverse(11, 6), -7);
    }

    private static void every() {
        promise = 10;
        ChainBooks x = opened(2);
        due("-1", x.every(-1), NONE);
        due("51", x.every(51), NONE);
        due("50", x.every(50), 0);
        due("0", x.every(0), 50);
        due("3", x.every(3), 0);
        due("as told", x.count(4), 3);
        due("post", move(x, 1, 0, 1, 5), 2);
        due("a wrong one changes nothing", x.every(51), NONE);
        due("post", move(x, 2, 0, 1, 5), 3);
        due("since", x.count(5), 2);
        due("the same again begins anew", x.every(3), 3);
        due("since", x.count(5), 0);
        due("a hold doesn't count", x.hold(3, 0, 5), 4);
        due("capture", x.capture(4, 4, 1, 5), 5);
        due("a call again doesn't count", x.capture(4, 4, 1, 5), 5);
        due("an account doesn't count", x.open(0), 2);
        due("reversal", x.reverse(5, 2), 7);
        due("since", x.count(5), 2);
        due("a refusal doesn't count", x.reverse(6, 2), -7);
        due("hold", x.hold(6, 0, 5), 8);
        due("a release doesn't count", x.release(8), 9);
        due("post", move(x, 7, 0, 1, 5), 10);
        due("and a trial", x.entry(11, 0), 7);
        due("entries", x.count(1), 12);
        due("since", x.count(5), 0);
        due("never", x.every(0), 3);
        for (int i = 0; i < 60; i++) {
            due("post", move(x, 100 + i, 0, 1, 1), 12 + i);
        }
        due("since EVERY, also while it is 0", x.count(5), 60);
        due("audit", x.audit(), NONE);
    }

    private static void trialBytes() {
        ChainBooks x = opened(4);
        x.every(1);
        due("post", move(x, 1, 0, 1, 300), 4);
        dueBytes("TRIAL", entryBytes(x, 5), ByteBuffer.allocate(18).put((byte) 7).put((byte) 4).putLong(0).putLong(300).array());
        due("post", move(x, 2, 0, 1, MOST - 300), 6);
        due("post", move(x, 3, 2, 3, MOST), 8);
        dueBytes("TRIAL", entryBytes(x, 9), ByteBuffer.allocate(18).put((byte) 7).put((byte) 4).putLong(0).putLong(-2).array());
        x.open(LEAST);
        x.open(LEAST);
        due("post", move(x, 4, 4, 5, MOST), 12);
        dueBytes("TRIAL", entryBytes(x, 13), ByteBuffer.allocate(18).put((byte) 7).put((byte) 6).putLong(1).putLong(MOST - 2).array());
        due("a trial has no key", x.entry(13, 3), 0);
        due("a trial has no legs", x.reverse(5, 13), -2);
        due("audit", x.audit(), NONE);
    }

    private static void full() {
        promise = 5;
        ChainBooks x = new ChainBooks();
        x.open(-300);
        x.open(0);
        due("post", move(x, 1, 0, 1, 5), 2);
        for (int i = 3; i < 200; i++) {
            due("hold", x.hold(i, 0, 1), i);
        }
        due("open", x.open(0), -8);
        due("post", move(x, 1000, 0, 1, 5), -8);
        due("post again", move(x, 1, 0, 1, 5), 2);
        due("uneven before full", postOf(x, 1000, 0, 1, 1, -2), -3);
        due("floor before full", move(x, 1000, 1, 0, 6), -6);
        due("hold", x.hold(1000, 0, 1), -8);
        due("hold again", x.hold(3, 0, 1), 3);
        due("hold below the floor", x.hold(1000, 0, 301), -6);
        due("release", x.release(3), -8);
        due("release of none", x.release(2), -2);
        due("capture", x.capture(1000, 3, 1, 1), -8);
        due("reversal", x.reverse(1000, 2), -8);
        due("nothing has happened", x.count(3), 197);
        due("nothing has happened", x.entry(2, 5), NONE);
        due("entry 199", x.entry(199, 0), 3);
        due("audit", x.audit(), NONE);
        due("path", x.path(199, 200), 5);
        due("proof", x.proof(199, 200), 6);
        due("the longest path", x.path(127, 200), 8);
        due("the longest proof", x.proof(3, 200), 9);
        due("its last step", x.step(8, 0) >= 0 ? 1 : 0, 1);
        due("chain", x.hash(0, 200, 0) >= 0 ? 1 : 0, 1);
        due("tree of 201", x.hash(1, 201, 0), NONE);
        due("leaf 200", x.hash(2, 200, 0), NONE);
    }

    private static void trialAtTheEnd() {
        promise = 10;
        ChainBooks x = opened(2);
        x.every(1);
        for (int i = 0; i < 98; i++) {
            due("post", move(x, 1 + i, 0, 1, 1), 2 + 2 * i);
        }
        due("hold", x.hold(500, 0, 5), 198);
        due("capture as the last entry", x.capture(501, 198, 1, 5), 199);
        due("no trial behind it", x.count(1), 200);
        due("since", x.count(5), 1);
        due("audit", x.audit(), NONE);
    }

    private static void account() {
        promise = 11;
        ChainBooks x = new ChainBooks();
        x.open(-7);
        x.hold(1, 0, 3);
        due("balance", x.account(0, 0), 0);
        due("holds", x.account(0, 1), 3);
        due("floor", x.account(0, 2), -7);
        due("what 3", x.account(0, 3), NOTHING);
        due("what -1", x.account(0, -1), NOTHING);
        due("account -1", x.account(-1, 0), NOTHING);
        due("account 1", x.account(1, 0), NOTHING);
        due("account 40", x.account(40, 0), NOTHING);
        due("the greatest", x.account(Integer.MAX_VALUE, 0), NOTHING);
    }

    private static void entry() {
        promise = 12;
        ChainBooks x = opened(2);
        due("post", postOf(x, 77, 1, -3, 0, 1, 0, 2), 2);
        due("hold", x.hold(78, 1, 3), 3);
        due("reversal", x.reverse(79, 2), 4);
        long[][] want = {{1, 9, 0, 0, 0, -1}, {1, 9, 9, 0, 0, -1}, {2, 37, 18, 77, 3, 4}, {3, 18, 55, 78, 0, -1}, {6, 11, 73, 79, 3, -1}};
        for (int round = 0; round < 2; round++) {
            for (int i = 0; i < want.length; i++) {
                for (int what = 0; what < 6; what++) {
                    due("entry(" + i + ", " + what + ")", x.entry(i, what), want[i][what]);
                }
            }
            due("account of leg 0", x.entry(2, 10), 1);
            due("account of leg 2", x.entry(2, 12), 0);
            due("amount of leg 2", x.entry(2, 32), 2);
            for (int i = 0; i < 84; i++) {
                x.alter(i, 255);
            }
        }
        for (int what : new int[] {-1, 6, 9, 13, 17, 18, 29, 33, 37, 38, Integer.MAX_VALUE, Integer.MIN_VALUE}) {
            due("entry(2, " + what + ")", x.entry(2, what), NOTHING);
        }
        due("a hold has no legs", x.entry(3, 10), NOTHING);
        due("entry(-1, 0)", x.entry(-1, 0), NOTHING);
        due("entry(5, 0)", x.entry(5, 0), NOTHING);
        due("entry(200, 0)", x.entry(200, 0), NOTHING);
    }

    private static void dataAndAlter() {
        promise = 13;
        ChainBooks x = new ChainBooks();
        x.open(-2);
        due("data(0)", x.data(0), 1);
        due("data(7)", x.data(7), 255);
        due("data(8)", x.data(8), 254);
        due("data(9)", x.data(9), NONE);
        due("data(-1)", x.data(-1), NONE);
        promise = 14;
        due("alter(8, 0)", x.alter(8, 0), NONE);
        due("alter(8, 256)", x.alter(8, 256), NONE);
        due("alter(8, -1)", x.alter(8, -1), NONE);
        due("alter(9, 1)", x.alter(9, 1), NONE);
        due("alter(-1, 1)", x.alter(-1, 1), NONE);
        due("alter(8, 255)", x.alter(8, 255), 1);
        due("data(8)", x.data(8), 1);
        due("altered", x.count(7), 1);
        due("alter(8, 129)", x.alter(8, 129), 128);
        due("altered", x.count(7), 1);
        due("alter(8, 126)", x.alter(8, 126), 254);
        due("altered", x.count(7), 0);
        due("floor", x.alter(8, 1) * 0 + x.account(0, 2), -2);
        x.open(0);
        due("a new entry leaves it altered", x.data(8), 255);
    }

    private static void hashes() {
        promise = 15;
        ChainBooks x = opened(7);
        byte[][] leaf = new byte[7][];
        byte[] chain = new byte[32];
        for (int round = 0; round < 2; round++) {
            chain = new byte[32];
            for (int i = 0; i < 7; i++) {
                dueBytes("chain behind " + i, hashBytes(x, 0, i), chain);
                chain = sha(chain, entryBytes(x, i));
                leaf[i] = sha(new byte[] {0}, entryBytes(x, i));
                dueBytes("leaf " + i, hashBytes(x, 2, i), leaf[i]);
            }
            dueBytes("chain behind 7", hashBytes(x, 0, 7), chain);
            dueBytes("tree of 0", hashBytes(x, 1, 0), sha());
            dueBytes("tree of 1", hashBytes(x, 1, 1), leaf[0]);
            byte[] two = node(leaf[0], leaf[1]);
            dueBytes("tree of 2", hashBytes(x, 1, 2), two);
            dueBytes("tree of 3", hashBytes(x, 1, 3), node(two, leaf[2]));
            byte[] four = node(two, node(leaf[2], leaf[3]));
            dueBytes("tree of 4", hashBytes(x, 1, 4), four);
            dueBytes("tree of 7", hashBytes(x, 1, 7), node(four, node(node(leaf[4], leaf[5]), leaf[6])));
            x.alter(27, 17);
        }
        for (int[] a : new int[][] {{-1, 0, 0}, {3, 0, 0}, {0, -1, 0}, {0, 8, 0}, {1, 8, 0}, {1, -1, 0}, {2, 7, 0}, {2, -1, 0}, {0, 0, -1}, {0, 0, 32}}) {
            due("hash(" + a[0] + ", " + a[1] + ", " + a[2] + ")", x.hash(a[0], a[1], a[2]), NONE);
        }
        // a POST of 8 legs is the longest text that is ever hashed
        due("post", postOf(x, 9, 0, 1, 1, -1, 2, 1, 3, -1, 4, 1, 5, -1, 6, 1, 0, -1), 7);
        dueBytes("chain behind 8", hashBytes(x, 0, 8), sha(hashBytes(x, 0, 7), entryBytes(x, 7)));
        dueBytes("leaf 7", hashBytes(x, 2, 7), sha(new byte[] {0}, entryBytes(x, 7)));
    }

    private static void keepAndVerify() {
        promise = 16;
        ChainBooks x = opened(3);
        due("keep(-1)", x.keep(-1), NONE);
        due("keep(8)", x.keep(8), NONE);
        due("keep(7)", x.keep(7), 3);
        promise = 17;
        due("verify(0)", x.verify(0), NONE);
        due("verify(-1)", x.verify(-1), NONE);
        due("verify(8)", x.verify(8), NONE);
        due("verify(7)", x.verify(7), 0);
        x.open(0);
        due("keep(0)", x.keep(0), 4);
        due("verify(7)", x.verify(7), 0);
        x.alter(27, 1);
        due("altered behind head 7", x.verify(7), 0);
        due("altered below head 0", x.verify(0), 1);
        due("kept as bytes are", x.keep(1), 4);
        due("verify(1)", x.verify(1), 0);
        x.alter(27, 1);
        due("as it was", x.verify(0), 0);
        due("not as it was kept", x.verify(1), 1);
        x.alter(0, 128);
        due("verify(7)", x.verify(7), 1);
        due("kept anew", x.keep(7), 4);
        due("verify(7)", x.verify(7), 0);
    }

    private static void paths() {
        promise = 18;
        ChainBooks x = opened(6);
        int[][] wrongs = {{-1, 3}, {3, 3}, {4, 3}, {0, 0}, {0, 7}, {0, -1}, {Integer.MAX_VALUE, Integer.MIN_VALUE}};
        for (int[] a : wrongs) {
            due("path(" + a[0] + ", " + a[1] + ")", x.path(a[0], a[1]), NONE);
        }
        due("path(0, 1)", x.path(0, 1), 0);
        due("no step", x.step(0, 0), NONE);
        byte[] left = hashBytes(x, 1, 4);
        byte[] four = hashBytes(x, 2, 4);
        byte[] five = hashBytes(x, 2, 5);
        due("path(4, 6)", x.path(4, 6), 2);
        promise = 20;
        dueBytes("step 0", stepBytes(x, 0), five);
        dueBytes("step 1", stepBytes(x, 1), left);
        due("step(2, 0)", x.step(2, 0), NONE);
        due("step(-1, 0)", x.step(-1, 0), NONE);
        due("step(0, 32)", x.step(0, 32), NONE);
        due("step(0, -1)", x.step(0, -1), NONE);
        due("path(2, 6)", x.path(2, 6), 3);
        dueBytes("step 0", stepBytes(x, 0), hashBytes(x, 2, 3));
        dueBytes("step 1", stepBytes(x, 1), hashBytes(x, 1, 2));
        dueBytes("step 2", stepBytes(x, 2), node(four, five));
        due("path(4, 5)", x.path(4, 5), 1);
        dueBytes("step 0", stepBytes(x, 0), left);
        due("one that can't be made", x.path(5, 5), NONE);
        x.alter(0, 1);
        dueBytes("the latest that was made, as it was made", stepBytes(x, 0), left);
    }

    private static void proofs() {
        promise = 19;
        ChainBooks x = opened(7);
        for (int[] a : new int[][] {{0, 3}, {-1, 3}, {3, 3}, {4, 3}, {3, 8}}) {
            due("proof(" + a[0] + ", " + a[1] + ")", x.proof(a[0], a[1]), NONE);
        }
        byte[][] leaf = new byte[7][];
        for (int i = 0; i < 7; i++) {
            leaf[i] = hashBytes(x, 2, i);
        }
        byte[] two = hashBytes(x, 1, 2);
        byte[] four = hashBytes(x, 1, 4);
        byte[] others = node(node(leaf[4], leaf[5]), leaf[6]);
        // the example of RFC 6962, 2.1.3
        due("proof(3, 7)", x.proof(3, 7), 4);
        dueBytes("c", stepBytes(x, 0), leaf[2]);
        dueBytes("d", stepBytes(x, 1), leaf[3]);
        dueBytes("g", stepBytes(x, 2), two);
        dueBytes("l", stepBytes(x, 3), others);
        due("proof(4, 7)", x.proof(4, 7), 1);
        dueBytes("l", stepBytes(x, 0), others);
        due("proof(6, 7)", x.proof(6, 7), 3);
        dueBytes("i", stepBytes(x, 0), node(leaf[4], leaf[5]));
        dueBytes("j", stepBytes(x, 1), leaf[6]);
        dueBytes("k", stepBytes(x, 2), four);
        due("proof(1, 2)", x.proof(1, 2), 1);
        dueBytes("b", stepBytes(x, 0), leaf[1]);
    }

    private static void leads() {
        promise = 21;
        ChainBooks x = opened(1);
        x.keep(0);
        due("none made", x.leads(0, 0), NONE);
        due("path(0, 1)", x.path(0, 1), 0);
        due("leaf is the tree", x.leads(-5, 0), 1);
        for (int i = 0; i < 11; i++) {
            x.open(-i);
            x.keep(i < 5 ? 1 : i < 7 ? 2 : 3);
        }
        // heads: 0 has 1 entry, 1 has 6, 2 has 8, 3 has 12
        for (int i = 0; i < 12; i++) {
            due("path", x.path(i, 12) > 0 ? 1 : 0, 1);
            due("leads to head 3", x.leads(99, 3), 1);
            due("head 2 has other entries", x.leads(3, 2), NONE);
            due("head 4 isn't kept", x.leads(3, 4), NONE);
            due("no head 8", x.leads(3, 8), NONE);
            due("no head -1", x.leads(3, -1), NONE);
        }
        int[] sizes = {1, 6, 8, 12};
        for (int j = 0; j < 4; j++) {
            for (int k = j + 1; k < 4; k++) {
                due("proof", x.proof(sizes[j], sizes[k]) > 0 ? 1 : 0, 1);
                due("leads", x.leads(j, k), 1);
                due("the other way", x.leads(k, j), NONE);
                due("no such head j", x.leads(4, k), NONE);
                due("no head j", x.leads(-1, k), NONE);
                due("no such head k", x.leads(j, 5), NONE);
            }
        }
        alteredLeads(x);
    }

    private static void alteredLeads(ChainBooks x) {
        due("path(3, 12)", x.path(3, 12), 4);
        x.alter(30, 1);
        due("the leaf as it is now", x.leads(0, 3), 0);
        due("a path over altered bytes", x.path(2, 12), 4);
        due("leads no more", x.leads(0, 3), 0);
        due("proof over altered bytes", x.proof(6, 12), 4);
        due("leads no more", x.leads(1, 3), 0);
        due("proof of bytes behind", x.proof(8, 12), 1);
        due("by its hashes alone", x.leads(2, 3), 1);
        x.alter(30, 1);
        due("the proof was made of altered bytes", x.proof(8, 12) + x.alter(80, 1) * 0, 1);
        due("leads", x.leads(2, 3), 1);
        due("proof of altered bytes", x.proof(8, 12), 1);
        due("leads to neither", x.leads(2, 3), 0);
        due("head 4 of the altered bytes", x.keep(4), 12);
        due("from the old head to the altered one", x.leads(2, 4), 1);
    }

    private static void audit() {
        promise = 22;
        ChainBooks x = new ChainBooks();
        x.open(-100);
        x.open(0);
        due("post", move(x, 1, 0, 1, 60), 2);
        due("hold", x.hold(2, 1, 20), 3);
        due("capture", x.capture(3, 3, 0, 15), 4);
        due("reversal", x.reverse(4, 4), 5);
        due("hold", x.hold(5, 1, 20), 6);
        due("release", x.release(6), 7);
        due("post", move(x, 6, 1, 0, 1), 8);
        due("all good", x.audit(), NONE);
        dueAudit(x, 0, 0, 1, 0);
        dueAudit(x, 0, 0, 8, 0);
        dueAudit(x, 0, 1, 128, 0);
        dueAudit(x, 1, 8, 1, 1);
        dueAudit(x, 0, 8, 1, 0);
        // a floor that is too high for a later entry: the later one is refused
        dueAudit(x, 0, 8, 0x9C ^ 0xD8, 2);
        dueAudit(x, 2, 8, 1, 2);
        dueAudit(x, 2, 1, 128, 2);
        dueAudit(x, 2, 9, 2, 2);
        dueAudit(x, 2, 9, 1, 2);
        dueAudit(x, 2, 10, 2, 2);
        dueAudit(x, 2, 18, 1, 2);
        dueAudit(x, 3, 8, 3, 3);
        dueAudit(x, 3, 8, 1, 4);
        dueAudit(x, 3, 9, 1, 3);
        dueAudit(x, 3, 17, 64, 3);
        dueAudit(x, 3, 17, 16, 4);
        dueAudit(x, 4, 10, 2, 4);
        dueAudit(x, 4, 11, 1, 4);
        dueAudit(x, 4, 19, 1, 4);
        dueAudit(x, 4, 19, 15, 4);
        dueAudit(x, 5, 10, 6, 5);
        dueAudit(x, 5, 10, 1, 5);
        dueAudit(x, 5, 9, 128, 5);
        dueAudit(x, 7, 2, 1, 7);
        dueAudit(x, 6, 17, 1, 6);
        dueAudit(x, 8, 27, 1, 8);
        // the key of the first post, by the same kind
        dueAudit(x, 8, 8, 6 ^ 1, 8);
        due("all good", x.audit(), NONE);
    }

    private static void auditOfSecondByKey() {
        ChainBooks x = opened(2);
        due("post", move(x, 1, 0, 1, 5), 2);
        due("post", move(x, 3, 0, 1, 5), 3);
        due("hold", x.hold(4, 0, 5), 4);
        due("hold", x.hold(6, 0, 5), 5);
        dueAudit(x, 3, 8, 3 ^ 1, 3);
        dueAudit(x, 5, 8, 6 ^ 4, 5);
        dueAudit(x, 5, 8, 6 ^ 1, 5);
        dueAudit(x, 5, 8, 6 ^ 7, 5);
        dueAudit(x, 4, 8, 4 ^ 6, 5);
    }

    /** Byte b of entry i altered for a while. */
    private static void dueAudit(ChainBooks x, int i, int b, int mask, int want) {
        int at = (int) x.entry(i, 2) + b;
        x.alter(at, mask);
        due("audit() with byte " + b + " of entry " + i + " altered by " + mask, x.audit(), want);
        x.alter(at, mask);
    }

    private static void auditOfTrials() {
        ChainBooks x = opened(2);
        x.every(2);
        move(x, 1, 0, 1, 5);
        move(x, 2, 0, 1, 5);
        x.every(1);
        x.every(3);
        move(x, 3, 0, 1, 5);
        x.hold(4, 0, 1);
        x.every(0);
        move(x, 5, 0, 1, 5);
        due("entries", x.count(1), 8);
        due("EVERY as it was told then", x.audit(), NONE);
        dueAudit(x, 4, 1, 1, 4);
        dueAudit(x, 4, 17, 1, 4);
        dueAudit(x, 4, 2, 128, 4);
        dueAudit(x, 4, 0, 4, 4);
        due("the hold is entry 6", x.entry(6, 0), 3);
        dueAudit(x, 6, 0, 4, 6);
        // the legs of entry 3 by 4 more: no post is bad, but the TRIAL tells another sum
        int at = (int) x.entry(3, 2);
        x.alter(at + 18, (-5 & 255) ^ (-9 & 255));
        x.alter(at + 27, 5 ^ 9);
        due("TRIAL of another sum", x.audit(), 4);
        x.alter(at + 18, (-5 & 255) ^ (-9 & 255));
        x.alter(at + 27, 5 ^ 9);
        due("all good", x.audit(), NONE);
    }

    /** A POST and the OPEN behind it have as many bytes as a POST of one leg more. */
    private static void auditOfShiftedBytes() {
        ChainBooks x = opened(2);
        due("post", move(x, 1, 0, 1, 5), 2);
        due("open", x.open(-2), 2);
        due("hold", x.hold(2, 1, 1), 4);
        due("hold", x.hold(3, 2, 1), 5);
        int post = (int) x.entry(2, 2);
        x.alter(post + 9, 2 ^ 3);
        due("uneven", x.audit(), 2);
        x.alter(post + 27, 5 ^ 7);
        due("account 2 is not there now, and the hold is entry 4", x.audit(), 4);
        int last = (int) x.entry(5, 2);
        x.alter(last + 9, 2 ^ 1);
        due("all can be read as other entries, the first of them is 2", x.audit(), 2);
        x.alter(last + 0, 3 ^ 2);
        due("a post that has more legs than there are bytes", x.audit(), 4);
        ChainBooks y = opened(1);
        y.alter(0, 1 ^ 3);
        due("a hold that has more bytes than there are", y.audit(), 0);
        y.alter(0, 3 ^ 7);
        due("a trial that is not due", y.audit(), 0);
    }

    /** Two HOLDS and a RELEASE have as many bytes as a POST of two legs and its REVERSAL. */
    private static void auditOfMissingTrials() {
        due("the second of 2 brings a TRIAL", forgedWithTwoMoved(2, 3).audit(), 5);
        due("the first one brings a TRIAL, the REVERSAL stands there", forgedWithTwoMoved(1, 3).audit(), 4);
        due("no TRIAL has to come yet", forgedWithTwoMoved(3, 3).audit(), 3);
        due("never a TRIAL", forgedWithTwoMoved(0, 3).audit(), 3);
        ChainBooks x = forgedWithTwoMoved(2, 3);
        x.open(0);
        due("an OPEN stands where a TRIAL has to", x.audit(), 5);
        due("entry 199 of 200 has to be a TRIAL", forgedWithTwoMoved(2, 197).audit(), 199);
        ChainBooks y = forgedWithTwoMoved(2, 196);
        overwrite(y, (int) y.entry(195, 2), ByteBuffer.allocate(9)
            .put((byte) 4).putShort((short) 2).put((byte) 4).putShort((short) 3).put((byte) 4).putShort((short) 4).array());
        due("three RELEASES stand for an OPEN, so the REVERSAL is of a RELEASE", y.audit(), 199);
        overwrite(y, (int) y.entry(196, 2) + 37, new byte[] {0, (byte) 198});
        due("all of 200 can be read, so no TRIAL comes behind them", y.audit(), 195);
    }

    /** Entries before, of which 0, 1 and the last are OPENS; then the altered ones; EVERY is told before them all. */
    private static ChainBooks forgedWithTwoMoved(int every, int before) {
        ChainBooks x = new ChainBooks();
        x.every(every);
        x.open(LEAST);
        x.open(LEAST);
        for (int i = 2; i < before - 1; i++) {
            due("hold", x.hold(1000 + i, 0, 1), i);
        }
        x.open(LEAST);
        due("hold", x.hold(1, 0, 1), before);
        due("hold", x.hold(2, 0, 1), before + 1);
        due("release", x.release(before), before + 2);
        due("as it was made", x.audit(), NONE);
        overwrite(x, (int) x.entry(before, 2), ByteBuffer.allocate(39)
            .put((byte) 2).putLong(1).put((byte) 2).put((byte) 0).putLong(-5).put((byte) 1).putLong(5)
            .put((byte) 6).putLong(2).putShort((short) before).array());
        return x;
    }

    private static void overwrite(ChainBooks x, int at, byte[] goal) {
        for (int b = 0; b < goal.length; b++) {
            int mask = x.data(at + b) ^ goal[b] & 255;
            if (mask != 0) {
                x.alter(at + b, mask);
            }
        }
    }

    /** Behind the RELEASE there are no bytes, so it can't be an OPEN, whatever stood there. */
    private static void auditBeyondTheEnd() {
        ChainBooks x = opened(1);
        due("hold", x.hold(6, 0, 1), 1);
        due("release", x.release(1), 2);
        dueAudit(x, 1, 8, 1, 1);
        x.alter((int) x.entry(1, 2) + 8, 1);
        due("another key", x.audit(), 1);
        x.alter((int) x.entry(2, 2), 4 ^ 1);
        x.alter((int) x.entry(2, 2) + 1, 128);
        due("too few bytes for an OPEN", x.audit(), 2);
    }

    /** An OPEN has as many bytes as three RELEASES. */
    private static void auditOfTooManyEntries() {
        ChainBooks x = opened(1);
        for (int i = 1; i < 197; i++) {
            due("hold", x.hold(i, 0, 1), i);
        }
        x.open(0);
        x.open(0);
        x.open(0);
        due("full", x.open(0), -8);
        int at = (int) x.entry(197, 2);
        for (int k = 0; k < 9; k++) {
            int is = x.data(at + k);
            int want = k % 3 == 0 ? 4 : k % 3 == 1 ? 0 : 1 + k / 3;
            if (is != want) {
                x.alter(at + k, is ^ want);
            }
        }
        due("entry 200 is refused: there are 200", x.audit(), 200);
        int end = (int) x.entry(199, 2);
        x.alter(end, 1 ^ 4);
        due("entry 200 is still the first", x.audit(), 200);
        x.alter(at, 4 ^ 8);
        due("entry 197 can't be read", x.audit(), 197);
    }

    private static void count() {
        promise = 23;
        ChainBooks x = opened(3);
        x.every(5);
        due("post", move(x, 1, 0, 1, 2), 3);
        due("hold", x.hold(2, 0, 1), 4);
        due("hold", x.hold(3, 0, 1), 5);
        due("hold", x.hold(4, 0, 1), 6);
        due("release", x.release(5), 7);
        due("capture", x.capture(5, 6, 1, 1), 8);
        x.leg(0, 1);
        x.leg(0, 1);
        x.leg(0, 1);
        x.leg(0, 1);
        x.alter(3, 4);
        x.alter(4, 4);
        long[] want = {3, 9, 27 + 28 + 54 + 3 + 20, 1, 5, 2, 4, 2};
        for (int what = 0; what < 8; what++) {
            due("count(" + what + ")", x.count(what), want[what]);
        }
        due("count(8)", x.count(8), NONE);
        due("count(-1)", x.count(-1), NONE);
    }
}
