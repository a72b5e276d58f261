import java.math.BigInteger;
import java.nio.ByteBuffer;
import java.util.ArrayList;
import java.util.List;

/** The bytes of each KIND of entry, as the document's Terms tell them. */
final class EntryBytes {
    private EntryBytes() {
    }

    static byte[] open(long floor) {
        return begun(9, 1).putLong(floor).array();
    }

    static byte[] post(long key, long... accountsAndAmounts) {
        int legs = accountsAndAmounts.length / 2;
        ByteBuffer bytes = begun(10 + 9 * legs, 2).putLong(key).put((byte) legs);
        for (int k = 0; k < legs; k++) {
            bytes.put((byte) accountsAndAmounts[2 * k]).putLong(accountsAndAmounts[2 * k + 1]);
        }
        return bytes.array();
    }

    static byte[] hold(long key, int account, long amount) {
        return begun(18, 3).putLong(key).put((byte) account).putLong(amount).array();
    }

    static byte[] release(int entry) {
        return begun(3, 4).putShort((short) entry).array();
    }

    static byte[] capture(long key, int entry, int account, long amount) {
        return begun(20, 5).putLong(key).putShort((short) entry).put((byte) account).putLong(amount).array();
    }

    static byte[] reversal(long key, int entry) {
        return begun(11, 6).putLong(key).putShort((short) entry).array();
    }

    static byte[] trial(int accounts, BigInteger sum) {
        ByteBuffer bytes = begun(18, 7).put((byte) accounts);
        byte[] number = sum.toByteArray();
        return bytes.position(18 - number.length).put(number).array();
    }

    static byte[] trial(int accounts, long sum) {
        return trial(accounts, BigInteger.valueOf(sum));
    }

    /** Those of new Books().openedUpTo(n). */
    static List<byte[]> opens(int n) {
        List<byte[]> entries = new ArrayList<>();
        for (int a = 0; a < n; a++) {
            entries.add(open(-a));
        }
        return entries;
    }

    /** Those of Books.opened(-1000).filled(1). */
    static List<byte[]> filled() {
        List<byte[]> entries = new ArrayList<>();
        entries.add(open(-1000));
        for (int i = 1; i < 200; i++) {
            entries.add(hold(100000 + i, 0, 1));
        }
        return entries;
    }

    static byte[] joined(byte[]... parts) {
        int size = 0;
        for (byte[] part : parts) {
            size += part.length;
        }
        ByteBuffer all = ByteBuffer.allocate(size);
        for (byte[] part : parts) {
            all.put(part);
        }
        return all.array();
    }

    private static ByteBuffer begun(int size, int kind) {
        return ByteBuffer.allocate(size).put((byte) kind);
    }
}
