import java.security.MessageDigest;
import java.security.NoSuchAlgorithmException;
import java.util.ArrayList;
import java.util.List;

/** CHAIN, TREE, PATH and PROOF over entries' bytes, word for word as the document's Terms tell them. */
final class Hashes {
    private Hashes() {
    }

    static byte[] sha(byte[]... parts) {
        try {
            return MessageDigest.getInstance("SHA-256").digest(EntryBytes.joined(parts));
        } catch (NoSuchAlgorithmException e) {
            throw new IllegalStateException(e);
        }
    }

    static byte[] chain(List<byte[]> entries) {
        byte[] hash = new byte[32];
        for (byte[] entry : entries) {
            hash = sha(hash, entry);
        }
        return hash;
    }

    static byte[] leaf(byte[] entry) {
        return sha(new byte[] {0}, entry);
    }

    static byte[] node(byte[] left, byte[] right) {
        return sha(new byte[] {1}, left, right);
    }

    static byte[] tree(List<byte[]> entries) {
        int n = entries.size();
        if (n == 0) {
            return sha();
        }
        int k = powerBelow(n);
        return n == 1 ? leaf(entries.get(0)) : node(tree(entries.subList(0, k)), tree(entries.subList(k, n)));
    }

    static List<byte[]> path(int i, List<byte[]> entries) {
        int n = entries.size();
        if (n == 1) {
            return new ArrayList<>();
        }
        List<byte[]> first = entries.subList(0, powerBelow(n));
        List<byte[]> others = entries.subList(powerBelow(n), n);
        return i < first.size()
            ? with(path(i, first), tree(others))
            : with(path(i - first.size(), others), tree(first));
    }

    static List<byte[]> proof(int m, List<byte[]> entries, boolean b) {
        int n = entries.size();
        if (m == n) {
            return b ? new ArrayList<>() : with(new ArrayList<>(), tree(entries));
        }
        List<byte[]> first = entries.subList(0, powerBelow(n));
        List<byte[]> others = entries.subList(powerBelow(n), n);
        return m <= first.size()
            ? with(proof(m, first, b), tree(others))
            : with(proof(m - first.size(), others, false), tree(first));
    }

    private static List<byte[]> with(List<byte[]> hashes, byte[] one) {
        hashes.add(one);
        return hashes;
    }

    private static int powerBelow(int n) {
        int k = 1;
        while (2 * k < n) {
            k *= 2;
        }
        return k;
    }
}
