import java.util.ArrayList;
import java.util.HashSet;
import java.util.List;
import java.util.Set;

/**
 * The document's terms once more, with objects, sets, stamps that never go round, and a refusal
 * that looks at all versions that there ever were. It answers -2 for an IndexOutOfBoundsException,
 * -3 for an IllegalArgumentException, -4 for an IllegalStateException.
 */
final class Model {
    static final int NO_TRANSACTION = -2;
    static final int BAD_ARGUMENT = -3;
    static final int BAD_STATE = -4;

    private static final class Transaction {
        int stamp;
        Set<Transaction> snapshot;
        boolean isActive = true;
        boolean hasCommitted;

        boolean counts(Transaction other) {
            return other == this || snapshot.contains(other);
        }
    }

    private static final class Version {
        int key;
        int value;
        Transaction birth;
        boolean isFrozen;
        Transaction death;
        Version next;
        int page;
        int slot;
    }

    private final List<Transaction> transactions = new ArrayList<>();
    private final List<Version> everMade = new ArrayList<>();
    private final Version[][] pages = new Version[4][8];
    private final List<List<Version>> entries = new ArrayList<>();
    private final boolean[] isMapped = new boolean[4];
    private int totalStamps = 0;
    private int freezingAge = 20;

    Model() {
        for (int key = 0; key < 6; key++) {
            entries.add(new ArrayList<>());
        }
    }

    int begin() {
        if (transactions.size() == 60 || oldest() >= 28) {
            return BAD_STATE;
        }
        Transaction made = new Transaction();
        made.stamp = totalStamps++;
        made.snapshot = new HashSet<>();
        for (Transaction other : transactions) {
            if (other.hasCommitted) {
                made.snapshot.add(other);
            }
        }
        transactions.add(made);
        return transactions.size() - 1;
    }

    int end(int number, boolean commits) {
        if (isNone(number)) {
            return NO_TRANSACTION;
        }
        Transaction ended = transactions.get(number);
        if (!ended.isActive) {
            return BAD_STATE;
        }
        ended.isActive = false;
        ended.hasCommitted = commits;
        if (!commits) {
            for (Version version : everMade) {
                version.death = version.death == ended ? null : version.death;
            }
        }
        int active = 0;
        for (Transaction other : transactions) {
            active += other.isActive ? 1 : 0;
        }
        return active;
    }

    int jump(int stamps) {
        if (stamps < 1 || stamps > 20) {
            return BAD_ARGUMENT;
        }
        if (oldest() > 0 && oldest() + stamps >= 32) {
            return BAD_STATE;
        }
        totalStamps += stamps;
        return totalStamps % 64;
    }

    int stamp(int number) {
        return isNone(number) ? NO_TRANSACTION : transactions.get(number).stamp % 64;
    }

    int read(int number, int key) {
        int refusal = refusal(number, key);
        if (refusal != 0) {
            return refusal;
        }
        Version seen = seen(transactions.get(number), key);
        return seen == null ? -1 : seen.value;
    }

    int readPlain(int number, int key) {
        int refusal = refusal(number, key);
        if (refusal != 0) {
            return refusal;
        }
        int found = 0;
        int value = -1;
        for (Version version : everMade) {
            if (version.key == key && sees(transactions.get(number), version)) {
                found++;
                value = version.value;
            }
        }
        if (found > 1) {
            throw new AssertionError("more than one version is seen");
        }
        return value;
    }

    int write(int number, int key, int value) {
        int refusal = refusal(number, value < 0 || value > 9999 ? -1 : key);
        if (refusal != 0) {
            return refusal;
        }
        Transaction writer = transactions.get(number);
        if (isRefused(writer, key)) {
            return BAD_STATE;
        }
        Version old = seen(writer, key);
        Version made = new Version();
        boolean isNext = old != null && hasPlaced(made, old.page);
        for (int page = 0; page < 4 && made.birth == null && !isNext; page++) {
            if (hasPlaced(made, page)) {
                break;
            }
            if (page == 3) {
                return BAD_STATE;
            }
        }
        made.key = key;
        made.value = value;
        made.birth = writer;
        everMade.add(made);
        isMapped[made.page] = false;
        if (old != null) {
            old.death = writer;
            isMapped[old.page] = false;
        }
        if (isNext) {
            old.next = made;
        } else {
            entries.get(key).add(made);
        }
        return made.page * 1000 + made.slot + (isNext ? 100000 : 0);
    }

    private boolean hasPlaced(Version version, int page) {
        for (int slot = 0; slot < 8; slot++) {
            if (pages[page][slot] == null) {
                pages[page][slot] = version;
                version.page = page;
                version.slot = slot;
                return true;
            }
        }
        return false;
    }

    int delete(int number, int key) {
        int refusal = refusal(number, key);
        if (refusal != 0) {
            return refusal;
        }
        Transaction writer = transactions.get(number);
        Version seen = seen(writer, key);
        if (seen == null) {
            return 0;
        }
        if (isRefused(writer, key)) {
            return BAD_STATE;
        }
        seen.death = writer;
        isMapped[seen.page] = false;
        return 1;
    }

    int clean(int page) {
        if (page < 0 || page > 3) {
            return BAD_ARGUMENT;
        }
        int gone = 0;
        for (int slot = 7; slot >= 0; slot--) {
            Version version = pages[page][slot];
            if (version != null && canGo(version)) {
                leave(version);
                gone++;
            }
        }
        for (Version version : pages[page]) {
            if (version != null && !version.isFrozen && isSettled(version.birth)
                    && totalStamps - version.birth.stamp >= freezingAge) {
                version.isFrozen = true;
            }
        }
        isMapped[page] = isWhole(page);
        return gone;
    }

    private boolean canGo(Version version) {
        boolean isDead = !version.birth.isActive && !version.birth.hasCommitted;
        return isDead || version.death != null && isSettled(version.death);
    }

    private void leave(Version gone) {
        pages[gone.page][gone.slot] = null;
        for (Version version : everMade) {
            version.next = version.next == gone ? gone.next : version.next;
        }
        List<Version> heads = entries.get(gone.key);
        int position = heads.indexOf(gone);
        if (position >= 0 && gone.next != null) {
            heads.set(position, gone.next);
        } else if (position >= 0) {
            heads.remove(position);
        }
        gone.next = null;
    }

    int setFreezing(int age) {
        if (age < 1 || age > 27) {
            return BAD_ARGUMENT;
        }
        int before = freezingAge;
        freezingAge = age;
        return before;
    }

    boolean isMapped(int page) {
        return isMapped[page];
    }

    boolean isWhole(int page) {
        for (Version version : pages[page]) {
            if (version != null
                    && (version.death != null || !version.isFrozen && !isSettled(version.birth))) {
                return false;
            }
        }
        return true;
    }

    int slot(int page, int slot) {
        Version version = pages[page][slot];
        if (version == null) {
            return -1;
        }
        return version.key + (version.isFrozen ? 10 : 0) + (version.death != null ? 20 : 0)
                + (version.next != null ? 100 * (1 + version.next.slot) : 0);
    }

    int entries(int key) {
        return entries.get(key).size();
    }

    float fullness(int page) {
        int used = 0;
        for (Version version : pages[page]) {
            used += version != null ? 1 : 0;
        }
        return used / 8f;
    }

    int oldest() {
        int first = totalStamps;
        for (Transaction transaction : transactions) {
            first = transaction.isActive ? Math.min(first, transaction.stamp) : first;
        }
        for (Version[] page : pages) {
            for (Version version : page) {
                if (version != null && !version.isFrozen) {
                    first = Math.min(first, version.birth.stamp);
                }
                if (version != null && version.death != null) {
                    first = Math.min(first, version.death.stamp);
                }
            }
        }
        return totalStamps - first;
    }

    int begun() {
        return transactions.size();
    }

    boolean isActive(int number) {
        return transactions.get(number).isActive;
    }

    private boolean isNone(int number) {
        return number < 0 || number >= transactions.size();
    }

    private int refusal(int number, int key) {
        if (isNone(number)) {
            return NO_TRANSACTION;
        }
        if (key < 0 || key > 5) {
            return BAD_ARGUMENT;
        }
        return transactions.get(number).isActive ? 0 : BAD_STATE;
    }

    private boolean sees(Transaction reader, Version version) {
        return (version.isFrozen || reader.counts(version.birth))
                && (version.death == null || !reader.counts(version.death));
    }

    private Version seen(Transaction reader, int key) {
        List<Version> heads = entries.get(key);
        for (int position = heads.size() - 1; position >= 0; position--) {
            for (Version version = heads.get(position); version != null; version = version.next) {
                if (sees(reader, version)) {
                    return version;
                }
            }
        }
        return null;
    }

    private boolean isRefused(Transaction writer, int key) {
        for (Version version : everMade) {
            if (version.key == key && (isRival(writer, version.birth) || isRival(writer, version.death))) {
                return true;
            }
        }
        return false;
    }

    private static boolean isRival(Transaction writer, Transaction other) {
        return other != null && other != writer
                && (other.isActive || other.hasCommitted && !writer.snapshot.contains(other));
    }

    private boolean isSettled(Transaction settled) {
        boolean is = settled.hasCommitted;
        for (Transaction other : transactions) {
            is = is && (!other.isActive || other.snapshot.contains(settled));
        }
        return is;
    }
}
