/**
 * Keeps values under any numbers as keys, in eight kinds of scattered tables at once, which all
 * answer the same.
 *
 * <p>Every table owns a region of the same four arrays: HOMES slots that keys are scattered over,
 * and as many spare slots for the kinds that put keys aside. What all tables have in common can so
 * be done by one loop over a region; only finding, inserting and taking out differ by kind.
 */
public final class HashSuite {
    public static final int FULL = -1;
    public static final int BAD = -2;

    private static final int LINEAR = 0;
    private static final int TRIANGULAR = 1;
    private static final int DOUBLE = 2;
    private static final int ROBIN = 3;
    private static final int CUCKOO = 4;
    private static final int CHAINED = 5;
    private static final int COALESCED = 6;
    private static final int HOPSCOTCH = 7;

    private static final int ENGINES = 8;
    private static final int LIMIT = 24;
    private static final int GREATEST_DIVISOR = 1000;

    // A power of two above LIMIT: a free home always exists, and every probe sequence meets it.
    private static final int HOMES = 32;
    private static final int HOME_MASK = 31;
    private static final int HOME_SHIFT = 27;
    // Homes and spare slots of one table, and those of all tables.
    private static final int REGION = 64;
    private static final int SLOTS = 512;

    private static final int KICKS = 32;
    private static final int HOP = 8;

    private static final int NONE = -1;

    private static final int FREE = 0;
    private static final int HELD = 1;
    // A key was here: a search must go on past this slot, an insertion may use it.
    private static final int LEFT = 2;

    // Slot 0 is in a table without links, so that no link ever needs to lead to it.
    private static final int NO_LINK = 0;

    private final int[] keyAt = new int[SLOTS];
    private final int[] valueAt = new int[SLOTS];
    private final byte[] markAt = new byte[SLOTS];
    // The next slot of a list in CHAINED and COALESCED; in HOPSCOTCH a bit for each slot near a
    // home that holds a key of this home.
    private final int[] linkAt = new int[SLOTS];

    // Keys move between slots while others are taken out, so they are listed here before.
    private final int[] listedKey = new int[LIMIT];
    private final int[] listedValue = new int[LIMIT];

    private int held = 0;
    private int way = 0;

    public HashSuite() {
    }

    // ---- changes ----

    public int put(int key, int value) {
        if (!hasRoomFor(key)) {
            return FULL;
        }
        setEverywhere(key, value);
        return held;
    }

    public boolean remove(int key) {
        return takeEverywhere(key);
    }

    public int add(int key, int d) {
        if (!hasRoomFor(key)) {
            return FULL;
        }
        int slot = find(LINEAR, key);
        int before = slot == NONE ? 0 : valueAt[slot];
        setEverywhere(key, before + d);
        return held;
    }

    public boolean move(int from, int to) {
        int slot = find(LINEAR, from);
        if (slot == NONE || from == to) {
            return false;
        }
        int value = valueAt[slot];
        // Taken away first, so that there is room for the other key even at the limit.
        takeEverywhere(from);
        setEverywhere(to, value);
        return true;
    }

    public int sift(int m, int r) {
        if (m < 1 || m > GREATEST_DIVISOR || r < 0 || r >= m) {
            return BAD;
        }
        int listed = listKeys(m, r);
        for (int i = 0; i < listed; i++) {
            takeEverywhere(listedKey[i]);
        }
        return listed;
    }

    public int clear() {
        int before = held;
        wipe();
        return before;
    }

    public void scatter(int way) {
        int listed = listKeys(1, 0);
        wipe();
        this.way = way;
        for (int i = 0; i < listed; i++) {
            setEverywhere(listedKey[i], listedValue[i]);
        }
    }

    // ---- questions ----

    public int size() {
        return held;
    }

    public boolean has(int engine, int key) {
        return find(engine, key) != NONE;
    }

    public int get(int engine, int key) {
        int slot = find(engine, key);
        return slot == NONE ? 0 : valueAt[slot];
    }

    public int count(int engine, int value) {
        if (!isEngine(engine)) {
            return BAD;
        }
        int base = engine * REGION;
        int found = 0;
        for (int slot = base; slot < base + REGION; slot++) {
            if (markAt[slot] == HELD && valueAt[slot] == value) {
                found++;
            }
        }
        return found;
    }

    public int sum(int engine) {
        if (!isEngine(engine)) {
            return 0;
        }
        int base = engine * REGION;
        int total = 0;
        for (int slot = base; slot < base + REGION; slot++) {
            if (markAt[slot] == HELD) {
                total += valueAt[slot];
            }
        }
        return total;
    }

    public int least() {
        int least = 0;
        boolean any = false;
        for (int slot = LINEAR * REGION; slot < LINEAR * REGION + HOMES; slot++) {
            if (markAt[slot] == HELD && (!any || keyAt[slot] < least)) {
                least = keyAt[slot];
                any = true;
            }
        }
        return least;
    }

    public boolean agree(int engine, int other) {
        if (!isEngine(engine) || !isEngine(other)) {
            return false;
        }
        // Both ways: each has all that the other one has.
        return isWithin(engine, other) && isWithin(other, engine);
    }

    public boolean sound() {
        for (int engine = 0; engine < ENGINES; engine++) {
            if (!isTableSound(engine) || !isWithin(LINEAR, engine)) {
                return false;
            }
        }
        return areChainsSound() && areListsSound() && areHopsSound();
    }

    // ---- all tables at once ----

    private static boolean isEngine(int engine) {
        return engine >= 0 && engine < ENGINES;
    }

    private boolean hasRoomFor(int key) {
        return held < LIMIT || find(LINEAR, key) != NONE;
    }

    private void setEverywhere(int key, int value) {
        boolean isNew = find(LINEAR, key) == NONE;
        for (int engine = 0; engine < ENGINES; engine++) {
            int slot = find(engine, key);
            if (slot == NONE) {
                insert(engine, key, value);
            } else {
                valueAt[slot] = value;
            }
        }
        if (isNew) {
            held++;
        }
    }

    private boolean takeEverywhere(int key) {
        boolean isThere = find(LINEAR, key) != NONE;
        for (int engine = 0; engine < ENGINES; engine++) {
            int slot = find(engine, key);
            if (slot != NONE) {
                takeOut(engine, slot);
            }
        }
        if (isThere) {
            held--;
        }
        return isThere;
    }

    private void wipe() {
        for (int slot = 0; slot < SLOTS; slot++) {
            markAt[slot] = FREE;
            linkAt[slot] = NO_LINK;
        }
        held = 0;
    }

    private int listKeys(int m, int r) {
        int listed = 0;
        for (int slot = LINEAR * REGION; slot < LINEAR * REGION + HOMES; slot++) {
            int rest = keyAt[slot] % m;
            if (rest < 0) {
                rest += m;
            }
            if (markAt[slot] == HELD && rest == r && listed < LIMIT) {
                listedKey[listed] = keyAt[slot];
                listedValue[listed] = valueAt[slot];
                listed++;
            }
        }
        return listed;
    }

    private int find(int engine, int key) {
        switch (engine) {
            case LINEAR:
            case TRIANGULAR:
            case DOUBLE:
                return findProbing(engine, key);
            case ROBIN:
                return findRobin(key);
            case CUCKOO:
                return findCuckoo(key);
            case CHAINED:
            case COALESCED:
                return findLinked(engine, key);
            case HOPSCOTCH:
                return findHopscotch(key);
            default:
                return NONE;
        }
    }

    private void insert(int engine, int key, int value) {
        switch (engine) {
            case LINEAR:
            case TRIANGULAR:
            case DOUBLE:
                insertProbing(engine, key, value);
                break;
            case ROBIN:
                insertRobin(key, value);
                break;
            case CUCKOO:
                insertCuckoo(key, value);
                break;
            case CHAINED:
                insertChained(key, value);
                break;
            case COALESCED:
                insertCoalesced(key, value);
                break;
            case HOPSCOTCH:
                insertHopscotch(key, value);
                break;
            default:
                break;
        }
    }

    private void takeOut(int engine, int slot) {
        switch (engine) {
            case LINEAR:
            case ROBIN:
                closeGap(engine, slot);
                break;
            case TRIANGULAR:
            case DOUBLE:
                markAt[slot] = LEFT;
                break;
            case CUCKOO:
                markAt[slot] = FREE;
                break;
            case CHAINED:
                takeChained(slot);
                break;
            case COALESCED:
                takeCoalesced(slot);
                break;
            case HOPSCOTCH:
                takeHopscotch(slot);
                break;
            default:
                break;
        }
    }

    // ---- scattering ----

    private int home(int key) {
        int mixed = (key ^ way) * 0x9E3779B1;
        mixed = (mixed ^ (mixed >>> 15)) * 0x85EBCA6B;
        return mixed >>> HOME_SHIFT;
    }

    private int otherHome(int key) {
        int mixed = (key + way) * 0xC2B2AE35;
        mixed = (mixed ^ (mixed >>> 13)) * 0x27D4EB2F;
        return mixed >>> HOME_SHIFT;
    }

    // How far from its home the key in this slot of a table stands.
    private int distance(int slot) {
        return (slot - home(keyAt[slot])) & HOME_MASK;
    }

    // ---- slots ----

    private void hold(int slot, int key, int value) {
        keyAt[slot] = key;
        valueAt[slot] = value;
        markAt[slot] = HELD;
    }

    private boolean holds(int slot, int key) {
        return markAt[slot] == HELD && keyAt[slot] == key;
    }

    // ---- the spare slots, for keys without a place among the homes ----

    private int findSpare(int engine, int key) {
        int base = engine * REGION;
        for (int slot = base + HOMES; slot < base + REGION; slot++) {
            if (holds(slot, key)) {
                return slot;
            }
        }
        return NONE;
    }

    // There are more spare slots than keys, so the last one is never held when it is answered.
    private int freeSpare(int engine) {
        int slot = engine * REGION + HOMES;
        for (int step = 1; step < HOMES && markAt[slot] == HELD; step++) {
            slot++;
        }
        return slot;
    }

    // ---- LINEAR, TRIANGULAR and DOUBLE: one walk, with strides that stay, grow or differ ----

    private int firstStride(int engine, int key) {
        // An odd stride meets every home, as their number is a power of two.
        return engine == DOUBLE ? otherHome(key) | 1 : 1;
    }

    private int findProbing(int engine, int key) {
        int base = engine * REGION;
        int place = home(key);
        int stride = firstStride(engine, key);
        int growth = engine == TRIANGULAR ? 1 : 0;
        for (int probe = 0; probe < HOMES; probe++) {
            if (markAt[base + place] == FREE) {
                return NONE;
            }
            if (holds(base + place, key)) {
                return base + place;
            }
            place = (place + stride) & HOME_MASK;
            stride += growth;
        }
        return NONE;
    }

    private void insertProbing(int engine, int key, int value) {
        int base = engine * REGION;
        int place = home(key);
        int stride = firstStride(engine, key);
        int growth = engine == TRIANGULAR ? 1 : 0;
        for (int probe = 0; probe < HOMES; probe++) {
            if (markAt[base + place] != HELD) {
                hold(base + place, key, value);
                return;
            }
            place = (place + stride) & HOME_MASK;
            stride += growth;
        }
    }

    // Draws keys back, so that no free slot stands between a key and its home.
    private void closeGap(int engine, int slot) {
        int base = engine * REGION;
        int gap = slot;
        markAt[gap] = FREE;
        for (int step = 1; step < HOMES; step++) {
            int next = base + ((slot + step) & HOME_MASK);
            if (markAt[next] != HELD) {
                return;
            }
            if (distance(next) >= ((next - gap) & HOME_MASK)) {
                hold(gap, keyAt[next], valueAt[next]);
                markAt[next] = FREE;
                gap = next;
            }
        }
    }

    // ---- ROBIN: a key that is far from its home displaces one that is nearer ----

    private int findRobin(int key) {
        int base = ROBIN * REGION;
        int start = home(key);
        for (int walked = 0; walked < HOMES; walked++) {
            int slot = base + ((start + walked) & HOME_MASK);
            if (markAt[slot] != HELD || distance(slot) < walked) {
                return NONE;
            }
            if (keyAt[slot] == key) {
                return slot;
            }
        }
        return NONE;
    }

    private void insertRobin(int key, int value) {
        int base = ROBIN * REGION;
        int start = home(key);
        int carriedKey = key;
        int carriedValue = value;
        int walked = 0;
        for (int step = 0; step < HOMES; step++) {
            int slot = base + ((start + step) & HOME_MASK);
            if (markAt[slot] != HELD) {
                hold(slot, carriedKey, carriedValue);
                return;
            }
            int standing = distance(slot);
            if (standing < walked) {
                int outKey = keyAt[slot];
                int outValue = valueAt[slot];
                hold(slot, carriedKey, carriedValue);
                carriedKey = outKey;
                carriedValue = outValue;
                walked = standing;
            }
            walked++;
        }
    }

    // ---- CUCKOO: two homes for each key, and the spare slots when kicking finds no end ----

    private int findCuckoo(int key) {
        int first = CUCKOO * REGION + home(key);
        if (holds(first, key)) {
            return first;
        }
        int second = CUCKOO * REGION + otherHome(key);
        if (holds(second, key)) {
            return second;
        }
        return findSpare(CUCKOO, key);
    }

    private int otherPlace(int slot, int key) {
        int first = CUCKOO * REGION + home(key);
        return slot == first ? CUCKOO * REGION + otherHome(key) : first;
    }

    private void insertCuckoo(int key, int value) {
        int carriedKey = key;
        int carriedValue = value;
        int slot = CUCKOO * REGION + home(key);
        for (int kick = 0; kick < KICKS; kick++) {
            if (markAt[slot] != HELD) {
                hold(slot, carriedKey, carriedValue);
                return;
            }
            int outKey = keyAt[slot];
            int outValue = valueAt[slot];
            hold(slot, carriedKey, carriedValue);
            carriedKey = outKey;
            carriedValue = outValue;
            slot = otherPlace(slot, carriedKey);
        }
        int spare = freeSpare(CUCKOO);
        hold(spare, carriedKey, carriedValue);
    }

    // ---- CHAINED: the homes only start lists, whose keys all stand in the spare slots ----
    // ---- COALESCED: lists through the homes themselves, which may grow together ----

    // Looked at before it is followed: a number that is no slot ends a list like no link at all.
    private int nextOf(int slot) {
        int next = linkAt[slot];
        return next > NO_LINK && next < SLOTS ? next : NO_LINK;
    }

    private int findLinked(int engine, int key) {
        int slot = engine * REGION + home(key);
        for (int step = 0; step <= HOMES; step++) {
            if (holds(slot, key)) {
                return slot;
            }
            slot = nextOf(slot);
            if (slot == NO_LINK) {
                return NONE;
            }
        }
        return NONE;
    }

    // The slot that links to this one, or the list's last one if none does.
    private int linkingTo(int engine, int slot) {
        int before = engine * REGION + home(keyAt[slot]);
        int next = nextOf(before);
        for (int step = 0; step < HOMES && next != slot && next != NO_LINK; step++) {
            before = next;
            next = nextOf(before);
        }
        return before;
    }

    private void insertChained(int key, int value) {
        int start = CHAINED * REGION + home(key);
        int slot = freeSpare(CHAINED);
        hold(slot, key, value);
        linkAt[slot] = linkAt[start];
        linkAt[start] = slot;
    }

    private void takeChained(int slot) {
        int before = linkingTo(CHAINED, slot);
        linkAt[before] = linkAt[slot];
        release(slot);
    }

    private void insertCoalesced(int key, int value) {
        int slot = COALESCED * REGION + home(key);
        if (markAt[slot] == HELD) {
            int last = slot;
            int next = nextOf(last);
            for (int step = 0; step < HOMES && next != NO_LINK; step++) {
                last = next;
                next = nextOf(last);
            }
            slot = COALESCED * REGION + HOMES - 1;
            for (int step = 1; step < HOMES && markAt[slot] == HELD; step++) {
                slot--;
            }
            linkAt[last] = slot;
        }
        hold(slot, key, value);
    }

    // Keys behind the gap may have their homes on either side of it, so each is inserted anew.
    private void takeCoalesced(int slot) {
        int before = linkingTo(COALESCED, slot);
        // A key that stands in its own home starts its list: nothing links to it.
        if (linkAt[before] == slot) {
            linkAt[before] = NO_LINK;
        }
        int behind = nextOf(slot);
        release(slot);
        for (int step = 0; step < HOMES && behind != NO_LINK; step++) {
            int next = nextOf(behind);
            release(behind);
            insertCoalesced(keyAt[behind], valueAt[behind]);
            behind = next;
        }
    }

    private void release(int slot) {
        markAt[slot] = FREE;
        linkAt[slot] = NO_LINK;
    }

    // ---- HOPSCOTCH: keys stand less than HOP slots from home, or in the spare slots ----

    private int findHopscotch(int key) {
        int base = HOPSCOTCH * REGION;
        int start = home(key);
        int near = linkAt[base + start];
        for (int away = 0; away < HOP; away++) {
            int slot = base + ((start + away) & HOME_MASK);
            if (((near >>> away) & 1) == 1 && holds(slot, key)) {
                return slot;
            }
        }
        return findSpare(HOPSCOTCH, key);
    }

    private void insertHopscotch(int key, int value) {
        int base = HOPSCOTCH * REGION;
        int start = home(key);
        int slot = base + start;
        for (int step = 1; step < HOMES && markAt[slot] == HELD; step++) {
            slot = base + ((start + step) & HOME_MASK);
        }
        // Each round brings the free slot nearer to the key's home.
        for (int round = 0; round < HOMES && ((slot - start) & HOME_MASK) >= HOP; round++) {
            int mover = moverTo(slot);
            if (mover == NONE) {
                int spare = freeSpare(HOPSCOTCH);
                hold(spare, key, value);
                return;
            }
            int movedKey = keyAt[mover];
            int movedValue = valueAt[mover];
            takeHopscotch(mover);
            holdNear(slot, movedKey, movedValue);
            slot = mover;
        }
        holdNear(slot, key, value);
    }

    // A slot before the free one whose key would still be near its home in the free one.
    private int moverTo(int free) {
        int base = HOPSCOTCH * REGION;
        for (int back = HOP - 1; back > 0; back--) {
            int slot = base + ((free - back) & HOME_MASK);
            int away = (free - home(keyAt[slot])) & HOME_MASK;
            if (markAt[slot] == HELD && away < HOP) {
                return slot;
            }
        }
        return NONE;
    }

    private void holdNear(int slot, int key, int value) {
        hold(slot, key, value);
        int start = HOPSCOTCH * REGION + home(key);
        linkAt[start] |= 1 << ((slot - start) & HOME_MASK);
    }

    private void takeHopscotch(int slot) {
        // The spare slots are in no home's bits.
        if (slot < HOPSCOTCH * REGION + HOMES) {
            int start = HOPSCOTCH * REGION + home(keyAt[slot]);
            linkAt[start] &= ~(1 << ((slot - start) & HOME_MASK));
        }
        markAt[slot] = FREE;
    }

    // ---- soundness ----

    private boolean isWithin(int engine, int other) {
        int base = engine * REGION;
        for (int slot = base; slot < base + REGION; slot++) {
            if (markAt[slot] == HELD) {
                int there = find(other, keyAt[slot]);
                if (there == NONE || valueAt[there] != valueAt[slot]) {
                    return false;
                }
            }
        }
        return true;
    }

    // A key that is found in another slot than its own is there twice or out of its place.
    private boolean isTableSound(int engine) {
        int base = engine * REGION;
        int seen = 0;
        for (int slot = base; slot < base + REGION; slot++) {
            if (markAt[slot] == HELD) {
                seen++;
                if (find(engine, keyAt[slot]) != slot) {
                    return false;
                }
            } else if (markAt[slot] == LEFT && engine != TRIANGULAR && engine != DOUBLE) {
                return false;
            }
        }
        return seen == held;
    }

    // Every key is found through a link of its own, so there may be no more links than keys.
    private boolean areChainsSound() {
        int base = CHAINED * REGION;
        int links = 0;
        for (int slot = base; slot < base + REGION; slot++) {
            if (linkAt[slot] != NO_LINK) {
                links++;
            }
        }
        return links == held;
    }

    private boolean areListsSound() {
        int base = COALESCED * REGION;
        for (int slot = base; slot < base + REGION; slot++) {
            int next = nextOf(slot);
            if (linkAt[slot] != next) {
                return false;
            }
            if (next != NO_LINK && (markAt[slot] != HELD || markAt[next] != HELD)) {
                return false;
            }
        }
        return true;
    }

    // Every key among the homes is found through a bit of its own, so there may be no more bits.
    private boolean areHopsSound() {
        int base = HOPSCOTCH * REGION;
        int bits = 0;
        int seen = 0;
        for (int slot = base; slot < base + HOMES; slot++) {
            for (int away = 0; away < HOMES; away++) {
                bits += (linkAt[slot] >>> away) & 1;
            }
            if (markAt[slot] == HELD) {
                seen++;
            }
        }
        return bits == seen;
    }
}
