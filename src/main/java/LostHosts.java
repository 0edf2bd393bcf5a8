import java.util.Arrays;

/**
 * Objects with links over four hosts: weights given out, split and sent back by letters,
 * and what of the objects is lost. The words in capitals are those of ../shared/DOC.md.
 */
public final class LostHosts {
    public static final int UNKNOWN = -1, OUTSIDE = -2, STATE = -3, FULL = -4, NONE = -9;

    private static final int HOSTS = 4;
    private static final int OBJECTS = 10;
    private static final int LETTERS = 60;
    private static final int GIVEN = 64;
    private static final int OLDEST = 9;
    private static final int NEAR = 0;
    private static final int GRANT = 0;
    private static final int RETURN = 1;
    // OBJECTS that become GONE send RETURNS beyond the 60, each of them once, to 9 others at most.
    private static final int LETTER_ROOM = LETTERS + OBJECTS * (OBJECTS - 1);

    private final int[] hostOf;
    private final int[] out;
    private final int[] age;
    // The WEIGHT of the LINK from a to b at a * OBJECTS + b; NEAR, or NONE where there is none.
    private final int[] links;
    private final Letters letters;
    private int made;
    private int live;
    private int roots;
    private int deadHosts;
    private int filled;

    /** LETTERS in the order in which they were sent, in rows that are made once. */
    private static final class Letters {
        private final int[] about;
        private final int[] receiver;
        private final int[] load;
        private int waiting;

        Letters() {
            about = new int[LETTER_ROOM];
            receiver = new int[LETTER_ROOM];
            load = new int[LETTER_ROOM];
            waiting = 0;
        }

        boolean has(int k) {
            return k >= 0 && k < waiting;
        }

        int kind(int k) {
            return receiver[k] == NONE ? RETURN : GRANT;
        }

        void sendGrant(int b, int a, int w) {
            append(b, a, w);
        }

        void sendReturn(int b, int w) {
            append(b, NONE, w);
        }

        private void append(int b, int a, int w) {
            if (waiting >= LETTER_ROOM) {
                return;
            }
            about[waiting] = b;
            receiver[waiting] = a;
            load[waiting] = w;
            waiting++;
        }

        void takeAway(int k) {
            int behind = waiting - k - 1;
            System.arraycopy(about, k + 1, about, k, behind);
            System.arraycopy(receiver, k + 1, receiver, k, behind);
            System.arraycopy(load, k + 1, load, k, behind);
            waiting--;
        }
    }

    public LostHosts() {
        hostOf = new int[OBJECTS];
        out = new int[OBJECTS];
        age = new int[OBJECTS];
        links = new int[OBJECTS * OBJECTS];
        Arrays.fill(links, NONE);
        letters = new Letters();
        made = 0;
        live = 0;
        roots = 0;
        deadHosts = 0;
        filled = 0;
    }

    // ---- 1 objects, links

    public int object(int h, boolean root) {
        if (!isHost(h)) {
            return UNKNOWN;
        }
        if (isDead(h)) {
            return STATE;
        }
        if (made >= OBJECTS) {
            return FULL;
        }
        int a = made;
        made++;
        hostOf[a] = h;
        live |= bit(a);
        if (root) {
            roots |= bit(a);
        }
        return a;
    }

    public int root(int a, boolean is) {
        if (!isObject(a)) {
            return UNKNOWN;
        }
        if (!isLive(a)) {
            return STATE;
        }
        if (isIn(roots, a) == is) {
            return 0;
        }
        roots ^= bit(a);
        return 1;
    }

    public int link(int a, int b) {
        if (!isObject(a) || !isObject(b)) {
            return UNKNOWN;
        }
        if (a == b || !isLive(a) || !isLive(b)) {
            return STATE;
        }
        boolean near = onOneHost(a, b);
        if (!near && !isIn(roots, b)) {
            return STATE;
        }
        if (hasLink(a, b)) {
            return 0;
        }
        if (near) {
            addLink(a, b, NEAR);
        } else {
            out[b] += GIVEN;
            addLink(a, b, GIVEN);
        }
        return 1;
    }

    public int unlink(int a, int b) {
        if (!isObject(a) || !isObject(b)) {
            return UNKNOWN;
        }
        if (!hasLink(a, b)) {
            return STATE;
        }
        int w = links[at(a, b)];
        if (w == NEAR) {
            links[at(a, b)] = NONE;
            return 0;
        }
        if (letters.waiting >= LETTERS) {
            return FULL;
        }
        links[at(a, b)] = NONE;
        letters.sendReturn(b, w);
        return 1;
    }

    public int ofObject(int a, int what) {
        if (!isObject(a)) {
            return UNKNOWN;
        }
        switch (what) {
            case 0:
                return hostOf[a];
            case 1:
                return isIn(roots, a) ? 1 : 0;
            case 2:
                return isLive(a) ? 1 : 0;
            case 3:
                return out[a];
            case 4:
                return age[a];
            case 5:
                return linkedFrom(a);
            case 6:
                return linkedTo(a);
            default:
                return OUTSIDE;
        }
    }

    public int weight(int a, int b) {
        if (!isObject(a) || !isObject(b)) {
            return UNKNOWN;
        }
        return links[at(a, b)];
    }

    // ---- 2 letters

    public int give(int x, int a, int b) {
        if (!isObject(x) || !isObject(a) || !isObject(b)) {
            return UNKNOWN;
        }
        if (!mayGive(x, a, b)) {
            return STATE;
        }
        if (onOneHost(x, a)) {
            addLink(a, b, onOneHost(x, b) ? NEAR : split(x, b));
            return 0;
        }
        if (letters.waiting >= LETTERS) {
            return FULL;
        }
        if (onOneHost(x, b)) {
            out[b] += GIVEN;
            letters.sendGrant(b, a, GIVEN);
        } else {
            letters.sendGrant(b, a, split(x, b));
        }
        return 1;
    }

    public int deliver(int k) {
        if (!letters.has(k)) {
            return UNKNOWN;
        }
        return arrive(k);
    }

    public int letter(int k, int what) {
        if (!letters.has(k)) {
            return UNKNOWN;
        }
        switch (what) {
            case 0:
                return letters.kind(k);
            case 1:
                return goesTo(k);
            case 2:
                return letters.load[k];
            case 3:
                return letters.about[k];
            case 4:
                return letters.receiver[k];
            default:
                return OUTSIDE;
        }
    }

    // ---- 3 what is lost

    public int collect(int h) {
        if (!isHost(h)) {
            return UNKNOWN;
        }
        if (isDead(h)) {
            return STATE;
        }
        return collectOn(h);
    }

    public int stays(int h) {
        if (!isHost(h)) {
            return UNKNOWN;
        }
        return staying(h);
    }

    public int old(int h, int v) {
        if (!isHost(h)) {
            return UNKNOWN;
        }
        if (v < 0 || v > OLDEST) {
            return OUTSIDE;
        }
        int set = 0;
        for (int a = 0; a < made; a++) {
            if (livesOn(a, h) && age[a] >= v) {
                set |= bit(a);
            }
        }
        return set;
    }

    public int trace(int b) {
        if (!isObject(b)) {
            return UNKNOWN;
        }
        if (!isLive(b)) {
            return STATE;
        }
        int set = backOf(b);
        if (heldBy(set) != 0) {
            return 0;
        }
        sendReturnsOf(set);
        return becomeGone(set);
    }

    public int back(int b, int what) {
        if (!isObject(b)) {
            return UNKNOWN;
        }
        if (what < 0 || what > 1) {
            return OUTSIDE;
        }
        if (!isLive(b)) {
            return STATE;
        }
        int set = backOf(b);
        return what == 0 ? set : heldBy(set);
    }

    public int kill(int h) {
        if (!isHost(h)) {
            return UNKNOWN;
        }
        if (isDead(h)) {
            return STATE;
        }
        deadHosts |= bit(h);
        return becomeGone(livingOn(h));
    }

    public int recover() {
        int less = 0;
        for (int b = 0; b < made; b++) {
            if (isLive(b)) {
                int held = inLinksTo(b) + inLettersAbout(b, false);
                less += out[b] - held;
                out[b] = held;
            }
        }
        return less;
    }

    public int settle() {
        int gone = 0;
        // Each round but the last makes some OBJECT GONE.
        for (int round = 0; round <= OBJECTS; round++) {
            deliverAll();
            int before = gone;
            for (int h = 0; h < HOSTS; h++) {
                if (!isDead(h)) {
                    gone += collectOn(h);
                }
            }
            if (gone == before && letters.waiting == 0) {
                break;
            }
        }
        return gone;
    }

    public int reached() {
        int set = live & roots;
        for (int round = 0; round < OBJECTS; round++) {
            set = oneStepOn(set);
        }
        return set;
    }

    public int far(int b) {
        if (!isObject(b)) {
            return UNKNOWN;
        }
        if (!isLive(b)) {
            return STATE;
        }
        int set = live & roots;
        for (int steps = 0; steps < OBJECTS; steps++) {
            if (isIn(set, b)) {
                return steps;
            }
            set = oneStepOn(set);
        }
        return NONE;
    }

    public int many(int what) {
        switch (what) {
            case 0:
                return Integer.bitCount(live);
            case 1:
                return letters.waiting;
            case 2:
                return nearLinks();
            case 3:
                return farLinks();
            case 4:
                return HOSTS - Integer.bitCount(deadHosts);
            case 5:
                return Integer.bitCount(live & ~reached());
            case 6:
                return filled;
            case 7:
                return isBalanced() ? 1 : 0;
            default:
                return OUTSIDE;
        }
    }

    // Numbers and sets.

    private static int bit(int k) {
        return 1 << k;
    }

    private static boolean isIn(int set, int k) {
        return (set & bit(k)) != 0;
    }

    private static int at(int a, int b) {
        return a * OBJECTS + b;
    }

    private static boolean isHost(int h) {
        return h >= 0 && h < HOSTS;
    }

    private boolean isObject(int a) {
        return a >= 0 && a < made;
    }

    private boolean isDead(int h) {
        return isIn(deadHosts, h);
    }

    private boolean isLive(int a) {
        return isIn(live, a);
    }

    private boolean livesOn(int a, int h) {
        return isLive(a) && hostOf[a] == h;
    }

    private int livingOn(int h) {
        int set = 0;
        for (int a = 0; a < made; a++) {
            if (livesOn(a, h)) {
                set |= bit(a);
            }
        }
        return set;
    }

    // LINKS.

    private boolean onOneHost(int a, int b) {
        return hostOf[a] == hostOf[b];
    }

    private boolean hasLink(int a, int b) {
        return links[at(a, b)] != NONE;
    }

    private void addLink(int a, int b, int w) {
        if (hasLink(a, b)) {
            links[at(a, b)] += w;
        } else {
            links[at(a, b)] = w;
            age[b] = 0;
        }
    }

    private int linkedFrom(int a) {
        int set = 0;
        for (int b = 0; b < made; b++) {
            if (hasLink(a, b)) {
                set |= bit(b);
            }
        }
        return set;
    }

    private int linkedTo(int b) {
        int set = 0;
        for (int a = 0; a < made; a++) {
            if (hasLink(a, b)) {
                set |= bit(a);
            }
        }
        return set;
    }

    private int nearLinks() {
        int found = 0;
        for (int i = 0; i < links.length; i++) {
            if (links[i] == NEAR) {
                found++;
            }
        }
        return found;
    }

    private int farLinks() {
        int found = 0;
        for (int i = 0; i < links.length; i++) {
            if (links[i] > NEAR) {
                found++;
            }
        }
        return found;
    }

    // GIVING, and LETTERS that arrive.

    private boolean mayGive(int x, int a, int b) {
        if (!isLive(x) || !isLive(a) || !isLive(b) || a == x || a == b) {
            return false;
        }
        return hasLink(x, a) && (x == b || hasLink(x, b));
    }

    private int split(int x, int b) {
        int i = at(x, b);
        if (links[i] == 1) {
            out[b] += GIVEN;
            links[i] += GIVEN;
            filled++;
        }
        int half = links[i] / 2;
        links[i] -= half;
        return half;
    }

    private int goesTo(int k) {
        int a = letters.receiver[k];
        return a == NONE ? hostOf[letters.about[k]] : hostOf[a];
    }

    private int arrive(int k) {
        int kind = letters.kind(k);
        int b = letters.about[k];
        int a = letters.receiver[k];
        int w = letters.load[k];
        letters.takeAway(k);
        if (kind == GRANT) {
            grantArrives(b, a, w);
        } else if (isLive(b)) {
            out[b] -= w;
        }
        return kind;
    }

    private void grantArrives(int b, int a, int w) {
        if (isDead(hostOf[a]) || !isLive(b)) {
            return;
        }
        boolean near = onOneHost(a, b);
        if (near) {
            out[b] -= w;
        }
        if (isLive(a)) {
            addLink(a, b, near ? NEAR : w);
        } else if (!near) {
            letters.sendReturn(b, w);
        }
    }

    private void deliverAll() {
        // A GRANT that arrives sends one RETURN at most, and a RETURN none.
        for (int n = 0; n < 2 * LETTER_ROOM && letters.waiting > 0; n++) {
            arrive(0);
        }
    }

    // COLLECTING, and becoming GONE.

    private int staying(int h) {
        int set = 0;
        for (int a = 0; a < made; a++) {
            if (livesOn(a, h) && (isIn(roots, a) || out[a] > 0)) {
                set |= bit(a);
            }
        }
        return withNear(set);
    }

    /** The set with all to which NEAR LINKS lead from it, one behind another. */
    private int withNear(int from) {
        int set = from;
        for (int round = 0; round < OBJECTS; round++) {
            for (int i = 0; i < links.length; i++) {
                if (links[i] == NEAR && isIn(set, i / OBJECTS)) {
                    set |= bit(i % OBJECTS);
                }
            }
        }
        return set;
    }

    private int collectOn(int h) {
        int living = livingOn(h);
        int stay = staying(h);
        grow(stay, withNear(living & roots));
        int lost = living & ~stay;
        sendReturnsOf(lost);
        return becomeGone(lost);
    }

    private void grow(int stay, int young) {
        for (int a = 0; a < made; a++) {
            if (isIn(young, a)) {
                age[a] = 0;
            } else if (isIn(stay, a)) {
                age[a] = Math.min(age[a] + 1, OLDEST);
            }
        }
    }

    /** Called ahead of becomeGone, while the LINKS of the set are there yet. */
    private void sendReturnsOf(int set) {
        for (int a = 0; a < made; a++) {
            for (int b = 0; b < made; b++) {
                if (isIn(set, a) && !isIn(set, b) && links[at(a, b)] > NEAR) {
                    letters.sendReturn(b, links[at(a, b)]);
                }
            }
        }
    }

    private int becomeGone(int set) {
        for (int a = 0; a < made; a++) {
            for (int b = 0; b < made; b++) {
                if (isIn(set, a) || isIn(set, b)) {
                    links[at(a, b)] = NONE;
                }
            }
        }
        live &= ~set;
        return Integer.bitCount(set);
    }

    // Tracing back, recovering, reaching.

    private int backOf(int b) {
        int set = bit(b);
        for (int round = 0; round < OBJECTS; round++) {
            for (int a = 0; a < made; a++) {
                if ((linkedFrom(a) & set) != 0) {
                    set |= bit(a);
                }
            }
        }
        return set;
    }

    /** Why one of the set is HELD: 1 by a ROOT, 2 by GRANTS alone, 0 not at all. */
    private int heldBy(int set) {
        if ((set & roots) != 0) {
            return 1;
        }
        for (int k = 0; k < letters.waiting; k++) {
            if (letters.kind(k) == GRANT && isIn(set, letters.about[k])) {
                return 2;
            }
        }
        return 0;
    }

    private int inLinksTo(int b) {
        int sum = 0;
        for (int a = 0; a < made; a++) {
            if (hasLink(a, b)) {
                sum += links[at(a, b)];
            }
        }
        return sum;
    }

    private int inLettersAbout(int b, boolean alsoToDead) {
        int sum = 0;
        for (int k = 0; k < letters.waiting; k++) {
            if (letters.about[k] == b && (alsoToDead || !isDead(goesTo(k)))) {
                sum += letters.load[k];
            }
        }
        return sum;
    }

    private boolean isBalanced() {
        for (int b = 0; b < made; b++) {
            if (isLive(b) && out[b] != inLinksTo(b) + inLettersAbout(b, true)) {
                return false;
            }
        }
        return true;
    }

    /** The set with all to which one LINK from it leads, or of which a GRANT to it is under way. */
    private int oneStepOn(int from) {
        int set = from;
        for (int a = 0; a < made; a++) {
            if (isIn(from, a)) {
                set |= linkedFrom(a);
            }
        }
        for (int k = 0; k < letters.waiting; k++) {
            if (letters.kind(k) == GRANT && isIn(from, letters.receiver[k])) {
                set |= bit(letters.about[k]);
            }
        }
        // A GRANT may be under way yet of what is GONE; nothing is REACHED by way of that, either.
        return set & live;
    }
}
