/**
 * A store of objects that keeps their versions.
 *
 * A key is held as one number: three bits a letter, the first letter in the highest three, each
 * letter as letter + 1 and 0 where the key has ended. So the order of these numbers is the order of
 * the keys, and 0 is the empty buffer, which no version and no upload ever has as its key.
 */
public final class BucketVersions {
    public static final int BAD_LETTER = -1;
    public static final int FULL = -2;
    public static final int NO_KEY = -3;
    public static final int NO_VERSION = -4;
    public static final int BAD_UPLOAD = -5;
    public static final int BAD_PART = -6;
    public static final int NONE = -7;

    private static final int MAX_LETTERS = 4;
    private static final int GREATEST_LETTER = 5;
    private static final int FOLDER_LETTER = 5;
    private static final int LETTER_BITS = 3;
    private static final int LETTER_MASK = 7;
    private static final int ENTRY_BASE = 7;
    private static final int EMPTY = 0;

    private static final int MAX_VERSIONS = 24;
    private static final int NOWHERE = -1;

    private static final int MAX_UPLOADS = 3;
    private static final int MAX_PARTS = 8;
    private static final int ALL_PARTS = 255;
    private static final int ALL_UPLOADS_PARTS = 24;
    private static final int PART_FACTOR = 31;

    private int buffer = EMPTY;
    private int bufferLength = 0;

    // The versions that are there fill the first slots, the older ones before the newer ones.
    private final int[] versionKeys = new int[MAX_VERSIONS];
    private final int[] versionNumbers = new int[MAX_VERSIONS];
    private final int[] versionContents = new int[MAX_VERSIONS];
    private final boolean[] versionIsMarker = new boolean[MAX_VERSIONS];
    private int versionCount = 0;
    private int nextNumber = 0;

    // An upload's key is EMPTY while its number is free; bit n of its set stands for its part n.
    private final int[] uploadKeys = new int[MAX_UPLOADS];
    private final int[] uploadPartSets = new int[MAX_UPLOADS];
    private final int[] partValues = new int[ALL_UPLOADS_PARTS];

    public BucketVersions() {
    }

    public int type(int letter) {
        if (letter < 0 || letter > GREATEST_LETTER) {
            return BAD_LETTER;
        }
        if (bufferLength >= MAX_LETTERS) {
            return FULL;
        }
        buffer |= (letter + 1) << shiftOfPlace(bufferLength);
        bufferLength++;
        return bufferLength;
    }

    public void erase() {
        buffer = EMPTY;
        bufferLength = 0;
    }

    public int put(int content) {
        if (buffer == EMPTY) {
            return NO_KEY;
        }
        return addVersion(buffer, content, false);
    }

    public int remove() {
        if (!isPresent(buffer)) {
            return NO_KEY;
        }
        return addVersion(buffer, 0, true);
    }

    public int destroy(int version) {
        int slot = slotOfVersion(version);
        if (slot == NOWHERE) {
            return NO_VERSION;
        }
        takeAway(slot);
        return versionCount;
    }

    public int begin() {
        if (buffer == EMPTY) {
            return NO_KEY;
        }
        for (int upload = 0; upload < MAX_UPLOADS; upload++) {
            if (uploadKeys[upload] == EMPTY) {
                uploadKeys[upload] = buffer;
                uploadPartSets[upload] = 0;
                return upload;
            }
        }
        return FULL;
    }

    public int part(int upload, int number, int value) {
        if (!isUnderWay(upload)) {
            return BAD_UPLOAD;
        }
        if (number < 0 || number >= MAX_PARTS) {
            return BAD_PART;
        }
        partValues[upload * MAX_PARTS + number] = value;
        uploadPartSets[upload] |= 1 << number;
        return partCount(upload);
    }

    public int complete(int upload, int parts) {
        if (!isUnderWay(upload)) {
            return BAD_UPLOAD;
        }
        int wanted = parts & ALL_PARTS;
        int missing = wanted & ~uploadPartSets[upload];
        if (wanted == 0 || missing != 0) {
            return BAD_PART;
        }
        int content = contentOfParts(upload, wanted);
        int answer = addVersion(uploadKeys[upload], content, false);
        if (answer != FULL) {
            uploadKeys[upload] = EMPTY;
        }
        return answer;
    }

    public int abort(int upload) {
        if (!isUnderWay(upload)) {
            return BAD_UPLOAD;
        }
        uploadKeys[upload] = EMPTY;
        return partCount(upload);
    }

    public int expire(int keep) {
        int before = versionCount;
        int kept = clampedKeep(keep) + 1;
        takeAwayBehind(kept);
        takeAwayLoneMarkers();
        return before - versionCount;
    }

    public int get() {
        int slot = currentSlot(buffer);
        return slot == NOWHERE ? 0 : versionContents[slot];
    }

    public boolean present() {
        return isPresent(buffer);
    }

    public int content(int version) {
        int slot = slotOfVersion(version);
        return slot == NOWHERE || versionIsMarker[slot] ? 0 : versionContents[slot];
    }

    public int versionAt(int i) {
        int slot = slotOfNewest(buffer, i);
        return slot == NOWHERE ? NONE : versionNumbers[slot];
    }

    public int list(boolean folders) {
        int count = 0;
        int entry = EMPTY;
        for (int n = 0; n < MAX_VERSIONS; n++) {
            entry = entryBehind(entry, folders);
            if (entry == EMPTY) {
                return count;
            }
            count++;
        }
        return count;
    }

    public int entry(int i, boolean folders) {
        if (i < 0 || i >= MAX_VERSIONS) {
            return NONE;
        }
        int entry = EMPTY;
        for (int n = 0; n <= i; n++) {
            entry = entryBehind(entry, folders);
            if (entry == EMPTY) {
                return NONE;
            }
        }
        return sumOfLetters(entry);
    }

    private static int shiftOfPlace(int place) {
        return (MAX_LETTERS - 1 - place) * LETTER_BITS;
    }

    /** The letter + 1 at a place of a key, 0 behind its end. */
    private static int digitAt(int key, int place) {
        return (key >> shiftOfPlace(place)) & LETTER_MASK;
    }

    private static int firstLetters(int key, int length) {
        return key & (-1 << ((MAX_LETTERS - length) * LETTER_BITS));
    }

    private static int sumOfLetters(int key) {
        int sum = 0;
        int weight = 1;
        for (int place = 0; place < MAX_LETTERS; place++) {
            sum += digitAt(key, place) * weight;
            weight *= ENTRY_BASE;
        }
        return sum;
    }

    private int addVersion(int key, int content, boolean isMarker) {
        if (versionCount >= MAX_VERSIONS) {
            return FULL;
        }
        int number = nextNumber;
        versionKeys[versionCount] = key;
        versionNumbers[versionCount] = number;
        versionContents[versionCount] = content;
        versionIsMarker[versionCount] = isMarker;
        versionCount++;
        nextNumber++;
        return number;
    }

    private void takeAway(int slot) {
        for (int to = slot; to + 1 < versionCount; to++) {
            versionKeys[to] = versionKeys[to + 1];
            versionNumbers[to] = versionNumbers[to + 1];
            versionContents[to] = versionContents[to + 1];
            versionIsMarker[to] = versionIsMarker[to + 1];
        }
        versionCount--;
    }

    private int slotOfVersion(int version) {
        for (int slot = 0; slot < versionCount; slot++) {
            if (versionNumbers[slot] == version) {
                return slot;
            }
        }
        return NOWHERE;
    }

    /** The slot of the key's i-th newest version, from 0. */
    private int slotOfNewest(int key, int i) {
        int newer = 0;
        for (int slot = versionCount - 1; slot >= 0; slot--) {
            if (versionKeys[slot] == key) {
                if (newer == i) {
                    return slot;
                }
                newer++;
            }
        }
        return NOWHERE;
    }

    private int currentSlot(int key) {
        int newest = slotOfNewest(key, 0);
        return newest == NOWHERE || versionIsMarker[newest] ? NOWHERE : newest;
    }

    private boolean isPresent(int key) {
        return currentSlot(key) != NOWHERE;
    }

    private static int clampedKeep(int keep) {
        if (keep < 0) {
            return 0;
        }
        return keep > MAX_VERSIONS ? MAX_VERSIONS : keep;
    }

    private void takeAwayBehind(int kept) {
        // From the newest slot down: what is taken away moves only slots that were looked at before.
        for (int slot = versionCount - 1; slot >= 0; slot--) {
            int lastKept = slotOfNewest(versionKeys[slot], kept - 1);
            if (slot < lastKept) {
                takeAway(slot);
            }
        }
    }

    private void takeAwayLoneMarkers() {
        for (int slot = versionCount - 1; slot >= 0; slot--) {
            if (versionIsMarker[slot] && isLone(versionKeys[slot])) {
                takeAway(slot);
            }
        }
    }

    private boolean isLone(int key) {
        return slotOfNewest(key, 1) == NOWHERE;
    }

    private boolean isUnderWay(int upload) {
        return upload >= 0 && upload < MAX_UPLOADS && uploadKeys[upload] != EMPTY;
    }

    private int partCount(int upload) {
        int count = 0;
        for (int number = 0; number < MAX_PARTS; number++) {
            count += (uploadPartSets[upload] >> number) & 1;
        }
        return count;
    }

    private int contentOfParts(int upload, int wanted) {
        int content = 0;
        for (int number = 0; number < MAX_PARTS; number++) {
            if (((wanted >> number) & 1) != 0) {
                content = content * PART_FACTOR + partValues[upload * MAX_PARTS + number];
            }
        }
        return content;
    }

    /** The smallest entry of the listing that is greater than the one given; EMPTY if there is none. */
    private int entryBehind(int entry, boolean folders) {
        int next = EMPTY;
        for (int slot = 0; slot < versionCount; slot++) {
            if (isListed(slot)) {
                int key = versionKeys[slot];
                int candidate = folders ? folded(key) : key;
                if (candidate > entry && (next == EMPTY || candidate < next)) {
                    next = candidate;
                }
            }
        }
        return next;
    }

    /** Whether a listing shows the slot's version, which it does for the current one of a key alone. */
    private boolean isListed(int slot) {
        int key = versionKeys[slot];
        return firstLetters(key, bufferLength) == buffer && currentSlot(key) == slot;
    }

    // Cutting keys off keeps their order, so a folder stands where the first of its keys would.
    private int folded(int key) {
        for (int place = bufferLength; place < MAX_LETTERS; place++) {
            if (digitAt(key, place) == FOLDER_LETTER + 1) {
                return firstLetters(key, place + 1);
            }
        }
        return key;
    }
}
