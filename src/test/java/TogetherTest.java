import java.util.ArrayList;
import java.util.List;
import java.util.TreeSet;

/**
 * Sentences of the document that speak of the same thing, read together: what one call leaves behind
 * is looked at with all the others that can tell of it.
 */
public final class TogetherTest {
    private static final int FULL = -2;
    private static final int NO_KEY = -3;
    private static final int NO_VERSION = -4;
    private static final int BAD_UPLOAD = -5;
    private static final int BAD_PART = -6;
    private static final int NONE = -7;

    /**
     * Keys of each length, beginnings of one another, with letters 5 at each place and at several; 24 with
     * one that comes twice, as a key with two versions is still one entry.
     */
    private static final String[] MANY_KEYS = {
        "5", "0", "05", "055", "0555", "0505", "0", "01", "0150", "0155", "1", "15", "151", "1511",
        "2345", "2344", "50", "505", "5050", "55", "5555", "4444", "350", "3500"
    };

    private static String reading = "";
    private static int wrong = 0;

    private static void due(String call, Object got, Object want) {
        if (!got.equals(want)) {
            wrong++;
            System.out.println(reading + ": " + call + " answered " + got + ", due is " + want);
        }
    }

    /** Makes the buffer hold just these letters. */
    private static BucketVersions at(BucketVersions x, String letters) {
        x.erase();
        for (char letter : letters.toCharArray()) {
            x.type(letter - '0');
        }
        return x;
    }

    private static BucketVersions fresh(String letters) {
        return at(new BucketVersions(), letters);
    }

    private static void puts(BucketVersions x, int times) {
        for (int i = 0; i < times; i++) {
            x.put(100 + i);
        }
    }

    private static int sum(String letters) {
        int sum = 0;
        int weight = 1;
        for (char letter : letters.toCharArray()) {
            sum += (letter - '0' + 1) * weight;
            weight *= 7;
        }
        return sum;
    }

    private static void dueVersions(BucketVersions x, Integer... numbers) {
        List<Integer> got = new ArrayList<>();
        for (int i = 0; i <= 24 && x.versionAt(i) != NONE; i++) {
            got.add(x.versionAt(i));
        }
        due("versionAt(0, 1, ..)", got, List.of(numbers));
    }

    /** All calls that tell whether a key is present say so; the buffer holds it then. */
    private static void duePresent(BucketVersions x, String key, int content) {
        at(x, key);
        due("present() at " + key, x.present(), true);
        due("get() at " + key, x.get(), content);
        due("content(versionAt(0)) at " + key, x.content(x.versionAt(0)), content);
        due("entry(0, false) at " + key, x.entry(0, false), sum(key));
        due("entry(0, true) at " + key, x.entry(0, true), sum(key));
    }

    /** All calls that tell whether a key is present deny it, remove among them. */
    private static void dueNotPresent(BucketVersions x, String key) {
        at(x, key);
        due("present() at " + key, x.present(), false);
        due("get() at " + key, x.get(), 0);
        due("content(versionAt(0)) at " + key, x.content(x.versionAt(0)), 0);
        due("list(false) at " + key, x.list(false), 0);
        due("list(true) at " + key, x.list(true), 0);
        due("entry(0, false) at " + key, x.entry(0, false), NONE);
        due("entry(0, true) at " + key, x.entry(0, true), NONE);
        due("remove() at " + key, x.remove(), NO_KEY);
    }

    private static void destroyedMarker() {
        reading = "Promise 6 with the Terms: a marker is destroyed";
        BucketVersions x = fresh("35");
        x.put(70);
        x.remove();
        dueNotPresent(x, "35");
        due("destroy(1)", x.destroy(1), 1);
        duePresent(x, "35", 70);
        due("remove()", x.remove(), 2);
        dueNotPresent(x, "35");
        dueVersions(x, 2, 0);
    }

    private static void destroyedObjects() {
        reading = "Promise 6 with the Terms: objects are destroyed";
        BucketVersions x = fresh("35");
        x.put(70);
        x.remove();
        x.put(71);
        x.put(72);
        duePresent(x, "35", 72);
        due("destroy(3)", x.destroy(3), 3);
        duePresent(x, "35", 71);
        due("destroy(2)", x.destroy(2), 2);
        dueNotPresent(x, "35");
        due("destroy(0)", x.destroy(0), 1);
        dueNotPresent(x, "35");
        dueVersions(x, 1);
        due("destroy(1)", x.destroy(1), 0);
        dueNotPresent(x, "35");
        dueVersions(x);
    }

    private static void destroyedBehindTheNewest() {
        reading = "Promise 6 with the Terms: a version behind the newest is destroyed";
        BucketVersions x = fresh("2");
        x.put(70);
        x.remove();
        x.put(71);
        due("destroy(1)", x.destroy(1), 2);
        duePresent(x, "2", 71);
        due("destroy(0)", x.destroy(0), 1);
        duePresent(x, "2", 71);
        dueVersions(x, 2);
    }

    private static void destroyedElsewhere() {
        reading = "Promise 6: \"whatever key it is of\", and no other key is touched";
        BucketVersions x = fresh("4");
        x.put(40);
        at(x, "41").put(41);
        x.remove();
        at(x, "4").put(42);
        at(x, "");
        due("destroy(2) with an empty buffer", x.destroy(2), 3);
        duePresent(x, "41", 41);
        due("destroy(3) from another key", x.destroy(3), 2);
        duePresent(x, "4", 40);
        due("destroy(0)", x.destroy(0), 1);
        dueVersions(x);
        due("list(false): 41 begins with 4", x.list(false), 1);
        duePresent(x, "41", 41);
    }

    private static void destroyedInAFolder() {
        reading = "Promises 6, 16, 17: a folder is there while a key of it is present";
        BucketVersions x = fresh("153");
        x.put(1);
        at(x, "15").put(2);
        x.remove();
        at(x, "1").put(3);
        due("list(true)", x.list(true), 2);
        due("entry(1, true)", x.entry(1, true), sum("15"));
        due("entry(1, false)", x.entry(1, false), sum("153"));
        due("destroy(0)", x.destroy(0), 3);
        due("list(true) with a marker alone behind", x.list(true), 1);
        due("entry(1, true)", x.entry(1, true), NONE);
        due("destroy(2)", x.destroy(2), 2);
        due("list(true) without the marker", x.list(true), 2);
        due("entry(0, true)", x.entry(0, true), sum("1"));
        due("entry(1, true)", x.entry(1, true), sum("15"));
    }

    private static void numbersAfterDestroy() {
        reading = "Promise 6 with \"numbers go on growing\"";
        BucketVersions x = fresh("0");
        for (int n = 0; n < 60; n++) {
            due("put", x.put(n), 2 * n);
            due("remove", x.remove(), 2 * n + 1);
            due("destroy of the newest", x.destroy(2 * n + 1), 1);
            due("content of the object", x.content(2 * n), n);
            due("destroy of the last", x.destroy(2 * n), 0);
            due("content of what is gone", x.content(2 * n), 0);
            due("destroy of what is gone", x.destroy(2 * n), NO_VERSION);
        }
    }

    private static void numbersAfterRefusedCalls() {
        reading = "Promises 4, 5, 9 with \"numbers go on growing\": refused calls take no number";
        BucketVersions x = fresh("0");
        x.begin();
        x.part(0, 3, 9);
        puts(x, 24);
        due("put", x.put(1), FULL);
        due("remove", x.remove(), FULL);
        due("complete", x.complete(0, 8), FULL);
        due("complete", x.complete(0, 16), BAD_PART);
        at(x, "");
        due("put", x.put(1), NO_KEY);
        due("expire(0)", x.expire(0), 23);
        due("complete", x.complete(0, 8), 24);
        due("content(24)", x.content(24), 9);
        due("put", at(x, "0").put(1), 25);
        dueVersions(x, 25, 24, 23);
    }

    private static void dueWithoutParts(BucketVersions x, int upload) {
        for (int number = 0; number < 8; number++) {
            due("complete of part " + number, x.complete(upload, 1 << number), BAD_PART);
        }
        due("complete of all parts", x.complete(upload, 255), BAD_PART);
    }

    private static void freedNumbers(boolean byComplete) {
        reading = "Promises 7 to 10: a number freed by " + (byComplete ? "complete" : "abort");
        for (int freed = 0; freed < 3; freed++) {
            BucketVersions x = fresh("1");
            for (int upload = 0; upload < 3; upload++) {
                x.begin();
                for (int number = 0; number < 8; number++) {
                    x.part(upload, number, upload * 8 + number);
                }
            }
            due("begin as the fourth", at(x, "2").begin(), FULL);
            due("its end", byComplete ? x.complete(freed, 1) : x.abort(freed), byComplete ? 0 : 8);
            due("part of what is gone", x.part(freed, 0, 1), BAD_UPLOAD);
            due("complete of what is gone", x.complete(freed, 1), BAD_UPLOAD);
            due("abort of what is gone", x.abort(freed), BAD_UPLOAD);
            due("begin", x.begin(), freed);
            dueWithoutParts(x, freed);
            due("part as its first", x.part(freed, 6, -5), 1);
            due("complete with an old part", x.complete(freed, 65), BAD_PART);
            int version = x.complete(freed, 64);
            due("complete", version, byComplete ? 1 : 0);
            dueVersions(x, version);
            due("get", x.get(), -5);
            due("begin again", x.begin(), freed);
            due("abort of one without parts", x.abort(freed), 0);
            for (int other = 0; other < 3; other++) {
                due("abort of upload " + other, x.abort(other), other == freed ? BAD_UPLOAD : 8);
            }
        }
    }

    private static void refusedEnds() {
        reading = "Promises 8 to 10: a refused complete leaves the upload with its parts";
        BucketVersions x = fresh("1");
        x.begin();
        x.part(0, 1, 4);
        x.part(0, 5, 6);
        puts(x, 24);
        due("complete", x.complete(0, 34), FULL);
        due("complete", x.complete(0, 35), BAD_PART);
        due("complete", x.complete(0, 0), BAD_PART);
        due("part instead of one", x.part(0, 5, 7), 2);
        due("begin", x.begin(), 1);
        due("destroy", x.destroy(3), 23);
        due("complete", x.complete(0, 34), 24);
        due("get", x.get(), 4 * 31 + 7);
        due("abort", x.abort(0), BAD_UPLOAD);
        due("abort of the other", x.abort(1), 0);
    }

    private static void uploadsApartFromVersions() {
        reading = "Promises 7 to 11: an upload is of its key, whatever becomes of the versions";
        BucketVersions x = fresh("31");
        x.put(1);
        x.begin();
        x.part(0, 0, 50);
        x.remove();
        due("expire(0) takes all away", x.expire(0), 2);
        dueNotPresent(x, "31");
        at(x, "");
        due("complete with an empty buffer", x.complete(0, 1), 2);
        duePresent(x, "31", 50);
        dueVersions(x, 2);
    }

    /** Key 1 has the versions 0, 3, 6, 9; key 15 has 1, 4, 7, 10; key 2 has 2, 5, 8 and the marker 11. */
    private static BucketVersions threeKeysInTurn() {
        BucketVersions x = new BucketVersions();
        for (int n = 0; n < 4; n++) {
            at(x, "1").put(10 + n);
            at(x, "15").put(20 + n);
            at(x, "2");
            if (n < 3) {
                x.put(30 + n);
            } else {
                x.remove();
            }
        }
        return x;
    }

    private static void expiredVersions() {
        reading = "Promise 11 with Promises 6 and 15: what is taken away";
        BucketVersions x = threeKeysInTurn();
        due("expire(3)", x.expire(3), 0);
        due("expire(1)", x.expire(1), 6);
        dueVersions(at(x, "1"), 9, 6);
        dueVersions(at(x, "15"), 10, 7);
        dueVersions(at(x, "2"), 11, 8);
        for (int version = 0; version < 6; version++) {
            due("content(" + version + ")", x.content(version), 0);
            due("destroy(" + version + ")", x.destroy(version), NO_VERSION);
        }
        due("expire(1) again", x.expire(1), 0);
        due("expire(0): the marker goes too", x.expire(0), 4);
        duePresent(x, "1", 13);
        dueVersions(x, 9);
        duePresent(x, "15", 23);
        dueVersions(x, 10);
        dueNotPresent(x, "2");
        dueVersions(x);
        due("expire(0) again", x.expire(0), 0);
        due("destroy(9)", x.destroy(9), 1);
        due("put", x.put(5), 12);
    }

    private static void expiredAfterDestroy() {
        reading = "Promise 11 with Promise 6: what was destroyed is not counted among the first ones";
        BucketVersions x = threeKeysInTurn();
        due("destroy(9)", x.destroy(9), 11);
        due("destroy(4)", x.destroy(4), 10);
        due("destroy(8)", x.destroy(8), 9);
        due("destroy(5)", x.destroy(5), 8);
        due("destroy(2)", x.destroy(2), 7);
        due("expire(1)", x.expire(1), 3);
        duePresent(x, "1", 12);
        dueVersions(x, 6, 3);
        duePresent(x, "15", 23);
        dueVersions(x, 10, 7);
        dueNotPresent(x, "2");
        dueVersions(x);
        due("content(11), the marker", x.content(11), 0);
        due("destroy(11)", x.destroy(11), NO_VERSION);
    }

    private static void expiredKeepsMarkersWithOthers() {
        reading = "Promise 11: a marker stays while another version is left behind or before it";
        BucketVersions x = fresh("1");
        x.put(1);
        x.remove();
        x.put(2);
        x.remove();
        due("expire(2)", x.expire(2), 1);
        dueVersions(x, 3, 2, 1);
        due("destroy(2)", x.destroy(2), 2);
        due("expire(1): two markers", x.expire(1), 0);
        dueVersions(x, 3, 1);
        due("expire(0): both, one as the lone one", x.expire(0), 2);
        dueVersions(x);
    }

    private static void expiredMakesRoom() {
        reading = "Promise 11 with \"At most 24 versions\"";
        BucketVersions x = new BucketVersions();
        for (String key : new String[] {"0", "1", "2"}) {
            puts(at(x, key), 8);
        }
        due("put", x.put(1), FULL);
        due("expire(24)", x.expire(24), 0);
        due("put", x.put(1), FULL);
        due("expire(6)", x.expire(6), 3);
        for (int n = 0; n < 3; n++) {
            due("put", x.put(n), 24 + n);
        }
        due("put", x.put(1), FULL);
        due("destroy", x.destroy(24), 23);
    }

    /** The listing, read off the document over plain text. */
    private static List<Integer> listing(String buffer, boolean folders) {
        List<Integer> entries = new ArrayList<>();
        for (String key : new TreeSet<>(List.of(MANY_KEYS))) {
            if (key.startsWith(buffer)) {
                int five = key.indexOf('5', buffer.length());
                int entry = sum(folders && five >= 0 ? key.substring(0, five + 1) : key);
                if (!entries.contains(entry)) {
                    entries.add(entry);
                }
            }
        }
        return entries;
    }

    private static void dueListing(BucketVersions x, String buffer, boolean folders) {
        List<Integer> want = listing(buffer, folders);
        due("list(" + folders + ") at '" + buffer + "'", x.list(folders), want.size());
        for (int i = -2; i < 30; i++) {
            boolean isThere = i >= 0 && i < want.size();
            due("entry(" + i + ", " + folders + ") at '" + buffer + "'", x.entry(i, folders),
                isThere ? want.get(i) : NONE);
        }
        for (int i : new int[] {Integer.MIN_VALUE, Integer.MAX_VALUE}) {
            due("entry(" + i + ", " + folders + ") at '" + buffer + "'", x.entry(i, folders), NONE);
        }
    }

    private static void listingsOfEachBuffer() {
        reading = "Promises 16 and 17: entries 0 to list - 1 are there, and no others";
        List<String> buffers = new ArrayList<>(List.of(""));
        for (int n = 0; n < buffers.size(); n++) {
            String buffer = buffers.get(n);
            BucketVersions x = new BucketVersions();
            for (String key : MANY_KEYS) {
                at(x, key).put(1);
            }
            at(x, buffer);
            dueListing(x, buffer, false);
            dueListing(x, buffer, true);
            for (int letter = 0; letter <= 5 && buffer.length() < 4; letter++) {
                buffers.add(buffer + letter);
            }
        }
        due("buffers of up to four letters", buffers.size(), 1 + 6 + 36 + 216 + 1296);
    }

    private static void listingOf24Keys() {
        reading = "Promises 16 and 17: as many entries as there can be";
        BucketVersions x = new BucketVersions();
        for (int n = 23; n >= 0; n--) {
            at(x, "" + n / 6 + n % 6).put(n);
        }
        at(x, "");
        due("list(false)", x.list(false), 24);
        for (int n = 0; n < 24; n++) {
            due("entry(" + n + ", false)", x.entry(n, false), sum("" + n / 6 + n % 6));
        }
        due("entry(24, false)", x.entry(24, false), NONE);
        due("list(true): each folder has one key", x.list(true), 24);
        due("entry(23, true)", x.entry(23, true), sum("35"));
        due("entry(24, true)", x.entry(24, true), NONE);
    }

    public static void main(String[] args) {
        destroyedMarker();
        destroyedObjects();
        destroyedBehindTheNewest();
        destroyedElsewhere();
        destroyedInAFolder();
        numbersAfterDestroy();
        numbersAfterRefusedCalls();
        freedNumbers(true);
        freedNumbers(false);
        refusedEnds();
        uploadsApartFromVersions();
        expiredVersions();
        expiredAfterDestroy();
        expiredKeepsMarkersWithOthers();
        expiredMakesRoom();
        listingsOfEachBuffer();
        listingOf24Keys();
        System.out.println(wrong == 0 ? "all answers are as due" : wrong + " answers are not as due");
        if (wrong != 0) {
            System.exit(1);
        }
    }
}
