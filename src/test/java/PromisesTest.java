import java.util.ArrayList;
import java.util.List;

/** Each promise of the document by itself: ordinary inputs, the edges it names, and wrong inputs. */
public final class PromisesTest {
    private static final int BAD_LETTER = BucketVersions.BAD_LETTER;
    private static final int FULL = BucketVersions.FULL;
    private static final int NO_KEY = BucketVersions.NO_KEY;
    private static final int NO_VERSION = BucketVersions.NO_VERSION;
    private static final int BAD_UPLOAD = BucketVersions.BAD_UPLOAD;
    private static final int BAD_PART = BucketVersions.BAD_PART;
    private static final int NONE = BucketVersions.NONE;
    private static final int MIN = Integer.MIN_VALUE;
    private static final int MAX = Integer.MAX_VALUE;

    private static int wrong = 0;

    private static void due(String what, int got, int want) {
        if (got != want) {
            wrong++;
            System.out.println(what + " answered " + got + ", due is " + want);
        }
    }

    private static void due(String what, boolean got, boolean want) {
        due(what, got ? 1 : 0, want ? 1 : 0);
    }

    private static void due(String what, Object got, Object want) {
        if (!got.equals(want)) {
            wrong++;
            System.out.println(what + " answered " + got + ", due is " + want);
        }
    }

    /** Makes the buffer hold just these letters. */
    private static BucketVersions at(BucketVersions x, String letters) {
        x.erase();
        for (char letter : letters.toCharArray()) {
            x.type(letter - '0');
        }
        return x;
    }

    private static BucketVersions withKeys(String... keys) {
        BucketVersions x = new BucketVersions();
        for (String key : keys) {
            at(x, key).put(1);
        }
        return x;
    }

    /** A store with n object versions of the key 0, contents 100 and up; the buffer holds that key. */
    private static BucketVersions withVersions(int n) {
        BucketVersions x = at(new BucketVersions(), "0");
        for (int i = 0; i < n; i++) {
            due("put " + i, x.put(100 + i), i);
        }
        return x;
    }

    private static int sum(String letters) {
        int sum = 0;
        int weight = 1;
        for (char letter : letters.toCharArray()) {
            sum += (letter - '0' + 1) * weight;
            weight *= 7;
        }
        return sum;
    }

    private static void dueListing(String what, BucketVersions x, boolean folders, String... entries) {
        due(what + ": list", x.list(folders), entries.length);
        List<Integer> got = new ArrayList<>();
        List<Integer> want = new ArrayList<>();
        for (int i = 0; i < entries.length; i++) {
            got.add(x.entry(i, folders));
            want.add(sum(entries[i]));
        }
        due(what + ": entries", got, want);
        due(what + ": entry behind the last", x.entry(entries.length, folders), NONE);
    }

    private static void dueVersions(String what, BucketVersions x, Integer... numbers) {
        List<Integer> got = new ArrayList<>();
        for (int i = 0; i <= 24 && x.versionAt(i) != NONE; i++) {
            got.add(x.versionAt(i));
        }
        due(what, got, List.of(numbers));
    }

    private static void promise1NewObject() {
        BucketVersions x = new BucketVersions();
        due("1: list", x.list(false), 0);
        due("1: list folders", x.list(true), 0);
        due("1: entry", x.entry(0, false), NONE);
        due("1: content", x.content(0), 0);
        due("1: destroy", x.destroy(0), NO_VERSION);
        due("1: expire", x.expire(0), 0);
        for (int upload = 0; upload < 3; upload++) {
            due("1: no upload " + upload, x.abort(upload), BAD_UPLOAD);
        }
        due("1: put with the empty buffer", x.put(1), NO_KEY);
        due("1: first letter", x.type(0), 1);
        due("1: first version", x.put(1), 0);
        due("1: first upload", x.begin(), 0);
        BucketVersions other = at(new BucketVersions(), "0");
        due("1: objects share nothing", other.present(), false);
        due("1: objects share no numbers", other.put(1), 0);
    }

    private static void promise2Type() {
        BucketVersions x = new BucketVersions();
        for (int letter : new int[] {-1, 6, 7, MIN, MAX}) {
            due("2: type(" + letter + ")", x.type(letter), BAD_LETTER);
        }
        due("2: a bad letter leaves the buffer empty", x.put(1), NO_KEY);
        due("2: type(5)", x.type(5), 1);
        due("2: type(0)", x.type(0), 2);
        due("2: type(6)", x.type(6), BAD_LETTER);
        due("2: type(4)", x.type(4), 3);
        due("2: type(1)", x.type(1), 4);
        due("2: a fifth letter", x.type(2), FULL);
        due("2: a fifth letter again", x.type(0), FULL);
        x.put(7);
        x.erase();
        dueListing("2: the letters typed", x, false, "5041");
    }

    private static void promise3Erase() {
        BucketVersions x = at(new BucketVersions(), "0123");
        x.put(9);
        x.begin();
        x.erase();
        due("3: put after erase", x.put(1), NO_KEY);
        due("3: present after erase", x.present(), false);
        due("3: type after erase", x.type(3), 1);
        due("3: the old letters are gone", x.put(1), 1);
        x.erase();
        x.erase();
        dueListing("3: versions stay", x, false, "0123", "3");
        due("3: uploads stay", x.abort(0), 0);
    }

    private static void promise4Put() {
        BucketVersions x = new BucketVersions();
        due("4: empty buffer", x.put(1), NO_KEY);
        at(x, "12");
        due("4: the first", x.put(MIN), 0);
        due("4: again", x.put(MAX), 1);
        due("4: numbers go over all keys", at(x, "1").put(-3), 2);
        due("4: content", x.content(0), MIN);
        due("4: content of the same key", x.content(1), MAX);
        due("4: content of another key", x.content(2), -3);
        x.destroy(2);
        due("4: no number comes twice", x.put(4), 3);
        x.remove();
        due("4: put over a marker", x.put(5), 5);
        due("4: present again", x.get(), 5);
        due("4: the buffer stays", x.type(0), 2);

        x = withVersions(23);
        due("4: the 24th", x.put(1), 23);
        due("4: the 25th", x.put(2), FULL);
        due("4: the 25th of another key", at(x, "5").put(2), FULL);
        due("4: nothing changed", x.present(), false);
        x.destroy(3);
        due("4: FULL takes no number", x.put(3), 24);
        due("4: full again", x.put(3), FULL);
    }

    private static void promise5Remove() {
        BucketVersions x = new BucketVersions();
        due("5: empty buffer", x.remove(), NO_KEY);
        at(x, "3");
        due("5: no version", x.remove(), NO_KEY);
        x.put(8);
        due("5: remove", x.remove(), 1);
        due("5: not present", x.present(), false);
        due("5: a marker has no content", x.content(1), 0);
        due("5: the object stays", x.content(0), 8);
        due("5: remove again", x.remove(), NO_KEY);
        dueVersions("5: the marker is a version", x, 1, 0);
        due("5: a longer key is another one", at(x, "30").remove(), NO_KEY);
        due("5: no number was taken", x.put(1), 2);

        x = withVersions(24);
        due("5: full", x.remove(), FULL);
        due("5: still present", x.get(), 123);
        x.destroy(0);
        due("5: as the 24th", x.remove(), 24);
    }

    private static void promise6Destroy() {
        BucketVersions x = at(new BucketVersions(), "1");
        x.put(10);
        x.put(11);
        x.remove();
        at(x, "2").put(20);
        for (int version : new int[] {-1, 4, MIN, MAX}) {
            due("6: destroy(" + version + ")", x.destroy(version), NO_VERSION);
        }
        due("6: a marker of another key", x.destroy(2), 3);
        due("6: the key is present again", at(x, "1").get(), 11);
        due("6: not there any more", x.destroy(2), NO_VERSION);
        due("6: an older one", x.destroy(0), 2);
        due("6: its content is gone", x.content(0), 0);
        dueVersions("6: what is left of the key", x, 1);
        due("6: what is left of the other key", x.content(3), 20);
        due("6: the current one", x.destroy(1), 1);
        due("6: not present", x.present(), false);
        due("6: the last one", x.destroy(3), 0);
        due("6: numbers go on", x.put(1), 4);

        x = withVersions(24);
        due("6: the last of 24", x.destroy(23), 23);
        due("6: the first of 24", x.destroy(0), 22);
        due("6: the newest now", x.get(), 122);
    }

    private static void promise7Begin() {
        BucketVersions x = new BucketVersions();
        due("7: empty buffer", x.begin(), NO_KEY);
        at(x, "4");
        due("7: first", x.begin(), 0);
        due("7: second, of the same key", x.begin(), 1);
        due("7: third", at(x, "5").begin(), 2);
        due("7: fourth", x.begin(), FULL);
        due("7: begin makes no version", x.present(), false);
        x.part(1, 3, 9);
        due("7: FULL changes nothing", x.abort(1), 1);
        due("7: the free number", x.begin(), 1);
        due("7: without parts", x.complete(1, 8), BAD_PART);
        x.abort(2);
        x.abort(0);
        due("7: the smallest free number", x.begin(), 0);
        due("7: then the other one", x.begin(), 2);
        due("7: full again", x.begin(), FULL);

        x = withVersions(24);
        due("7: versions don't hinder it", x.begin(), 0);
    }

    private static void promise8Part() {
        BucketVersions x = at(new BucketVersions(), "0");
        due("8: no upload yet", x.part(0, 0, 1), BAD_UPLOAD);
        x.begin();
        for (int upload : new int[] {-1, 1, 2, 3, MIN, MAX}) {
            due("8: part(" + upload + ", 0, 1)", x.part(upload, 0, 1), BAD_UPLOAD);
        }
        for (int number : new int[] {-1, 8, 32, MIN, MAX}) {
            due("8: part(0, " + number + ", 1)", x.part(0, number, 1), BAD_PART);
        }
        due("8: the last number", x.part(0, 7, 70), 1);
        due("8: the first number", x.part(0, 0, 10), 2);
        due("8: instead of one", x.part(0, 7, 71), 2);
        due("8: the bad ones left nothing", x.complete(0, 129), 0);
        due("8: the later value counts", x.get(), 10 * 31 + 71);
        due("8: the upload has ended", x.part(0, 0, 1), BAD_UPLOAD);

        x.begin();
        x.begin();
        x.begin();
        for (int number = 0; number < 8; number++) {
            for (int upload = 0; upload < 3; upload++) {
                due("8: all parts", x.part(upload, number, upload * 10 + number), number + 1);
            }
        }
        for (int upload = 0; upload < 3; upload++) {
            x.complete(upload, 1 | 128);
            due("8: each upload has its own parts", x.get(), upload * 10 * 31 + upload * 10 + 7);
        }
    }

    private static void promise9Complete() {
        BucketVersions x = at(new BucketVersions(), "01");
        due("9: no upload", x.complete(0, 1), BAD_UPLOAD);
        x.begin();
        for (int upload : new int[] {-1, 1, 3, MIN, MAX}) {
            due("9: complete(" + upload + ", 1)", x.complete(upload, 1), BAD_UPLOAD);
        }
        x.part(0, 2, 5);
        x.part(0, 0, 3);
        x.part(0, 7, -4);
        for (int parts : new int[] {0, 256, MIN, 2, 3, 255, -1}) {
            due("9: complete(0, " + parts + ")", x.complete(0, parts), BAD_PART);
        }
        at(x, "4");
        due("9: complete", x.complete(0, 133), 0);
        due("9: not of the buffer's key", x.present(), false);
        due("9: of its own key", at(x, "01").get(), (3 * 31 + 5) * 31 - 4);
        due("9: the upload is gone", x.complete(0, 133), BAD_UPLOAD);
        due("9: its number is free", x.begin(), 0);

        x.part(0, 1, 6);
        x.part(0, 4, 9);
        due("9: bits behind the eight don't count", x.complete(0, 16 | 256 | MIN), 1);
        due("9: parts not asked for are left out", x.get(), 9);
        dueVersions("9: a version over the old one", x, 1, 0);

        x.begin();
        int content = 0;
        for (int number = 0; number < 8; number++) {
            x.part(0, number, MAX - number);
            content = content * 31 + (MAX - number);
        }
        due("9: all eight", x.complete(0, -1), 2);
        due("9: wrapping", x.get(), content);
    }

    private static void promise9CompleteWhenFull() {
        BucketVersions x = withVersions(24);
        x.begin();
        x.part(0, 0, 77);
        due("9: full", x.complete(0, 1), FULL);
        due("9: full again, the upload stays", x.complete(0, 1), FULL);
        due("9: its parts stay", x.part(0, 1, 1), 2);
        x.destroy(5);
        due("9: room again", x.complete(0, 1), 24);
        due("9: the content", x.get(), 77);

        x = at(new BucketVersions(), "2");
        x.put(1);
        x.remove();
        x.begin();
        x.part(0, 0, 8);
        due("9: over a marker", x.complete(0, 1), 2);
        due("9: present again", x.get(), 8);
    }

    private static void promise10Abort() {
        BucketVersions x = at(new BucketVersions(), "2");
        x.begin();
        x.begin();
        for (int upload : new int[] {-1, 2, 3, MIN, MAX}) {
            due("10: abort(" + upload + ")", x.abort(upload), BAD_UPLOAD);
        }
        x.part(1, 0, 1);
        x.part(1, 5, 1);
        x.part(1, 5, 2);
        due("10: without parts", x.abort(0), 0);
        due("10: with two parts", x.abort(1), 2);
        due("10: again", x.abort(1), BAD_UPLOAD);
        due("10: part of it", x.part(1, 0, 1), BAD_UPLOAD);
        due("10: complete it", x.complete(1, 1), BAD_UPLOAD);
        due("10: no version was made", x.present(), false);
        x.begin();
        due("10: the parts don't come back", x.abort(0), 0);
        x.begin();
        for (int number = 0; number < 8; number++) {
            x.part(0, number, 0);
        }
        due("10: with all parts", x.abort(0), 8);
        x.begin();
        x.part(0, 0, 1);
        x.complete(0, 1);
        due("10: after complete", x.abort(0), BAD_UPLOAD);
    }

    private static void promise11Expire() {
        BucketVersions x = withVersions(6);
        at(x, "1").put(1);
        x.put(2);
        due("11: more than there are", x.expire(5), 0);
        due("11: keep 3", x.expire(3), 2);
        dueVersions("11: the short key stays", x, 7, 6);
        dueVersions("11: the newest four", at(x, "0"), 5, 4, 3, 2);
        due("11: keep below 0", x.expire(-1), 4);
        dueVersions("11: the newest one", x, 5);
        dueVersions("11: of each key", at(x, "1"), 7);
        due("11: least keep", x.expire(MIN), 0);

        x = withVersions(24);
        due("11: keep 24", x.expire(24), 0);
        due("11: keep 23", x.expire(23), 0);
        due("11: keep 25", x.expire(25), 0);
        due("11: greatest keep", x.expire(MAX), 0);
        due("11: keep 22", x.expire(22), 1);
        due("11: the oldest went", x.content(0), 0);
        due("11: least keep of many", x.expire(MIN), 22);
        due("11: the newest stays", x.get(), 123);

        x = new BucketVersions();
        for (int i = 0; i < 12; i++) {
            at(x, i % 2 == 0 ? "0" : "00").put(i);
        }
        due("11: keys in turn", x.expire(1), 8);
        dueVersions("11: the one key", at(x, "0"), 10, 8);
        dueVersions("11: the other key", at(x, "00"), 11, 9);
    }

    private static void promise11ExpireMarkers() {
        BucketVersions x = at(new BucketVersions(), "0");
        x.put(1);
        x.remove();
        due("11: a marker with an object behind it", x.expire(1), 0);
        due("11: the marker goes too", x.expire(0), 2);
        dueVersions("11: nothing is left", x);
        due("11: numbers go on", x.put(5), 2);

        x.remove();
        x.destroy(2);
        dueVersions("11: a lone marker", x, 3);
        due("11: goes whatever is kept", x.expire(24), 1);
        dueVersions("11: it is gone", x);

        x.put(1);
        x.remove();
        x.put(2);
        due("11: a marker that isn't left", x.expire(0), 2);
        due("11: the object stays", x.get(), 2);

        x = at(new BucketVersions(), "0");
        x.put(1);
        x.remove();
        x.put(2);
        x.remove();
        x.destroy(2);
        due("11: two markers", x.expire(1), 1);
        dueVersions("11: both stay", x, 3, 1);
        due("11: one kept marker goes too", x.expire(0), 2);

        x = new BucketVersions();
        for (String key : new String[] {"1", "2", "3"}) {
            at(x, key).put(1);
            x.remove();
        }
        at(x, "4").put(44);
        at(x, "2").begin();
        due("11: markers of several keys", x.expire(0), 6);
        due("11: another key stays", at(x, "4").get(), 44);
        due("11: an upload stays", x.abort(0), 0);
    }

    private static void promise12Get() {
        BucketVersions x = new BucketVersions();
        due("12: empty buffer", x.get(), 0);
        at(x, "1").put(6);
        x.put(-7);
        due("12: the newest", x.get(), -7);
        x.destroy(1);
        due("12: the one behind", x.get(), 6);
        x.remove();
        due("12: a marker", x.get(), 0);
        x.destroy(2);
        due("12: without the marker", x.get(), 6);
        due("12: a longer key", at(x, "11").get(), 0);
        due("12: empty buffer of a full store", at(x, "").get(), 0);
        due("12: a key beginning with 0 is another one", at(x, "01").get(), 0);
    }

    private static void promise13Present() {
        BucketVersions x = new BucketVersions();
        due("13: empty buffer", x.present(), false);
        at(x, "0");
        due("13: no version", x.present(), false);
        x.put(0);
        due("13: content 0", x.present(), true);
        due("13: a longer key", at(x, "00").present(), false);
        due("13: empty buffer, keys there", at(x, "").present(), false);
        at(x, "0").remove();
        due("13: a marker", x.present(), false);
        x.put(1);
        due("13: over a marker", x.present(), true);
        x.destroy(2);
        due("13: back to the marker", x.present(), false);
        x.destroy(1);
        due("13: back to the object", x.present(), true);
        x.destroy(0);
        due("13: nothing left", x.present(), false);
    }

    private static void promise14Content() {
        BucketVersions x = at(new BucketVersions(), "0");
        x.put(40);
        x.put(41);
        x.remove();
        at(x, "1").put(43);
        at(x, "");
        due("14: an older one", x.content(0), 40);
        due("14: a newer one", x.content(1), 41);
        due("14: a marker", x.content(2), 0);
        due("14: of another key", x.content(3), 43);
        for (int version : new int[] {-1, 4, 24, MIN, MAX}) {
            due("14: content(" + version + ")", x.content(version), 0);
        }
        x.destroy(0);
        due("14: destroyed", x.content(0), 0);
        due("14: the one behind", x.content(1), 41);
        x = at(new BucketVersions(), "0");
        for (int i = 0; i < 60; i++) {
            due("14: numbers grow past 24", x.put(1000 + i), i);
            due("14: content of a great number", x.content(i), 1000 + i);
            x.expire(0);
        }
    }

    private static void promise15VersionAt() {
        BucketVersions x = new BucketVersions();
        due("15: empty buffer", x.versionAt(0), NONE);
        at(x, "0").put(1);
        at(x, "1").put(1);
        at(x, "0").remove();
        at(x, "1").put(1);
        at(x, "0").put(1);
        dueVersions("15: with a marker between", x, 4, 2, 0);
        for (int i : new int[] {-1, 3, 24, MIN, MAX}) {
            due("15: versionAt(" + i + ")", x.versionAt(i), NONE);
        }
        x.destroy(2);
        dueVersions("15: one less", x, 4, 0);
        dueVersions("15: the other key", at(x, "1"), 3, 1);
        due("15: a longer key", at(x, "10").versionAt(0), NONE);
        due("15: empty buffer, keys there", at(x, "").versionAt(0), NONE);
        x = withVersions(24);
        due("15: the oldest of 24", x.versionAt(23), 0);
        due("15: none behind it", x.versionAt(24), NONE);
    }

    private static void promise16List() {
        BucketVersions x = withKeys("3", "0123", "01", "012", "5", "0", "11", "1", "015");
        dueListing("16: all", at(x, ""), false, "0", "01", "012", "0123", "015", "1", "11", "3", "5");
        dueListing("16: buffer 0", at(x, "0"), false, "0", "01", "012", "0123", "015");
        dueListing("16: buffer 01", at(x, "01"), false, "01", "012", "0123", "015");
        dueListing("16: buffer 0123", at(x, "0123"), false, "0123");
        dueListing("16: buffer 2", at(x, "2"), false);
        dueListing("16: buffer 0124", at(x, "0124"), false);
        at(x, "01").remove();
        dueListing("16: buffer not present", x, false, "012", "0123", "015");
        at(x, "012").put(1);
        at(x, "012").put(1);
        dueListing("16: a key of several versions", at(x, "01"), false, "012", "0123", "015");
        x.destroy(9);
        dueListing("16: present again", x, false, "01", "012", "0123", "015");

        x = new BucketVersions();
        String[] keys = new String[24];
        for (int i = 0; i < 24; i++) {
            keys[i] = "" + i / 5 + i % 5;
            at(x, keys[i]).put(0);
        }
        dueListing("16: 24 keys", at(x, ""), false, keys);
        dueListing("16: 24 keys with folders", at(x, ""), true, keys);
    }

    private static void promise16Folders() {
        BucketVersions x = withKeys("05", "0532", "0525", "051", "04", "0", "1505", "15", "1", "5", "55", "45");
        dueListing("16: folders of all", at(x, ""), true, "0", "04", "05", "1", "15", "45", "5");
        dueListing("16: without folders", at(x, ""), false,
            "0", "04", "05", "051", "0525", "0532", "1", "15", "1505", "45", "5", "55");
        dueListing("16: folders behind 0", at(x, "0"), true, "0", "04", "05");
        dueListing("16: a 5 in the buffer doesn't count", at(x, "05"), true, "05", "051", "0525", "0532");
        dueListing("16: folders behind 052", at(x, "052"), true, "0525");
        dueListing("16: folders behind 15", at(x, "15"), true, "15", "1505");
        dueListing("16: folders behind 5", at(x, "5"), true, "5", "55");
        dueListing("16: a full buffer", at(x, "0525"), true, "0525");

        x = withKeys("0501", "0502", "0550", "5555", "5", "0", "1115", "1125");
        dueListing("16: a folder that is no key", at(x, ""), true, "0", "05", "1115", "1125", "5");
        dueListing("16: the first 5 counts", at(x, "05"), true, "0501", "0502", "055");
        dueListing("16: 5 behind 5", at(x, "5"), true, "5", "55");
        at(x, "0501").remove();
        at(x, "0502").remove();
        dueListing("16: a folder with one present key", at(x, ""), true, "0", "05", "1115", "1125", "5");
        at(x, "0550").remove();
        dueListing("16: a folder without present keys", at(x, ""), true, "0", "1115", "1125", "5");
    }

    private static void promise17Entry() {
        BucketVersions x = withKeys("0", "5555", "1234", "05");
        for (boolean folders : new boolean[] {false, true}) {
            for (int i : new int[] {-1, 4, 23, 24, 25, MIN, MAX}) {
                due("17: entry(" + i + ", " + folders + ")", at(x, "").entry(i, folders), NONE);
            }
        }
        due("17: one letter", x.entry(0, false), 1);
        due("17: two letters", x.entry(1, false), 1 + 6 * 7);
        due("17: four letters", x.entry(2, false), 2 + 3 * 7 + 4 * 49 + 5 * 343);
        due("17: the greatest", x.entry(3, false), 6 + 6 * 7 + 6 * 49 + 6 * 343);
        due("17: a folder", x.entry(3, true), 6);
        due("17: with the buffer's letters", at(x, "12").entry(0, false), 2 + 3 * 7 + 4 * 49 + 5 * 343);
        due("17: a folder with the buffer's letters", at(x, "55").entry(0, true), 6 + 6 * 7 + 6 * 49);
        due("17: an empty listing", at(x, "4").entry(0, false), NONE);
    }

    private static void promise18Order() {
        BucketVersions x = withVersions(24);
        at(x, "0000");
        due("18: BAD_LETTER before FULL", x.type(6), BAD_LETTER);
        due("18: remove: NO_KEY before FULL", x.remove(), NO_KEY);
        at(x, "0").begin();
        x.begin();
        x.begin();
        at(x, "");
        due("18: put: NO_KEY before FULL", x.put(1), NO_KEY);
        due("18: remove, empty: NO_KEY before FULL", x.remove(), NO_KEY);
        due("18: begin: NO_KEY before FULL", x.begin(), NO_KEY);
        due("18: part: BAD_UPLOAD before BAD_PART", x.part(3, 8, 0), BAD_UPLOAD);
        due("18: complete: BAD_UPLOAD before BAD_PART and FULL", x.complete(-1, 0), BAD_UPLOAD);
        due("18: complete: BAD_PART before FULL", x.complete(0, 0), BAD_PART);
        due("18: complete, missing: BAD_PART before FULL", x.complete(0, 1), BAD_PART);
        x.part(0, 0, 1);
        due("18: complete: FULL", x.complete(0, 1), FULL);

        x = withKeys("0", "1", "2", "1");
        due("18: destroy counts the versions of all keys", x.destroy(0), 3);
        at(x, "2").remove();
        due("18: destroy counts markers", x.destroy(1), 3);
    }

    /** Terms: the calls from get on change nothing. */
    private static void queriesChangeNothing() {
        BucketVersions x = withKeys("0", "05", "051");
        at(x, "0").begin();
        x.part(0, 0, 5);
        for (int round = 0; round < 3; round++) {
            due("get", x.get(), 1);
            due("present", x.present(), true);
            due("content", x.content(2), 1);
            dueVersions("versions", x, 0);
            dueListing("keys", x, false, "0", "05", "051");
            dueListing("folders", x, true, "0", "05");
        }
        due("the buffer stays", x.type(5), 2);
        due("the upload stays", x.complete(0, 1), 3);
        due("the versions stay", x.destroy(3), 3);
    }

    public static void main(String[] args) {
        promise1NewObject();
        promise2Type();
        promise3Erase();
        promise4Put();
        promise5Remove();
        promise6Destroy();
        promise7Begin();
        promise8Part();
        promise9Complete();
        promise9CompleteWhenFull();
        promise10Abort();
        promise11Expire();
        promise11ExpireMarkers();
        promise12Get();
        promise13Present();
        promise14Content();
        promise15VersionAt();
        promise16List();
        promise16Folders();
        promise17Entry();
        promise18Order();
        queriesChangeNothing();
        System.out.println(wrong == 0 ? "all answers are as due" : wrong + " answers are not as due");
        if (wrong != 0) {
            System.exit(1);
        }
    }
}
