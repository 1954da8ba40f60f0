import java.util.ArrayList;
import java.util.List;
import java.util.function.Consumer;
import java.util.function.ToIntFunction;

/**
 * A test for each sentence of the document that names a boundary case: too small, too large, empty,
 * full, a wrap-around, a refused call. A test bears its sentence as its name.
 */
public final class BoundariesTest {
    private static final int BAD_LETTER = -1;
    private static final int FULL = -2;
    private static final int NO_KEY = -3;
    private static final int NO_VERSION = -4;
    private static final int BAD_UPLOAD = -5;
    private static final int BAD_PART = -6;
    private static final int NONE = -7;
    private static final int MIN = Integer.MIN_VALUE;
    private static final int MAX = Integer.MAX_VALUE;

    private static final int[] NO_UPLOADS = {-1, 3, 4, 8, 32, MIN, MAX};
    private static final int[] NO_PARTS = {-1, 8, 9, 31, 32, 39, MIN, MAX};

    private static String sentence = "";
    private static int tests = 0;
    private static int wrong = 0;

    /** The class with a look at the calls: the document tells nothing of an object after 512 of them. */
    private static final class Store {
        private final BucketVersions inner = new BucketVersions();
        private int calls = 0;

        private BucketVersions used() {
            calls++;
            if (calls > 512) {
                throw new IllegalStateException("this test uses an object for more than 512 calls");
            }
            return inner;
        }

        int type(int letter) {
            return used().type(letter);
        }

        void erase() {
            used().erase();
        }

        int put(int content) {
            return used().put(content);
        }

        int remove() {
            return used().remove();
        }

        int destroy(int version) {
            return used().destroy(version);
        }

        int begin() {
            return used().begin();
        }

        int part(int upload, int number, int value) {
            return used().part(upload, number, value);
        }

        int complete(int upload, int parts) {
            return used().complete(upload, parts);
        }

        int abort(int upload) {
            return used().abort(upload);
        }

        int expire(int keep) {
            return used().expire(keep);
        }

        int get() {
            return used().get();
        }

        int present() {
            return used().present() ? 1 : 0;
        }

        int content(int version) {
            return used().content(version);
        }

        int versionAt(int i) {
            return used().versionAt(i);
        }

        int list(boolean folders) {
            return used().list(folders);
        }

        int entry(int i, boolean folders) {
            return used().entry(i, folders);
        }

        /** Makes the buffer hold just these letters. */
        Store at(String letters) {
            erase();
            for (char letter : letters.toCharArray()) {
                type(letter - '0');
            }
            return this;
        }

        Store puts(int times) {
            for (int i = 0; i < times; i++) {
                put(100 + i);
            }
            return this;
        }

        Store begins(int times) {
            for (int i = 0; i < times; i++) {
                begin();
            }
            return this;
        }
    }

    private static Store fresh(String letters) {
        return new Store().at(letters);
    }

    private static Store withKeys(String... keys) {
        Store x = new Store();
        for (String key : keys) {
            x.at(key).put(1);
        }
        return x.at("");
    }

    private static void fault(String what) {
        wrong++;
        System.out.println(sentence + ": " + what);
    }

    private static void due(String call, Object got, Object want) {
        if (!got.equals(want)) {
            fault(call + " answered " + got + ", due is " + want);
        }
    }

    private static void test(String name, Runnable body) {
        sentence = name;
        tests++;
        try {
            body.run();
        } catch (RuntimeException thrown) {
            fault("a call threw " + thrown);
        }
    }

    private static int sum(String letters) {
        int sum = 0;
        int weight = 1;
        for (char letter : letters.toCharArray()) {
            sum += (letter - '0' + 1) * weight;
            weight *= 7;
        }
        return sum;
    }

    private static List<Integer> entries(Store x, boolean folders) {
        List<Integer> entries = new ArrayList<>();
        for (int i = 0; i <= 24; i++) {
            int entry = x.entry(i, folders);
            if (entry == NONE) {
                break;
            }
            entries.add(entry);
        }
        return entries;
    }

    private static void dueListing(Store x, boolean folders, String... keys) {
        List<Integer> want = new ArrayList<>();
        for (String key : keys) {
            want.add(sum(key));
        }
        due("entry(0, 1, .., " + folders + ")", entries(x, folders), want);
        due("list(" + folders + ")", x.list(folders), keys.length);
    }

    private static List<Integer> versions(Store x) {
        List<Integer> numbers = new ArrayList<>();
        for (int i = 0; i <= 24; i++) {
            int number = x.versionAt(i);
            if (number == NONE) {
                break;
            }
            numbers.add(number);
        }
        return numbers;
    }

    private static void dueVersions(Store x, Integer... numbers) {
        due("versionAt(0, 1, ..)", versions(x), List.of(numbers));
    }

    // What later calls tell of an object. Some of them change it, so each of these three looks at an
    // object of its own.

    private static List<Object> seenByAsking(Store x) {
        List<Object> seen = new ArrayList<>();
        seen.add(x.get());
        seen.add(x.present());
        seen.add(versions(x));
        for (int version = 0; version < 30; version++) {
            seen.add(x.content(version));
        }
        for (int n = 0; n < 2; n++) {
            for (boolean folders : new boolean[] {false, true}) {
                seen.add(x.list(folders));
                seen.add(entries(x, folders));
            }
            // The length of the buffer, and then the listings of all keys.
            seen.add(x.type(0));
            x.erase();
        }
        return seen;
    }

    private static List<Object> seenByMaking(Store x) {
        List<Object> seen = new ArrayList<>();
        seen.add(x.put(7));
        seen.add(x.remove());
        for (int version = 0; version < 30; version++) {
            seen.add(x.destroy(version));
        }
        x.at("3");
        seen.add(x.put(7));
        for (int n = 0; n < 4; n++) {
            seen.add(x.begin());
        }
        for (int upload = 0; upload < 3; upload++) {
            seen.add(x.abort(upload));
        }
        return seen;
    }

    private static List<Object> seenByCompleting(Store x, int number) {
        List<Object> seen = new ArrayList<>();
        for (int version = 0; version < 30; version++) {
            x.destroy(version);
        }
        for (int upload = 0; upload < 3; upload++) {
            int version = x.complete(upload, 1 << number);
            seen.add(version);
            seen.add(x.content(version));
        }
        x.erase();
        seen.add(entries(x, false));
        return seen;
    }

    private static List<Object> seenOf(Consumer<Store> calls) {
        List<Object> seen = new ArrayList<>();
        for (int look = 0; look < 10; look++) {
            Store x = new Store();
            calls.accept(x);
            seen.add(look == 8 ? seenByAsking(x) : look == 9 ? seenByMaking(x) : seenByCompleting(x, look));
        }
        return seen;
    }

    /** The call gives this answer, and all that can be seen later is as if it had not been made. */
    private static void refused(String what, Consumer<Store> setup, ToIntFunction<Store> call, int answer) {
        unchanged(what, setup, x -> due(what, call.applyAsInt(x), answer));
    }

    private static void unchanged(String what, Consumer<Store> setup, Consumer<Store> calls) {
        List<Object> want = seenOf(setup);
        List<Object> got = seenOf(setup.andThen(calls));
        if (!got.equals(want)) {
            fault(what + " changed something: seen is " + got + ", due is " + want);
        }
    }

    /** Six versions of four keys, one of which ends in a marker, and three uploads; the buffer holds 05. */
    private static void busy(Store x) {
        x.at("1").put(10);
        x.put(11);
        x.at("051").put(12);
        x.remove();
        x.at("2").begin();
        x.part(0, 0, 3);
        x.part(0, 2, 5);
        x.part(0, 7, -4);
        x.at("0").put(13);
        x.begin();
        x.at("05").put(14);
        x.begin();
        x.part(2, 7, 9);
    }

    private static void busyWithTwoUploads(Store x) {
        busy(x);
        x.abort(1);
    }

    /** As busy, and then 24 versions; the buffer still holds 05, which is present. */
    private static void full(Store x) {
        busy(x);
        x.puts(18);
    }

    private static void the512thCall() {
        Store x = new Store();
        x.type(0);
        x.puts(24);
        for (int round = 0; round < 20; round++) {
            due("expire(0)", x.expire(0), 23);
            x.puts(23);
        }
        x.expire(0);
        x.puts(5);
        due("put, as the 512th call", x.put(1), 489);

        x = fresh("0").puts(1);
        while (x.calls < 511) {
            due("get, as a late call", x.get(), 100);
        }
        due("get, as the 512th call", x.get(), 100);
    }

    private static void keysOfOneToFourLetters() {
        String[] keys = {"0", "00", "000", "0000", "5", "55", "555", "5555"};
        Store x = new Store();
        for (int i = 0; i < keys.length; i++) {
            due("put at " + keys[i], x.at(keys[i]).put(i + 1), i);
        }
        for (int i = 0; i < keys.length; i++) {
            due("get at " + keys[i], x.at(keys[i]).get(), i + 1);
            dueVersions(x, i);
        }
    }

    private static void numbersFromZeroOverAllKeys() {
        Store x = fresh("1");
        due("put, the first version", x.put(1), 0);
        due("put at another key", x.at("2").put(1), 1);
        due("remove", x.remove(), 2);
        x.begin();
        x.part(0, 0, 1);
        due("complete", x.complete(0, 1), 3);
        due("put at the first key", x.at("1").put(1), 4);
        dueVersions(x, 4, 0);
    }

    private static void atMost24Versions() {
        Store x = fresh("1");
        x.begins(2);
        x.part(0, 0, 1);
        x.part(1, 0, 2);
        x.puts(20);
        due("remove, the 21st", x.remove(), 20);
        due("put at another key, the 22nd", x.at("2").put(1), 21);
        due("complete, the 23rd", x.complete(0, 1), 22);
        due("remove, the 24th", x.remove(), 23);
        due("put at a key that has none", x.at("3").put(1), FULL);
        due("put at a key that has some", x.at("1").put(1), FULL);
        due("remove", x.remove(), FULL);
        due("complete", x.complete(1, 1), FULL);
        due("destroy: all 24 are there", x.destroy(0), 23);
        due("complete, the 24th again", x.complete(1, 1), 24);
        due("put, the 25th again", x.put(1), FULL);
    }

    private static void eachKindAsThe24th() {
        Store x = fresh("1").puts(23);
        due("put, the 24th", x.put(1), 23);
        due("put, the 25th", x.put(1), FULL);
        x = fresh("1").puts(23);
        due("remove, the 24th", x.remove(), 23);
        due("put, the 25th", x.put(1), FULL);
        x = fresh("1").puts(23).begins(1);
        x.part(0, 0, 1);
        due("complete, the 24th", x.complete(0, 1), 23);
        due("put, the 25th", x.put(1), FULL);
    }

    private static void numbersGoOnGrowing() {
        Store x = fresh("1").puts(24);
        due("put", x.put(1), FULL);
        x.destroy(23);
        due("put after destroy of the newest", x.put(50), 24);
        due("content(24)", x.content(24), 50);
        due("content(23)", x.content(23), 0);
        x.destroy(0);
        due("put after destroy of the oldest", x.put(51), 25);
        due("expire(0)", x.expire(0), 23);
        due("put after expire", x.put(52), 26);
        x.destroy(25);
        due("destroy of the last one", x.destroy(26), 0);
        due("put with nothing there", x.put(53), 27);
        dueVersions(x, 27);
    }

    private static void newestIsTheGreatestNumberThere() {
        Store x = fresh("1").puts(3);
        due("versionAt(0)", x.versionAt(0), 2);
        x.destroy(1);
        due("versionAt(0) without an older one", x.versionAt(0), 2);
        due("get", x.get(), 102);
        x.destroy(2);
        due("versionAt(0) without the newest", x.versionAt(0), 0);
        due("get", x.get(), 100);
        x.at("2").put(5);
        due("versionAt(0) with a newer one of another key", x.at("1").versionAt(0), 0);
        x.destroy(0);
        due("versionAt(0) without any", x.versionAt(0), NONE);
    }

    private static void presentIfTheNewestIsAnObject() {
        Store x = fresh("1");
        x.put(0);
        due("present with content 0", x.present(), 1);
        x.remove();
        due("present with a marker over an object", x.present(), 0);
        x.put(4);
        due("present with an object over a marker", x.present(), 1);
        x.destroy(2);
        due("present with the marker as newest again", x.present(), 0);
        x.destroy(0);
        due("present with just a marker", x.present(), 0);
        x.destroy(1);
        due("present without versions", x.present(), 0);
    }

    private static void keysInOrderLetterByLetter() {
        dueListing(withKeys("5", "40", "4", "35", "31", "0505", "0504", "0415", "0"), false,
            "0", "0415", "0504", "0505", "31", "35", "4", "40", "5");
        dueListing(withKeys("1", "0555"), false, "0555", "1");
        dueListing(withKeys("01", "0055"), false, "0055", "01");
        dueListing(withKeys("001", "0005"), false, "0005", "001");
        dueListing(withKeys("0001", "0000"), false, "0000", "0001");
    }

    private static void aBeginningBeforeTheLongerKey() {
        dueListing(withKeys("0000", "000", "00", "0"), false, "0", "00", "000", "0000");
        dueListing(withKeys("5555", "555", "55", "5"), false, "5", "55", "555", "5555");
        dueListing(withKeys("10", "0000", "1", "0"), false, "0", "0000", "1", "10");
    }

    private static void askingChangesNothing() {
        List<Consumer<Store>> setups = List.of(x -> { }, BoundariesTest::busy, BoundariesTest::full);
        for (Consumer<Store> setup : setups) {
            unchanged("get", setup, Store::get);
            unchanged("present", setup, Store::present);
            for (int n : new int[] {MIN, -1, 0, 1, 2, 3, 23, 24, MAX}) {
                unchanged("content(" + n + ")", setup, x -> x.content(n));
                unchanged("versionAt(" + n + ")", setup, x -> x.versionAt(n));
                unchanged("entry(" + n + ", false)", setup, x -> x.entry(n, false));
                unchanged("entry(" + n + ", true)", setup, x -> x.entry(n, true));
            }
            unchanged("list(false)", setup, x -> x.list(false));
            unchanged("list(true)", setup, x -> x.list(true));
        }
    }

    private static void newNothingIsThere() {
        Store x = new Store();
        dueListing(x, false);
        dueListing(x, true);
        for (int version = -1; version <= 24; version++) {
            due("content(" + version + ")", x.content(version), 0);
            due("destroy(" + version + ")", x.destroy(version), NO_VERSION);
        }
        due("expire(0)", x.expire(0), 0);
        for (String key : new String[] {"0", "5", "0000"}) {
            due("present at " + key, x.at(key).present(), 0);
            due("versionAt(0) at " + key, x.versionAt(0), NONE);
        }
        due("put", x.put(1), 0);
        due("destroy(0)", x.destroy(0), 0);
    }

    private static void newBufferIsEmpty() {
        due("put", new Store().put(1), NO_KEY);
        due("remove", new Store().remove(), NO_KEY);
        due("begin", new Store().begin(), NO_KEY);
        due("get", new Store().get(), 0);
        due("present", new Store().present(), 0);
        due("versionAt(0)", new Store().versionAt(0), NONE);
        due("type(0)", new Store().type(0), 1);
    }

    private static void newNoUploads() {
        for (int upload = 0; upload < 3; upload++) {
            Store x = new Store();
            due("part(" + upload + ", 0, 1)", x.part(upload, 0, 1), BAD_UPLOAD);
            due("complete(" + upload + ", 1)", x.complete(upload, 1), BAD_UPLOAD);
            due("abort(" + upload + ")", x.abort(upload), BAD_UPLOAD);
        }
        Store x = fresh("0");
        for (int upload = 0; upload < 3; upload++) {
            due("begin", x.begin(), upload);
        }
    }

    private static void typeBadLetter() {
        List<String> buffers = List.of("", "0", "05", "051", "0512");
        for (int letter : new int[] {-1, 6, 7, 8, MIN, MAX}) {
            for (String buffer : buffers) {
                refused("type(" + letter + ") at '" + buffer + "'", x -> {
                    busy(x);
                    x.at(buffer);
                }, x -> x.type(letter), BAD_LETTER);
            }
        }
    }

    private static void typeFull() {
        for (int letter = 0; letter <= 5; letter++) {
            int typed = letter;
            refused("type(" + letter + ") as the fifth", x -> {
                busy(x);
                x.at("0510").put(1);
            }, x -> x.type(typed), FULL);
        }
        Store x = fresh("2345");
        x.type(0);
        x.put(8);
        x.erase();
        dueListing(x, false, "2345");
    }

    private static void typeAnswersTheLength() {
        for (int letter = 0; letter <= 5; letter++) {
            Store x = new Store();
            for (int length = 1; length <= 4; length++) {
                due("type(" + letter + ")", x.type(letter), length);
            }
        }
    }

    private static void eraseEmptiesTheBuffer() {
        for (String letters : new String[] {"", "5", "05", "512", "5555"}) {
            Store x = fresh(letters);
            x.erase();
            due("put after erase of '" + letters + "'", x.put(1), NO_KEY);
            due("type(0) after erase of '" + letters + "'", x.type(0), 1);
            x.put(1);
            x.erase();
            dueListing(x, false, "0");
        }
        unchanged("erase with letters typed", x -> {
            busy(x);
            x.erase();
        }, x -> x.at("5432").erase());
    }

    private static void putNoKey() {
        refused("put", x -> { }, x -> x.put(1), NO_KEY);
        refused("put", x -> {
            busy(x);
            x.erase();
        }, x -> x.put(1), NO_KEY);
    }

    private static void putFull() {
        for (String key : new String[] {"05", "1", "051", "2", "4"}) {
            refused("put at " + key, x -> {
                full(x);
                x.at(key);
            }, x -> x.put(1), FULL);
        }
    }

    private static void putAnswersItsNumber() {
        Store x = fresh("1");
        due("put(MIN)", x.put(MIN), 0);
        due("put(MAX)", x.put(MAX), 1);
        due("put(-7)", x.put(-7), 2);
        due("content(0)", x.content(0), MIN);
        due("content(1)", x.content(1), MAX);
        due("get", x.get(), -7);
    }

    private static void removeEmptyBuffer() {
        refused("remove", x -> { }, Store::remove, NO_KEY);
        refused("remove", x -> {
            busy(x);
            x.erase();
        }, Store::remove, NO_KEY);
    }

    private static void removeNotPresent() {
        // Without versions, with a marker, with just an upload, and near to keys that have versions.
        for (String key : new String[] {"4", "051", "2", "0510", "052", "11", "10"}) {
            refused("remove at " + key, x -> {
                busy(x);
                x.at(key);
            }, Store::remove, NO_KEY);
        }
        refused("remove at the beginning of a present key", x -> x.at("12").puts(1).at("1"), Store::remove, NO_KEY);
        refused("remove after destroy of the last version", x -> {
            x.at("1").put(1);
            x.destroy(0);
        }, Store::remove, NO_KEY);
        refused("remove with just a marker left", x -> {
            x.at("1").put(1);
            x.remove();
            x.destroy(0);
        }, Store::remove, NO_KEY);
    }

    private static void removeFull() {
        for (String key : new String[] {"05", "0", "1"}) {
            refused("remove at " + key, x -> {
                full(x);
                x.at(key);
            }, Store::remove, FULL);
        }
        Store x = fresh("1").puts(24);
        x.remove();
        due("present after the refused remove", x.present(), 1);
        due("get after the refused remove", x.get(), 123);
    }

    private static void removeAnswersItsNumber() {
        Store x = fresh("1");
        x.put(5);
        due("remove", x.remove(), 1);
        due("present", x.present(), 0);
        dueVersions(x, 1, 0);
    }

    private static void destroyWhateverKey() {
        for (String buffer : new String[] {"", "1", "2", "0000"}) {
            Store x = withKeys("1", "2");
            due("destroy(0) at '" + buffer + "'", x.at(buffer).destroy(0), 1);
            dueListing(x.at(""), false, "2");
        }
    }

    private static void destroyNoVersion() {
        for (int version : new int[] {-1, 6, 7, 24, MIN, MAX}) {
            refused("destroy(" + version + ")", BoundariesTest::busy, x -> x.destroy(version), NO_VERSION);
        }
        for (int version : new int[] {-1, 24, 25, MIN, MAX}) {
            refused("destroy(" + version + ")", BoundariesTest::full, x -> x.destroy(version), NO_VERSION);
        }
        refused("destroy(0) with nothing there", x -> { }, x -> x.destroy(0), NO_VERSION);
        for (int version : new int[] {0, 3, 5}) {
            refused("destroy(" + version + ") again", x -> {
                busy(x);
                x.destroy(version);
            }, x -> x.destroy(version), NO_VERSION);
        }
        refused("destroy(0), which has expired", x -> {
            busy(x);
            x.expire(0);
        }, x -> x.destroy(0), NO_VERSION);
    }

    private static void destroyAnswersWhatIsLeft() {
        Store x = fresh("1").puts(24);
        for (int left = 23; left >= 0; left--) {
            // From the middle, the oldest and the newest, as the numbers come.
            due("destroy", x.destroy((left * 7 + 5) % 24), left);
        }
        due("versionAt(0)", x.versionAt(0), NONE);
        due("put", x.put(1), 24);
    }

    private static void destroyForGood() {
        Store x = fresh("1").puts(2);
        x.destroy(1);
        due("content(1)", x.content(1), 0);
        x.put(60);
        due("content(1) after put", x.content(1), 0);
        dueVersions(x, 2, 0);
    }

    private static void beginNoKey() {
        refused("begin", x -> { }, Store::begin, NO_KEY);
        refused("begin", x -> {
            busyWithTwoUploads(x);
            x.erase();
        }, Store::begin, NO_KEY);
    }

    private static void beginFull() {
        for (String key : new String[] {"05", "2", "4"}) {
            refused("begin at " + key, x -> {
                busy(x);
                x.at(key);
            }, Store::begin, FULL);
        }
    }

    private static void beginSmallestFreeNumber() {
        for (int mask = 0; mask < 8; mask++) {
            Store x = fresh("1").begins(3);
            for (int upload = 2; upload >= 0; upload--) {
                if ((mask >> upload & 1) != 0) {
                    x.abort(upload);
                }
            }
            for (int upload = 0; upload < 3; upload++) {
                if ((mask >> upload & 1) != 0) {
                    due("begin with the free numbers " + mask, x.begin(), upload);
                }
            }
            due("begin with none free", x.begin(), FULL);
        }
        Store x = fresh("1").begins(3);
        x.part(1, 0, 1);
        x.complete(1, 1);
        due("begin after complete", x.begin(), 1);
    }

    private static void beginWithoutParts() {
        Store x = fresh("1").begins(1);
        for (int number = 0; number < 8; number++) {
            due("complete(0, 1 << " + number + ")", x.complete(0, 1 << number), BAD_PART);
            x.part(0, number, 1);
        }
        x.abort(0);
        x.begin();
        due("complete after abort", x.complete(0, 255), BAD_PART);
        due("part after abort", x.part(0, 3, 1), 1);
        due("complete with an old part", x.complete(0, 8 | 1), BAD_PART);
        x.complete(0, 8);
        x.begin();
        due("complete after complete", x.complete(0, 8), BAD_PART);
        due("abort after complete", x.abort(0), 0);
    }

    private static void beginIsNoVersion() {
        Store x = fresh("1").puts(24);
        due("begin with 24 versions", x.begin(), 0);
        x = fresh("1").begins(3);
        due("present", x.present(), 0);
        due("put", x.put(1), 0);
    }

    private static void partBadUpload() {
        for (int upload : NO_UPLOADS) {
            refused("part(" + upload + ", 0, 1)", BoundariesTest::busy, x -> x.part(upload, 0, 1), BAD_UPLOAD);
        }
        for (int number = 0; number < 8; number++) {
            int free = number;
            refused("part(1, " + number + ", 1)", BoundariesTest::busyWithTwoUploads,
                x -> x.part(1, free, 1), BAD_UPLOAD);
        }
        for (int upload = 0; upload < 3; upload++) {
            int free = upload;
            refused("part(" + upload + ", 0, 1)", x -> { }, x -> x.part(free, 0, 1), BAD_UPLOAD);
        }
        refused("part of a complete upload", x -> {
            busy(x);
            x.complete(0, 1);
        }, x -> x.part(0, 0, 1), BAD_UPLOAD);
        // A number that is free when the part comes is begun anew without it.
        Store x = fresh("1");
        x.part(0, 0, 1);
        x.begin();
        due("abort", x.abort(0), 0);
    }

    private static void partBadPart() {
        for (int number : NO_PARTS) {
            for (int upload = 0; upload < 3; upload++) {
                int to = upload;
                refused("part(" + upload + ", " + number + ", 1)", BoundariesTest::busy,
                    x -> x.part(to, number, 1), BAD_PART);
            }
        }
    }

    private static void partInsteadOfOne() {
        for (int number = 0; number < 8; number++) {
            Store x = fresh("1").begins(1);
            due("part", x.part(0, number, MAX), 1);
            due("part, the same", x.part(0, number, MIN), 1);
            due("part, the same again", x.part(0, number, 0), 1);
            x.complete(0, 1 << number);
            due("get", x.get(), 0);
            due("present", x.present(), 1);
        }
    }

    private static void partAnswersHowMany() {
        Store x = fresh("1").begins(3);
        for (int upload = 2; upload >= 0; upload--) {
            for (int count = 1; count <= 8; count++) {
                int number = (count * 3 + upload) % 8;
                due("part(" + upload + ", " + number + ", 1)", x.part(upload, number, 1), count);
            }
        }
    }

    private static void partOfTheRightUpload() {
        for (int number = 0; number < 8; number++) {
            Store x = fresh("1").begins(3);
            for (int upload = 0; upload < 3; upload++) {
                x.part(upload, number, upload + 40);
            }
            for (int upload = 0; upload < 3; upload++) {
                x.complete(upload, 1 << number);
                due("get", x.get(), upload + 40);
            }
        }
    }

    private static void completeBadUpload() {
        for (int upload : NO_UPLOADS) {
            refused("complete(" + upload + ", 1)", BoundariesTest::busy, x -> x.complete(upload, 1), BAD_UPLOAD);
        }
        refused("complete(1, 1)", BoundariesTest::busyWithTwoUploads, x -> x.complete(1, 1), BAD_UPLOAD);
        refused("complete(0, 1)", x -> { }, x -> x.complete(0, 1), BAD_UPLOAD);
        refused("complete(0, 133) again", x -> {
            busy(x);
            x.complete(0, 133);
        }, x -> x.complete(0, 133), BAD_UPLOAD);
        refused("complete(0, 133) after abort", x -> {
            busy(x);
            x.abort(0);
        }, x -> x.complete(0, 133), BAD_UPLOAD);
    }

    private static void completeNoBits() {
        for (int parts : new int[] {0, 256, 512, 1 << 30, MIN, -256, MAX - 255}) {
            for (int upload = 0; upload < 3; upload++) {
                int ended = upload;
                refused("complete(" + upload + ", " + parts + ")", BoundariesTest::busy,
                    x -> x.complete(ended, parts), BAD_PART);
            }
        }
        refused("complete(0, 0) with all parts", x -> {
            x.at("1").begin();
            for (int number = 0; number < 8; number++) {
                x.part(0, number, number);
            }
        }, x -> x.complete(0, 0), BAD_PART);
    }

    private static void completeMissingPart() {
        // Upload 0 has the parts 0, 2 and 7.
        for (int parts : new int[] {2, 8, 16, 32, 64, 1 | 2, 4 | 8, 128 | 64, 133 | 2, 133 | 16, 255, -1, MAX}) {
            refused("complete(0, " + parts + ")", BoundariesTest::busy, x -> x.complete(0, parts), BAD_PART);
        }
        for (int missing = 0; missing < 8; missing++) {
            int left = missing;
            refused("complete(0, 255) without part " + missing, x -> {
                x.at("1").begin();
                for (int number = 0; number < 8; number++) {
                    if (number != left) {
                        x.part(0, number, number);
                    }
                }
            }, x -> x.complete(0, 255), BAD_PART);
        }
        // Upload 1 has no parts, though the others have.
        for (int number = 0; number < 8; number++) {
            int asked = number;
            refused("complete(1, 1 << " + number + ")", BoundariesTest::busy,
                x -> x.complete(1, 1 << asked), BAD_PART);
        }
    }

    private static void completeFull() {
        for (int parts : new int[] {1, 4, 128, 133}) {
            refused("complete(0, " + parts + ")", BoundariesTest::full, x -> x.complete(0, parts), FULL);
        }
        refused("complete(2, 128)", BoundariesTest::full, x -> x.complete(2, 128), FULL);
        Store x = new Store();
        full(x);
        x.complete(0, 133);
        due("part after the refused complete", x.part(0, 1, 1), 4);
        x.destroy(0);
        due("complete with room again", x.complete(0, 133), 24);
        due("get", x.at("2").get(), (3 * 31 + 5) * 31 - 4);
    }

    private static void completeAscendingOrder() {
        Store x = fresh("1").begins(1);
        int want = 0;
        for (int number = 7; number >= 0; number--) {
            x.part(0, number, number + 2);
        }
        for (int number = 0; number < 8; number++) {
            want = want * 31 + number + 2;
        }
        x.complete(0, 255);
        due("get", x.get(), want);
        x.begin();
        x.part(0, 7, 5);
        x.part(0, 0, 3);
        x.complete(0, 129);
        due("get of the first and the last", x.get(), 3 * 31 + 5);
    }

    private static void completeJustTheBitsSet() {
        for (int number = 0; number < 8; number++) {
            Store x = fresh("1").begins(1);
            for (int other = 0; other < 8; other++) {
                x.part(0, other, 50 + other);
            }
            due("complete", x.complete(0, 1 << number), 0);
            due("get", x.get(), 50 + number);
        }
    }

    private static void completeBitsAbove7() {
        for (int above : new int[] {256, 512, 1 << 16, MIN, -256}) {
            Store x = fresh("1").begins(1);
            x.part(0, 3, 4);
            due("complete(0, 8 | " + above + ")", x.complete(0, 8 | above), 0);
            due("get", x.get(), 4);
        }
    }

    private static void completeWrapping() {
        Store x = fresh("1").begins(3);
        x.part(0, 0, MAX);
        x.part(0, 1, MAX);
        x.complete(0, 3);
        due("get of MAX, MAX", x.get(), -32);
        x.part(1, 0, MIN);
        x.part(1, 1, -1);
        x.complete(1, 3);
        due("get of MIN, -1", x.get(), 2147483647);
        for (int number = 0; number < 8; number++) {
            x.part(2, number, 1);
        }
        x.complete(2, 255);
        // 1 + 31 + .. + 31^7 is 28429701248 and wraps more than once.
        due("get of eight ones", x.get(), (int) 28429701248L);
    }

    private static void completeUploadIsGone() {
        Store x = new Store();
        busy(x);
        due("complete", x.complete(0, 4), 6);
        due("get at its key", x.at("2").get(), 5);
        due("part", x.part(0, 0, 1), BAD_UPLOAD);
        due("complete again", x.complete(0, 4), BAD_UPLOAD);
        due("abort", x.abort(0), BAD_UPLOAD);
        due("the third upload stays", x.abort(2), 1);
        due("begin", x.begin(), 0);
    }

    private static void completeOfItsKey() {
        for (String buffer : new String[] {"", "0", "3", "21", "2222"}) {
            Store x = fresh("2").begins(1);
            x.part(0, 0, 6);
            x.at(buffer);
            due("complete at '" + buffer + "'", x.complete(0, 1), 0);
            due("present at '" + buffer + "'", x.present(), 0);
            dueListing(x.at(""), false, "2");
        }
        Store x = fresh("2");
        x.put(1);
        x.begin();
        x.part(0, 0, 0);
        x.remove();
        due("complete over a marker", x.complete(0, 1), 2);
        due("present with content 0", x.present(), 1);
    }

    private static void abortBadUpload() {
        for (int upload : NO_UPLOADS) {
            refused("abort(" + upload + ")", BoundariesTest::busy, x -> x.abort(upload), BAD_UPLOAD);
        }
        refused("abort(1)", BoundariesTest::busyWithTwoUploads, x -> x.abort(1), BAD_UPLOAD);
        for (int upload = 0; upload < 3; upload++) {
            int free = upload;
            refused("abort(" + upload + ")", x -> { }, x -> x.abort(free), BAD_UPLOAD);
        }
        refused("abort(0) after complete", x -> {
            busy(x);
            x.complete(0, 133);
        }, x -> x.abort(0), BAD_UPLOAD);
    }

    private static void abortAnswersItsParts() {
        for (int count = 0; count <= 8; count++) {
            Store x = fresh("1").begins(2);
            for (int number = 0; number < count; number++) {
                x.part(1, 7 - number, 0);
            }
            due("abort with " + count + " parts", x.abort(1), count);
            due("abort again", x.abort(1), BAD_UPLOAD);
            due("abort of the other one", x.abort(0), 0);
            due("present", x.present(), 0);
        }
    }

    private static void expireBehindKeepPlusOne() {
        for (int keep = 0; keep <= 24; keep++) {
            Store x = fresh("1").puts(24);
            int gone = Math.max(0, 24 - (keep + 1));
            due("expire(" + keep + ")", x.expire(keep), gone);
            due("the oldest that is left", x.versionAt(23 - gone), gone);
            due("the newest", x.versionAt(0), 23);
            due("none behind", x.versionAt(24 - gone), NONE);
            due("expire(" + keep + ") again", x.expire(keep), 0);
        }
    }

    private static void expireKeepBelow0() {
        for (int keep : new int[] {-1, -2, -24, -25, MIN, MIN + 1}) {
            Store x = fresh("1").puts(3);
            due("expire(" + keep + ")", x.expire(keep), 2);
            dueVersions(x, 2);
        }
    }

    private static void expireKeepAbove24() {
        for (int keep : new int[] {24, 25, 26, 255, 256, MAX - 1, MAX}) {
            Store x = fresh("1").puts(24);
            due("expire(" + keep + ")", x.expire(keep), 0);
            due("destroy", x.destroy(0), 23);
            x = fresh("1");
            x.put(1);
            x.remove();
            x.destroy(0);
            due("expire(" + keep + ") with just a marker", x.expire(keep), 1);
        }
    }

    private static void expireForEveryKey() {
        Store x = new Store();
        for (int round = 0; round < 3; round++) {
            for (String key : new String[] {"0", "00", "5555"}) {
                x.at(key).put(round);
            }
        }
        due("expire(1)", x.at("").expire(1), 3);
        dueVersions(x.at("0"), 6, 3);
        dueVersions(x.at("00"), 7, 4);
        dueVersions(x.at("5555"), 8, 5);
        due("expire(0)", x.expire(0), 3);
        dueVersions(x, 8);
        dueListing(x.at(""), false, "0", "00", "5555");
    }

    private static void expireALoneMarker() {
        Store x = fresh("1");
        x.put(1);
        x.remove();
        due("expire(0): the object, then the marker", x.expire(0), 2);
        due("versionAt(0)", x.versionAt(0), NONE);
        due("put", x.put(2), 2);

        x.remove();
        x.destroy(2);
        due("expire(5) with a marker that was alone before", x.expire(5), 1);
        due("versionAt(0)", x.versionAt(0), NONE);

        x.put(3);
        x.remove();
        due("expire(1): two are left", x.expire(1), 0);
        dueVersions(x, 5, 4);
    }

    private static void expireALoneMarkerOfEachKey() {
        Store x = new Store();
        for (String key : new String[] {"0", "1", "2"}) {
            x.at(key).put(1);
            x.remove();
        }
        x.at("3").put(1);
        due("expire(0)", x.expire(0), 6);
        for (String key : new String[] {"0", "1", "2"}) {
            due("versionAt(0) at " + key, x.at(key).versionAt(0), NONE);
        }
        due("destroy", x.destroy(6), 0);
    }

    private static void expireOtherMarkersStay() {
        Store x = fresh("1");
        x.put(1);
        x.remove();
        x.put(2);
        due("expire(1): the object and the marker are left", x.expire(1), 1);
        dueVersions(x, 2, 1);
        due("expire(0): a lone object stays", x.expire(0), 1);
        dueVersions(x, 2);

        // Two markers, for the object between them is destroyed: not one version, so both stay.
        x = fresh("1");
        x.put(1);
        x.remove();
        x.put(2);
        x.remove();
        x.destroy(0);
        x.destroy(2);
        due("expire(1) with two markers", x.expire(1), 0);
        dueVersions(x, 3, 1);
        due("expire(0) with two markers", x.expire(0), 2);
        dueVersions(x);
    }

    private static void expireLeavesTheRest() {
        unchanged("expire with nothing to take away", x -> {
            busy(x);
            x.erase();
        }, x -> due("expire(1)", x.expire(1), 0));
        Store x = new Store();
        due("expire with nothing there", x.expire(0), 0);
        busy(x);
        due("expire(0)", x.expire(0), 3);
        due("the buffer stays", x.type(0), 3);
        due("the first upload stays", x.abort(0), 3);
        due("the second upload stays", x.abort(1), 0);
        due("the third upload stays", x.abort(2), 1);
        due("numbers go on", x.put(1), 6);
    }

    /** Each state in which the buffer's key is not present. */
    private static List<Consumer<Store>> notPresent() {
        return List.of(
            x -> { },
            x -> x.at("1"),
            x -> x.at("1").puts(2).at(""),
            x -> x.at("1").puts(2).at("11"),
            x -> x.at("1").puts(2).at("01"),
            x -> x.at("11").puts(2).at("1"),
            x -> x.at("1").puts(2).remove(),
            x -> x.at("1").puts(1).destroy(0),
            x -> {
                x.at("1").puts(1).remove();
                x.expire(0);
            },
            x -> {
                x.at("1").begin();
                x.part(0, 0, 9);
            });
    }

    private static void getNotPresent() {
        for (Consumer<Store> setup : notPresent()) {
            Store x = new Store();
            setup.accept(x);
            due("get", x.get(), 0);
        }
        due("get of the newest", fresh("1").puts(24).get(), 123);
    }

    private static void presentNotPresent() {
        for (Consumer<Store> setup : notPresent()) {
            Store x = new Store();
            setup.accept(x);
            due("present", x.present(), 0);
        }
        due("present", fresh("1").puts(1).present(), 1);
    }

    private static void contentNotThere() {
        for (Consumer<Store> setup : List.<Consumer<Store>>of(x -> { }, BoundariesTest::busy, BoundariesTest::full)) {
            for (int version : new int[] {-1, -2, 24, 25, 48, 256, MIN, MAX}) {
                Store x = new Store();
                setup.accept(x);
                due("content(" + version + ")", x.content(version), 0);
            }
        }
        Store x = fresh("1").puts(24);
        x.destroy(23);
        due("content(23), which was destroyed", x.content(23), 0);
        due("content(22)", x.content(22), 122);
        x.destroy(0);
        due("content(0), which was destroyed", x.content(0), 0);
        due("content(1)", x.content(1), 101);
        x.expire(0);
        due("content(21), which has expired", x.content(21), 0);
        due("content(22)", x.content(22), 122);
    }

    private static void contentOfAMarker() {
        Store x = fresh("1").puts(24);
        // The marker takes a place where contents stood before.
        x.destroy(0);
        x.remove();
        due("content(24)", x.content(24), 0);
        due("content(23), behind the marker", x.content(23), 123);
        due("get", x.get(), 0);
    }

    private static void versionAtNone() {
        for (int i : new int[] {-1, -2, MIN, MAX, 3, 4, 24}) {
            due("versionAt(" + i + ") of three", fresh("1").puts(3).versionAt(i), NONE);
        }
        for (int i : new int[] {-1, 24, 25, MIN, MAX}) {
            due("versionAt(" + i + ") of 24", fresh("1").puts(24).versionAt(i), NONE);
        }
        for (String buffer : new String[] {"", "2", "11", "01"}) {
            due("versionAt(0) at '" + buffer + "'", fresh("1").puts(3).at(buffer).versionAt(0), NONE);
        }
        Store x = fresh("1").puts(1);
        x.destroy(0);
        due("versionAt(0) after destroy", x.versionAt(0), NONE);
    }

    private static void versionAtFromZero() {
        Store x = fresh("1").puts(24);
        for (int i = 0; i < 24; i++) {
            due("versionAt(" + i + ")", x.versionAt(i), 23 - i);
        }
        x.destroy(10);
        x.remove();
        due("versionAt(0), a marker", x.versionAt(0), 24);
        due("versionAt(13), before the gap", x.versionAt(13), 11);
        due("versionAt(14), behind the gap", x.versionAt(14), 9);
        due("versionAt(23), the oldest", x.versionAt(23), 0);
    }

    private static void listAllForAnEmptyBuffer() {
        dueListing(new Store(), false);
        dueListing(withKeys("0", "5", "0000", "5555", "23"), false, "0", "0000", "23", "5", "5555");
        String[] keys = new String[24];
        for (int i = 0; i < 24; i++) {
            keys[i] = "" + i / 5 + i % 5;
        }
        dueListing(withKeys(keys), false, keys);
        dueListing(withKeys(keys), true, keys);
    }

    private static void listTheBufferItself() {
        for (String key : new String[] {"0", "5", "00", "05", "555", "0000", "5555"}) {
            Store x = withKeys(key).at(key);
            dueListing(x, false, key);
            dueListing(x, true, key);
            x.remove();
            dueListing(x, false);
            dueListing(x, true);
        }
        dueListing(withKeys("01", "012").at("01"), false, "01", "012");
    }

    private static void listJustWhatBeginsSo() {
        Store x = withKeys("0", "01", "010", "0101", "02", "1", "10", "11");
        dueListing(x.at("0"), false, "0", "01", "010", "0101", "02");
        dueListing(x.at("01"), false, "01", "010", "0101");
        dueListing(x.at("010"), false, "010", "0101");
        dueListing(x.at("0101"), false, "0101");
        dueListing(x.at("0100"), false);
        dueListing(x.at("00"), false);
        dueListing(x.at("1"), false, "1", "10", "11");
        dueListing(x.at("5"), false);
    }

    private static void listJustWhatIsPresent() {
        Store x = withKeys("0", "1", "2");
        x.at("1").remove();
        x.at("2").put(1);
        x.at("3").begin();
        dueListing(x.at(""), false, "0", "2");
        dueListing(x, true, "0", "2");
        x.destroy(3);
        dueListing(x, false, "0", "1", "2");
    }

    private static void foldersOneEntryTogether() {
        Store x = withKeys("5", "50", "5555", "05", "050", "0555", "005", "0051", "0005");
        dueListing(x, true, "0005", "005", "05", "5");
        dueListing(x.at("0"), true, "0005", "005", "05");
        dueListing(x.at("00"), true, "0005", "005");
        dueListing(x.at("000"), true, "0005");
        dueListing(x.at("0005"), true, "0005");
    }

    private static void foldersBehindTheBuffer() {
        Store x = withKeys("5", "50", "505", "5050", "5051", "55", "5505", "5555");
        dueListing(x, true, "5");
        dueListing(x.at("5"), true, "5", "50", "505", "55");
        dueListing(x.at("50"), true, "50", "505");
        dueListing(x.at("505"), true, "505", "5050", "5051");
        dueListing(x.at("55"), true, "55", "5505", "555");
        dueListing(x.at("555"), true, "5555");
        dueListing(x.at("5555"), true, "5555");
    }

    private static void foldersBehindTheSameLetters() {
        dueListing(withKeys("05", "15", "25", "45"), true, "05", "15", "25", "45");
        dueListing(withKeys("015", "025", "0150", "0250"), true, "015", "025");
        dueListing(withKeys("0005", "005", "05", "5"), true, "0005", "005", "05", "5");
    }

    private static void foldersInThePlaceOfTheFirst() {
        Store x = withKeys("0", "04", "0501", "0544", "1", "1510", "2", "44", "5000");
        dueListing(x, true, "0", "04", "05", "1", "15", "2", "44", "5");
        // The folder is no key here, and its first key is not the first that was made.
        dueListing(withKeys("054", "1", "050"), true, "05", "1");
        dueListing(withKeys("14", "155", "13", "150"), true, "13", "14", "15");
    }

    private static void foldersOfPresentKeysAlone() {
        Store x = withKeys("050", "051", "1");
        x.at("050").remove();
        dueListing(x.at(""), true, "05", "1");
        x.at("051").remove();
        dueListing(x.at(""), true, "1");
    }

    private static void noFoldersUnlessAsked() {
        dueListing(withKeys("5", "55", "505", "05"), false, "05", "5", "505", "55");
        dueListing(withKeys("5", "55", "505", "05"), true, "05", "5");
    }

    private static void entrySum() {
        due("entry of 0", withKeys("0").entry(0, false), 1);
        due("entry of 5", withKeys("5").entry(0, false), 6);
        due("entry of 00", withKeys("00").entry(0, false), 1 + 7);
        due("entry of 0000", withKeys("0000").entry(0, false), 1 + 7 + 49 + 343);
        due("entry of 5555", withKeys("5555").entry(0, false), 6 + 42 + 294 + 2058);
        due("entry of 0123", withKeys("0123").entry(0, false), 1 + 14 + 147 + 1372);
        due("entry of the folder 05", withKeys("0512").entry(0, true), 1 + 42);
        due("entry of the folder 055 behind 05", withKeys("0553").at("05").entry(0, true), 1 + 42 + 294);
        due("entry of 12 behind 1", withKeys("12").at("1").entry(0, false), 2 + 21);
    }

    private static void entryNone() {
        for (boolean folders : new boolean[] {false, true}) {
            due("entry(0) of nothing", new Store().entry(0, folders), NONE);
            due("entry(0) of another beginning", withKeys("0").at("1").entry(0, folders), NONE);
            for (int i : new int[] {-1, -2, MIN, MAX, 3, 4, 23, 24, 25}) {
                due("entry(" + i + ") of three", withKeys("0", "1", "2").entry(i, folders), NONE);
            }
        }
        Store x = withKeys("50", "51", "0");
        due("entry(2, false)", x.entry(2, false), sum("51"));
        due("entry(2, true)", x.entry(2, true), NONE);
        String[] keys = new String[24];
        for (int i = 0; i < 24; i++) {
            keys[i] = "" + i / 5 + i % 5;
        }
        x = withKeys(keys);
        due("entry(23)", x.entry(23, false), sum("43"));
        due("entry(24)", x.entry(24, false), NONE);
        due("entry(-1)", x.entry(-1, false), NONE);
    }

    private static void orderBadLetterBeforeFull() {
        for (int letter : new int[] {-1, 6, MIN, MAX}) {
            due("type(" + letter + ") as the fifth", fresh("0123").type(letter), BAD_LETTER);
        }
    }

    private static void orderNoKeyBeforeFull() {
        refused("put", x -> x.at("1").puts(24).erase(), x -> x.put(1), NO_KEY);
        refused("remove with an empty buffer", x -> x.at("1").puts(24).erase(), Store::remove, NO_KEY);
        refused("remove at a key without versions", x -> x.at("1").puts(24).at("2"), Store::remove, NO_KEY);
        refused("remove at a key with a marker", x -> x.at("1").puts(23).remove(), Store::remove, NO_KEY);
        refused("begin", x -> x.at("1").begins(3).erase(), Store::begin, NO_KEY);
    }

    private static void orderBadUploadFirst() {
        for (int upload : NO_UPLOADS) {
            refused("part(" + upload + ", 8, 1)", BoundariesTest::full, x -> x.part(upload, 8, 1), BAD_UPLOAD);
            refused("complete(" + upload + ", 0)", BoundariesTest::full, x -> x.complete(upload, 0), BAD_UPLOAD);
        }
        refused("part(1, -1, 1)", BoundariesTest::busyWithTwoUploads, x -> x.part(1, -1, 1), BAD_UPLOAD);
        refused("complete(1, 0)", BoundariesTest::busyWithTwoUploads, x -> x.complete(1, 0), BAD_UPLOAD);
        refused("complete(0, 133), ended, with 24 versions", x -> {
            full(x);
            x.abort(0);
        }, x -> x.complete(0, 133), BAD_UPLOAD);
    }

    private static void orderBadPartBeforeFull() {
        for (int parts : new int[] {0, 256, 2, 255}) {
            refused("complete(0, " + parts + ")", BoundariesTest::full, x -> x.complete(0, parts), BAD_PART);
        }
        refused("complete(0, 133)", BoundariesTest::full, x -> x.complete(0, 133), FULL);
    }

    private static void destroyCountsAllKeys() {
        Store x = withKeys("0", "00", "1", "0");
        x.at("1").remove();
        due("destroy(0)", x.destroy(0), 4);
        due("destroy(4), the marker", x.destroy(4), 3);
        due("destroy(3), the last of its key", x.destroy(3), 2);
        due("destroy(1)", x.destroy(1), 1);
        due("destroy(2)", x.destroy(2), 0);
    }

    private static void terms() {
        test("Use, \"at most 512 calls\"", BoundariesTest::the512thCall);
        test("Terms, \"A KEY is a list of one to four LETTERS, each 0 to 5\"",
            BoundariesTest::keysOfOneToFourLetters);
        test("Terms, \"numbered from 0 in the order in which they were made, over all keys\"",
            BoundariesTest::numbersFromZeroOverAllKeys);
        test("Terms, \"At most 24 versions are there at a time\"", BoundariesTest::atMost24Versions);
        test("Terms, \"At most 24 versions\", the 24th", BoundariesTest::eachKindAsThe24th);
        test("Terms, \"(numbers go on growing)\"", BoundariesTest::numbersGoOnGrowing);
        test("Terms, \"the one with the greatest number of those that are there\"",
            BoundariesTest::newestIsTheGreatestNumberThere);
        test("Terms, \"a key IS PRESENT if its newest version is an object\"",
            BoundariesTest::presentIfTheNewestIsAnObject);
        test("Terms, \"letter by letter, the smaller letter first\"", BoundariesTest::keysInOrderLetterByLetter);
        test("Terms, \"a key that is the beginning of another one before it\"",
            BoundariesTest::aBeginningBeforeTheLongerKey);
        test("Terms, \"The calls below change nothing\"", BoundariesTest::askingChangesNothing);
        test("Promise 1, \"Nothing is there\"", BoundariesTest::newNothingIsThere);
        test("Promise 1, \"the buffer is empty\"", BoundariesTest::newBufferIsEmpty);
        test("Promise 1, \"no uploads\"", BoundariesTest::newNoUploads);
    }

    private static void bufferAndVersions() {
        test("Promise 2, \"letter not in 0 to 5: BAD_LETTER\"", BoundariesTest::typeBadLetter);
        test("Promise 2, \"it has four: FULL\"", BoundariesTest::typeFull);
        test("Promise 2, \"Else answers its length\"", BoundariesTest::typeAnswersTheLength);
        test("Promise 3, \"Empties the buffer\"", BoundariesTest::eraseEmptiesTheBuffer);
        test("Promise 4, \"The buffer is empty: NO_KEY\"", BoundariesTest::putNoKey);
        test("Promise 4, \"24 versions are there: FULL\"", BoundariesTest::putFull);
        test("Promise 4, \"Else answers its number\"", BoundariesTest::putAnswersItsNumber);
        test("Promise 5, \"The buffer is empty .. NO_KEY\"", BoundariesTest::removeEmptyBuffer);
        test("Promise 5, \"or the key isn't present: NO_KEY\"", BoundariesTest::removeNotPresent);
        test("Promise 5, \"24 versions are there: FULL\"", BoundariesTest::removeFull);
        test("Promise 5, \"Else answers its number\"", BoundariesTest::removeAnswersItsNumber);
        test("Promise 6, \"whatever key it is of\"", BoundariesTest::destroyWhateverKey);
        test("Promise 6, \"None of this number is there: NO_VERSION\"", BoundariesTest::destroyNoVersion);
        test("Promise 6, \"Else answers how many are left\"", BoundariesTest::destroyAnswersWhatIsLeft);
        test("Promise 6, \"for good\"", BoundariesTest::destroyForGood);
    }

    private static void uploads() {
        test("Promise 7, \"The buffer is empty: NO_KEY\"", BoundariesTest::beginNoKey);
        test("Promise 7, \"three uploads are under way: FULL\"", BoundariesTest::beginFull);
        test("Promise 7, \"the smallest number 0 to 2 that is free\"", BoundariesTest::beginSmallestFreeNumber);
        test("Promise 7, \"without parts\"", BoundariesTest::beginWithoutParts);
        test("Promise 7, \"Begins an upload\", which is no version", BoundariesTest::beginIsNoVersion);
        test("Promise 8, \"There is no such upload: BAD_UPLOAD\"", BoundariesTest::partBadUpload);
        test("Promise 8, \"number not in 0 to 7: BAD_PART\"", BoundariesTest::partBadPart);
        test("Promise 8, \"also instead of one that it has\"", BoundariesTest::partInsteadOfOne);
        test("Promise 8, \"Else answers how many parts it has\"", BoundariesTest::partAnswersHowMany);
        test("Promise 8, \"Gives an upload a part, number 0 to 7\"", BoundariesTest::partOfTheRightUpload);
        test("Promise 9, \"BAD_UPLOAD\"", BoundariesTest::completeBadUpload);
        test("Promise 9, \"none of these bits is set .. BAD_PART\"", BoundariesTest::completeNoBits);
        test("Promise 9, \"or a part is missing: BAD_PART\"", BoundariesTest::completeMissingPart);
        test("Promise 9, \"24 versions are there: FULL\"", BoundariesTest::completeFull);
        test("Promise 9, \"in ascending order\"", BoundariesTest::completeAscendingOrder);
        test("Promise 9, \"its parts n with bit n of 'parts' set\"", BoundariesTest::completeJustTheBitsSet);
        test("Promise 9, \"bit n of 'parts' (0 to 7)\", with bits above", BoundariesTest::completeBitsAbove7);
        test("Promise 9, \"content * 31 + value (wrapping)\"", BoundariesTest::completeWrapping);
        test("Promise 9, \"Else the upload is gone\"", BoundariesTest::completeUploadIsGone);
        test("Promise 9, \"an object version of its key\"", BoundariesTest::completeOfItsKey);
        test("Promise 10, \"BAD_UPLOAD\"", BoundariesTest::abortBadUpload);
        test("Promise 10, \"Else answers how many parts it had\"", BoundariesTest::abortAnswersItsParts);
    }

    private static void expiry() {
        test("Promise 11, \"those behind the first keep + 1 are taken away\"",
            BoundariesTest::expireBehindKeepPlusOne);
        test("Promise 11, \"keep below 0 counts as 0\"", BoundariesTest::expireKeepBelow0);
        test("Promise 11, \"above 24 as 24\"", BoundariesTest::expireKeepAbove24);
        test("Promise 11, \"For every key\"", BoundariesTest::expireForEveryKey);
        test("Promise 11, \"just one version is left and it is a marker\"", BoundariesTest::expireALoneMarker);
        test("Promise 11, \"For every key .. it is taken away too\"", BoundariesTest::expireALoneMarkerOfEachKey);
        test("Promise 11, \"if then just one version is left\", and when not",
            BoundariesTest::expireOtherMarkersStay);
        test("Promise 11, all else", BoundariesTest::expireLeavesTheRest);
    }

    private static void asking() {
        test("Promise 12, \"0 if the key isn't present\"", BoundariesTest::getNotPresent);
        test("Promise 13, \"Whether the buffer's key is present\"", BoundariesTest::presentNotPresent);
        test("Promise 14, \"0 if it is not there\"", BoundariesTest::contentNotThere);
        test("Promise 14, \"or a marker\"", BoundariesTest::contentOfAMarker);
        test("Promise 15, \"NONE if there is none\"", BoundariesTest::versionAtNone);
        test("Promise 15, \"i-th newest, from 0\"", BoundariesTest::versionAtFromZero);
        test("Promise 16, \"all of them for an empty buffer\"", BoundariesTest::listAllForAnEmptyBuffer);
        test("Promise 16, \"the buffer itself if it is a present key\"", BoundariesTest::listTheBufferItself);
        test("Promise 16, \"begin with the buffer's letters\"", BoundariesTest::listJustWhatBeginsSo);
        test("Promise 16, \"the keys that are present\"", BoundariesTest::listJustWhatIsPresent);
        test("Promise 16, \"are one entry together .. the letters up to and with that 5\"",
            BoundariesTest::foldersOneEntryTogether);
        test("Promise 16, \"a letter 5 behind the buffer's letters\"", BoundariesTest::foldersBehindTheBuffer);
        test("Promise 16, \"at the same place behind the same letters\"",
            BoundariesTest::foldersBehindTheSameLetters);
        test("Promise 16, \"in the place of the first of them\"", BoundariesTest::foldersInThePlaceOfTheFirst);
        test("Promise 16, \"the keys that are present\", in folders", BoundariesTest::foldersOfPresentKeysAlone);
        test("Promise 16, \"If 'folders'\"", BoundariesTest::noFoldersUnlessAsked);
        test("Promise 17, \"(letter + 1) times 7 to the power of the letter's place\"", BoundariesTest::entrySum);
        test("Promise 17, \"NONE if there is none\"", BoundariesTest::entryNone);
    }

    private static void orderAndLimits() {
        test("Promise 18, \"BAD_LETTER .. before FULL\"", BoundariesTest::orderBadLetterBeforeFull);
        test("Promise 18, \"NO_KEY before FULL\"", BoundariesTest::orderNoKeyBeforeFull);
        test("Promise 18, \"BAD_UPLOAD, BAD_PART, FULL\", BAD_UPLOAD first", BoundariesTest::orderBadUploadFirst);
        test("Promise 18, \"BAD_UPLOAD, BAD_PART, FULL\", FULL last", BoundariesTest::orderBadPartBeforeFull);
        test("Promise 18, \"how many versions are there then, of all keys together\"",
            BoundariesTest::destroyCountsAllKeys);
    }

    public static void main(String[] args) {
        terms();
        bufferAndVersions();
        uploads();
        expiry();
        asking();
        orderAndLimits();
        System.out.println(tests + " tests, " + wrong + " answers are not as due");
        if (wrong != 0) {
            System.exit(1);
        }
    }
}
