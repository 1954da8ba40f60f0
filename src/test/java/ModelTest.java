import java.util.ArrayList;
import java.util.HashMap;
import java.util.LinkedHashSet;
import java.util.List;
import java.util.Map;
import java.util.Random;
import java.util.TreeMap;
import java.util.TreeSet;

/**
 * Runs of calls, drawn with fixed seeds, answered by the class and by a second, plain reading of the
 * document that is written over the Java library. The two must answer alike.
 */
public final class ModelTest {
    private static final int RUNS = 4000;
    private static final int CALLS = 512;

    private static final class Version {
        final int number;
        final String key;
        final boolean isObject;
        final int content;

        Version(int number, String key, boolean isObject, int content) {
            this.number = number;
            this.key = key;
            this.isObject = isObject;
            this.content = content;
        }
    }

    private static final class Upload {
        final String key;
        final TreeMap<Integer, Integer> parts = new TreeMap<>();

        Upload(String key) {
            this.key = key;
        }
    }

    private static final class Model {
        private String buffer = "";
        private final TreeMap<Integer, Version> versions = new TreeMap<>();
        private final Map<Integer, Upload> uploads = new HashMap<>();
        private int made = 0;

        int type(int letter) {
            if (letter < 0 || letter > 5) {
                return BucketVersions.BAD_LETTER;
            }
            if (buffer.length() == 4) {
                return BucketVersions.FULL;
            }
            buffer += letter;
            return buffer.length();
        }

        int erase() {
            buffer = "";
            return 0;
        }

        private int make(String key, boolean isObject, int content) {
            if (versions.size() == 24) {
                return BucketVersions.FULL;
            }
            versions.put(made, new Version(made, key, isObject, content));
            return made++;
        }

        int put(int content) {
            return buffer.isEmpty() ? BucketVersions.NO_KEY : make(buffer, true, content);
        }

        int remove() {
            return buffer.isEmpty() || !isPresent(buffer) ? BucketVersions.NO_KEY : make(buffer, false, 0);
        }

        int destroy(int version) {
            return versions.remove(version) == null ? BucketVersions.NO_VERSION : versions.size();
        }

        int begin() {
            if (buffer.isEmpty()) {
                return BucketVersions.NO_KEY;
            }
            for (int number = 0; number <= 2; number++) {
                if (!uploads.containsKey(number)) {
                    uploads.put(number, new Upload(buffer));
                    return number;
                }
            }
            return BucketVersions.FULL;
        }

        int part(int upload, int number, int value) {
            if (!uploads.containsKey(upload)) {
                return BucketVersions.BAD_UPLOAD;
            }
            if (number < 0 || number > 7) {
                return BucketVersions.BAD_PART;
            }
            uploads.get(upload).parts.put(number, value);
            return uploads.get(upload).parts.size();
        }

        int complete(int upload, int parts) {
            Upload ended = uploads.get(upload);
            if (ended == null) {
                return BucketVersions.BAD_UPLOAD;
            }
            boolean some = false;
            int content = 0;
            for (int n = 0; n <= 7; n++) {
                if ((parts & (1 << n)) != 0) {
                    if (!ended.parts.containsKey(n)) {
                        return BucketVersions.BAD_PART;
                    }
                    some = true;
                    content = content * 31 + ended.parts.get(n);
                }
            }
            if (!some) {
                return BucketVersions.BAD_PART;
            }
            if (versions.size() == 24) {
                return BucketVersions.FULL;
            }
            uploads.remove(upload);
            return make(ended.key, true, content);
        }

        int abort(int upload) {
            Upload dropped = uploads.remove(upload);
            return dropped == null ? BucketVersions.BAD_UPLOAD : dropped.parts.size();
        }

        int expire(int keep) {
            long kept = Math.max(0, Math.min(24, keep)) + 1L;
            int before = versions.size();
            for (String key : keys()) {
                List<Version> newestFirst = versionsOf(key);
                for (int i = 0; i < newestFirst.size(); i++) {
                    if (i >= kept) {
                        versions.remove(newestFirst.get(i).number);
                    }
                }
                List<Version> left = versionsOf(key);
                if (left.size() == 1 && !left.get(0).isObject) {
                    versions.remove(left.get(0).number);
                }
            }
            return before - versions.size();
        }

        private TreeSet<String> keys() {
            TreeSet<String> keys = new TreeSet<>();
            for (Version version : versions.values()) {
                keys.add(version.key);
            }
            return keys;
        }

        private List<Version> versionsOf(String key) {
            List<Version> newestFirst = new ArrayList<>();
            for (Version version : versions.descendingMap().values()) {
                if (version.key.equals(key)) {
                    newestFirst.add(version);
                }
            }
            return newestFirst;
        }

        private boolean isPresent(String key) {
            List<Version> newestFirst = versionsOf(key);
            return !newestFirst.isEmpty() && newestFirst.get(0).isObject;
        }

        int get() {
            return isPresent(buffer) ? versionsOf(buffer).get(0).content : 0;
        }

        int present() {
            return isPresent(buffer) ? 1 : 0;
        }

        int content(int version) {
            Version found = versions.get(version);
            return found == null || !found.isObject ? 0 : found.content;
        }

        int versionAt(int i) {
            List<Version> newestFirst = versionsOf(buffer);
            return i < 0 || i >= newestFirst.size() ? BucketVersions.NONE : newestFirst.get(i).number;
        }

        private List<String> listing(boolean folders) {
            LinkedHashSet<String> entries = new LinkedHashSet<>();
            for (String key : keys()) {
                if (key.startsWith(buffer) && isPresent(key)) {
                    int five = key.indexOf('5', buffer.length());
                    entries.add(folders && five >= 0 ? key.substring(0, five + 1) : key);
                }
            }
            return new ArrayList<>(entries);
        }

        int list(boolean folders) {
            return listing(folders).size();
        }

        int entry(int i, boolean folders) {
            List<String> entries = listing(folders);
            if (i < 0 || i >= entries.size()) {
                return BucketVersions.NONE;
            }
            int sum = 0;
            for (int place = entries.get(i).length() - 1; place >= 0; place--) {
                sum = sum * 7 + (entries.get(i).charAt(place) - '0' + 1);
            }
            return sum;
        }
    }

    private static final String[] NAMES = {
        "type", "erase", "put", "remove", "destroy", "begin", "part", "complete", "abort", "expire",
        "get", "present", "content", "versionAt", "list", "entry"
    };

    /** One call with up to three arguments; a boolean argument is true where its int is odd. */
    private static int onClass(BucketVersions x, String name, int a, int b, int c) {
        switch (name) {
            case "type": return x.type(a);
            case "erase": x.erase(); return 0;
            case "put": return x.put(a);
            case "remove": return x.remove();
            case "destroy": return x.destroy(a);
            case "begin": return x.begin();
            case "part": return x.part(a, b, c);
            case "complete": return x.complete(a, b);
            case "abort": return x.abort(a);
            case "expire": return x.expire(a);
            case "get": return x.get();
            case "present": return x.present() ? 1 : 0;
            case "content": return x.content(a);
            case "versionAt": return x.versionAt(a);
            case "list": return x.list((a & 1) != 0);
            default: return x.entry(a, (b & 1) != 0);
        }
    }

    private static int onModel(Model x, String name, int a, int b, int c) {
        switch (name) {
            case "type": return x.type(a);
            case "erase": return x.erase();
            case "put": return x.put(a);
            case "remove": return x.remove();
            case "destroy": return x.destroy(a);
            case "begin": return x.begin();
            case "part": return x.part(a, b, c);
            case "complete": return x.complete(a, b);
            case "abort": return x.abort(a);
            case "expire": return x.expire(a);
            case "get": return x.get();
            case "present": return x.present();
            case "content": return x.content(a);
            case "versionAt": return x.versionAt(a);
            case "list": return x.list((a & 1) != 0);
            default: return x.entry(a, (b & 1) != 0);
        }
    }

    /** A number of the range and, now and then, one just outside it or any int at all. */
    private static int around(Random random, int least, int greatest) {
        int kind = random.nextInt(40);
        if (kind == 0) {
            return random.nextInt();
        }
        if (kind == 1) {
            return random.nextBoolean() ? least - 1 : greatest + 1;
        }
        return least + random.nextInt(greatest - least + 1);
    }

    private static int firstArgument(Random random, String name, Model model) {
        switch (name) {
            case "type": return random.nextInt(3) == 0 ? 5 : around(random, 0, 5);
            case "put": return random.nextInt();
            case "destroy": return around(random, Math.max(0, model.made - 30), model.made);
            case "content": return around(random, Math.max(0, model.made - 30), model.made);
            case "part":
            case "complete":
            case "abort": return around(random, 0, 2);
            case "expire": return around(random, 0, 8);
            case "versionAt": return around(random, 0, 3);
            case "entry": return around(random, 0, 12);
            default: return random.nextInt(2);
        }
    }

    private static int secondArgument(Random random, String name, Model model, int upload) {
        if (name.equals("part")) {
            return around(random, 0, 7);
        }
        if (name.equals("complete") && model.uploads.containsKey(upload) && random.nextInt(4) != 0) {
            int there = 0;
            for (int number : model.uploads.get(upload).parts.keySet()) {
                there |= 1 << number;
            }
            return (there & random.nextInt()) | (random.nextInt(8) << 8);
        }
        return random.nextInt(256);
    }

    /** How often each call comes, in the order of NAMES: a run that grows, a mixed one, one of uploads. */
    private static final int[][] WEIGHTS = {
        {40, 16, 24, 6, 2, 2, 3, 2, 1, 1, 4, 4, 4, 6, 8, 16},
        {30, 12, 16, 8, 8, 3, 6, 3, 1, 2, 4, 4, 4, 6, 6, 12},
        {20, 8, 6, 4, 4, 8, 30, 12, 2, 2, 4, 2, 4, 4, 3, 6},
    };

    private static String drawnName(Random random, int[] weights) {
        int sum = 0;
        for (int weight : weights) {
            sum += weight;
        }
        int drawn = random.nextInt(sum);
        int i = 0;
        while (drawn >= weights[i]) {
            drawn -= weights[i];
            i++;
        }
        return NAMES[i];
    }

    /** Answers whether the two answered alike up to the end. */
    private static boolean runAlike(int seed) {
        Random random = new Random(seed);
        BucketVersions x = new BucketVersions();
        Model model = new Model();
        List<String> calls = new ArrayList<>();
        for (int n = 0; n < CALLS; n++) {
            String name = drawnName(random, WEIGHTS[seed % WEIGHTS.length]);
            int a = firstArgument(random, name, model);
            int b = secondArgument(random, name, model, a);
            int c = random.nextInt(3) == 0 ? random.nextInt() : random.nextInt(10);
            int want = onModel(model, name, a, b, c);
            int got = onClass(x, name, a, b, c);
            calls.add(name + "(" + a + ", " + b + ", " + c + ") = " + want);
            if (got != want) {
                System.out.println("run " + seed + ": " + String.join("; ", calls) + "; but answered " + got);
                return false;
            }
        }
        return true;
    }

    public static void main(String[] args) {
        int wrong = 0;
        for (int seed = 0; seed < RUNS && wrong < 3; seed++) {
            if (!runAlike(seed)) {
                wrong++;
            }
        }
        System.out.println(wrong == 0 ? "all runs are as due" : wrong + " runs are not as due");
        if (wrong != 0) {
            System.exit(1);
        }
    }
}
