import java.nio.charset.StandardCharsets;
import java.util.ArrayList;
import java.util.List;
import java.util.NoSuchElementException;
import java.util.function.Supplier;
import java.util.function.ToLongFunction;

/** What the tests share: due answers, and the way a text comes onto the tape. */
final class Checks {
    private int wrong = 0;
    private int made = 0;

    void due(String call, long got, long want) {
        made++;
        if (got != want) {
            wrong++;
            if (wrong <= 40) {
                System.out.println(call + " answered " + got + ", due is " + want);
            }
        }
    }

    void due(String call, boolean got, boolean want) {
        due(call, got ? 1L : 0L, want ? 1L : 0L);
    }

    int wrongOnes() {
        return wrong;
    }

    void end() {
        System.out.println(wrong == 0 ? made + " answers are as due" : wrong + " answers of " + made + " are not as due");
        if (wrong != 0) {
            System.exit(1);
        }
    }

    static long[] signs(byte[] bytes, int from) {
        long[] three = new long[3];
        for (int i = 0; i < 24; i++) {
            long sign = from + i < bytes.length ? bytes[from + i] & 255L : 0L;
            three[i / 8] = three[i / 8] << 8 | sign;
        }
        return three;
    }

    static int feed(FoldedRealm realm, String text) {
        byte[] bytes = text.getBytes(StandardCharsets.ISO_8859_1);
        int there = realm.count(13);
        for (int from = 0; from < bytes.length; from += 24) {
            long[] three = signs(bytes, from);
            there = realm.feed(three[0], three[1], three[2]);
        }
        return there;
    }

    static FoldedRealm told(String text) {
        FoldedRealm realm = new FoldedRealm();
        feed(realm, text);
        int fault = realm.realm();
        if (fault != 0) {
            throw new IllegalStateException("fault " + fault + " in " + text);
        }
        return realm;
    }

    static int tellSundays(FoldedRealm realm, String text) {
        feed(realm, text);
        return realm.sundays();
    }

    static String word(String name, int fold, int weight, int good, int left) {
        return "word " + name + " fold " + fold + " weight " + weight + " good " + good + " left " + left + ";";
    }

    /** What rests answers, or -99 if it throws what the document names. */
    static int rests(FoldedRealm x, int alone, int both, int none, int what) {
        try {
            return x.rests(alone, both, none, what);
        } catch (NoSuchElementException e) {
            return -99;
        }
    }

    /** The call answers that, and leaves all that can be seen as in a twin that was not called. */
    void changesNothing(String call, Supplier<FoldedRealm> made, ToLongFunction<FoldedRealm> called, long want) {
        FoldedRealm x = made.get();
        due(call, called.applyAsLong(x), want);
        alike(call + " changes nothing", x, made.get());
    }

    /** Nothing that can be seen tells the two apart; they are used up by this. */
    void alike(String what, FoldedRealm one, FoldedRealm other) {
        due(what, allOf(one).equals(allOf(other)), true);
    }

    /** All that can be seen of an object, what can be undone and what is on the marks, too. */
    private static List<Integer> allOf(FoldedRealm x) {
        List<Integer> all = new ArrayList<>();
        nowOf(x, all);
        int writers = x.count(0);
        int words = x.count(1);
        for (int w = 0; w < words; w++) {
            all.add(x.word(w, 0) * 10000 + x.word(w, 1) * 1000 + x.word(w, 2) * 10 + x.word(w, 4));
            for (int i = 0; i < writers; i++) {
                all.add(x.writer(i, w + 1));
            }
        }
        for (int i = 0; i < writers; i++) {
            all.add(x.writer(i, 0));
        }
        int undone = 0;
        while (undone <= 16 && x.undo()) {
            undone++;
            all.add(x.count(3) * 1000 + x.count(4) * 100 + x.count(6));
            all.add(x.count(7) * 1000 + x.count(8));
        }
        all.add(undone);
        nowOf(x, all);
        for (int m = 0; m < 4; m++) {
            if (x.mark(m, true)) {
                all.add(m);
                nowOf(x, all);
            }
        }
        all.add(x.realm());
        return all;
    }

    private static void nowOf(FoldedRealm x, List<Integer> all) {
        int[] counts = new int[14];
        for (int i = 0; i < 14; i++) {
            counts[i] = x.count(i);
            all.add(counts[i]);
        }
        for (int w = 0; w < counts[1]; w++) {
            all.add(x.word(w, 3));
        }
        for (int f = 0; f < counts[4]; f++) {
            all.add(x.strip(f));
        }
        for (int i = 0; i < counts[6]; i++) {
            for (int f = 0; f < counts[2]; f++) {
                all.add(x.spike(i, f));
            }
        }
        for (int i = 0; i < 3; i++) {
            all.add(x.judged(i));
        }
        all.add(x.mean());
        all.add(x.began());
        all.add(x.generations(77, 30, 1));
    }
}
