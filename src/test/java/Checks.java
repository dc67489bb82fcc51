import java.nio.charset.StandardCharsets;

/** What the tests share: due answers, and the way a text comes onto the tape. */
final class Checks {
    private int wrong = 0;
    private int made = 0;

    void due(String call, long got, long want) {
        made++;
        if (got != want) {
            wrong++;
            if (wrong <= 40) {
                System.out.println(call + " answered " + got + ", due is " + want);
            }
        }
    }

    void due(String call, boolean got, boolean want) {
        due(call, got ? 1L : 0L, want ? 1L : 0L);
    }

    int wrongOnes() {
        return wrong;
    }

    void end() {
        System.out.println(wrong == 0 ? made + " answers are as due" : wrong + " answers of " + made + " are not as due");
        if (wrong != 0) {
            System.exit(1);
        }
    }

    static long[] signs(byte[] bytes, int from) {
        long[] three = new long[3];
        for (int i = 0; i < 24; i++) {
            long sign = from + i < bytes.length ? bytes[from + i] & 255L : 0L;
            three[i / 8] = three[i / 8] << 8 | sign;
        }
        return three;
    }

    static int feed(FoldedRealm realm, String text) {
        byte[] bytes = text.getBytes(StandardCharsets.ISO_8859_1);
        int there = realm.count(13);
        for (int from = 0; from < bytes.length; from += 24) {
            long[] three = signs(bytes, from);
            there = realm.feed(three[0], three[1], three[2]);
        }
        return there;
    }

    static FoldedRealm told(String text) {
        FoldedRealm realm = new FoldedRealm();
        feed(realm, text);
        int fault = realm.realm();
        if (fault != 0) {
            throw new IllegalStateException("fault " + fault + " in " + text);
        }
        return realm;
    }

    static int tellSundays(FoldedRealm realm, String text) {
        feed(realm, text);
        return realm.sundays();
    }
}
