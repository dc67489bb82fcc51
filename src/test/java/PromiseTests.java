import java.util.NoSuchElementException;

/** One test or more for each promise of the document, its answers worked out by hand. */
public final class PromiseTests {
    private static final Checks checks = new Checks();

    /** Two folds, three writers, few words: small enough to follow with a pencil. */
    private static final String SMALL = "folds 2;writer p plain;writer q wise;writer r sly;"
        + "word a fold 0 weight 2 good 3 left 2;word b fold 0 weight 6 good 10 left 1;"
        + "word c fold 1 weight 1 good 5 left 3;word d fold 1 weight 0 good 20 left 9;"
        + "likes p a 2;likes q c 3;clash a d;clash b c;";

    private static void due(String call, long got, long want) {
        checks.due(call, got, want);
    }

    private static void due(String call, boolean got, boolean want) {
        checks.due(call, got, want);
    }

    private static int realmOf(String text) {
        FoldedRealm x = new FoldedRealm();
        Checks.feed(x, text);
        return x.realm();
    }

    private static void fault(String text, int kind, int place) {
        due("realm of " + text, realmOf(text), kind == 0 ? 0 : kind + 16 * place);
    }

    private static void sundayFault(String text, int kind, int place) {
        FoldedRealm x = Checks.told(SMALL);
        due("sundays of " + text, Checks.tellSundays(x, text), kind == 0 ? 0 : kind + 16 * place);
    }

    private static String word(String name, int fold, int weight, int good, int left) {
        return "word " + name + " fold " + fold + " weight " + weight + " good " + good + " left " + left + ";";
    }

    private static void writeAll(FoldedRealm x, int... words) {
        for (int w : words) {
            if (x.write(w) == FoldedRealm.NONE) {
                throw new IllegalStateException("can't write " + w);
            }
        }
    }

    private static void promise1New() {
        FoldedRealm x = new FoldedRealm();
        int[] counts = {0, 0, 3, 0, 0, -1, 0, 0, 0, 0, 0, 0, 0, 0};
        for (int i = 0; i < counts.length; i++) {
            due("new count " + i, x.count(i), counts[i]);
        }
        due("new word", x.word(0, 0), -2);
        due("new writer", x.writer(0, 0), -2);
        due("new write", x.write(0), -1);
        due("new burn", x.burn(0), -1);
        due("new read", x.read(0), false);
        due("new meet", x.meet(0, 1, 1), -1);
        due("new aim", x.aim(0, 0), -1);
        due("NONE", FoldedRealm.NONE, -1);
    }

    private static void promise2Feed() {
        FoldedRealm x = new FoldedRealm();
        due("feed nothing", x.feed(0, 0, 0), 0);
        // 9, 10, 11, 31, 32, 126, 127, 128: three are signs.
        due("feed edges", x.feed(0x090A0B1F207E7F80L, 0, 0), 3);
        due("feed high ones", x.feed(-1L, Long.MIN_VALUE, 0xFF61FF62FF63FF64L), 7);
        due("realm takes the tape", x.realm(), 1 + 16 * 2);
        due("empty then", x.count(13), 0);
        // "folds 2;" in a, then b, then c, the highest byte first.
        due("feed in order", x.feed(0x0000666F6C640000L, 0x0000000000000073L, 0x20323B0000000000L), 8);
        due("realm of it", x.realm(), 0);
        due("folds of it", x.count(2), 2);
        for (int i = 1; i <= 41; i++) {
            due("feed blanks " + i, x.feed(0x2020202020202020L, 0x2020202020202020L, 0x0A0A0A0A0A0A0A0AL), 24 * i);
        }
        due("feed up to 1000", x.feed(0x2020202020202020L, 0x2020202020202020L, 0x2020202020202020L), 1000);
        due("feed beyond", x.feed(0x6161616161616161L, 0, 0), 1000);
        due("blanks are a realm", x.realm(), 0);
    }

    private static void promise3Tokens() {
        fault("", 0, 0);
        fault(" \n ", 0, 0);
        fault("folds2;", 0, 0);
        fault("folds 0002;", 0, 0);
        fault("folds 00002;", 1, 6);
        fault("folds\n2 ;\n", 0, 0);
        fault("folds 2", 1, 7);
        fault("folds 2  ", 1, 9);
        fault("writer abcdefgh plain;", 0, 0);
        fault("writer abcdefghi plain;", 1, 7);
        fault("writer Ab plain;", 1, 7);
        fault("writer aB plain;", 1, 8);
        fault("writer a1 plain;", 1, 8);
        fault("  $", 1, 2);
        fault("writes 1and 2;", 0, 0);
        fault("writes 12345;", 1, 7);
        fault("writes 9999;", 0, 0);
        fault("writerx a plain;", 1, 0);
    }

    private static void promise3Lines() {
        fault("writer plain plain;", 1, 7);
        fault("writer and plain;", 1, 7);
        fault("writer heavy plain;", 0, 0);
        fault("writer sum plain;", 0, 0);
        fault("writer a ;", 1, 9);
        fault("writer a plain,", 1, 14);
        fault("writer a plain;writer a wise;", 3, 22);
        fault("writer a plain;word a fold 0 weight 0 good 0 left 0;", 3, 20);
        fault("word a fold 0 weight 0 good 0 left 0;writer a plain;", 3, 44);
        fault("writer a plain;writer b wise;writer c wild;writer d sly;writer e sly;", 0, 0);
        fault("writer a plain;writer b wise;writer c wild;writer d sly;writer e sly;writer", 5, 69);
        fault("word a fold 3 weight 9 good 20 left 9;", 0, 0);
        fault("word a fold 4 weight 9 good 20 left 9;", 4, 12);
        fault("word a fold 3 weight 10 good 20 left 9;", 4, 21);
        fault("word a fold 3 weight 9 good 21 left 9;", 4, 28);
        fault("word a fold 3 weight 9 good 20 left 10;", 4, 36);
        fault("word a weight 9 fold 3 good 20 left 9;", 1, 7);
        fault("word a fold b weight 9 good 20 left 9;", 1, 12);
        StringBuilder many = new StringBuilder();
        for (int i = 0; i < 12; i++) {
            many.append(word("w" + (char) ('a' + i), i % 4, 1, 1, 1));
        }
        fault(many.toString(), 0, 0);
        fault(many + "word", 5, many.length());
        fault("folds 1;", 4, 6);
        fault("folds 2;", 0, 0);
        fault("folds 4;", 0, 0);
        fault("folds 5;", 4, 6);
        fault("folds 2;folds", 3, 8);
        fault("fold 2;", 1, 0);
        fault("write a;", 1, 0);
        fault("a;", 1, 0);
        fault(";", 1, 0);
    }

    private static void promise3Pairs() {
        String two = "writer p sly;" + word("a", 0, 1, 1, 1) + word("b", 1, 1, 1, 1);
        int n = two.length();
        fault(two + "likes p a 1;likes p b 9;clash a b;", 0, 0);
        fault(two + "likes a a 1;", 2, n + 6);
        fault(two + "likes x a 1;", 2, n + 6);
        fault(two + "likes or a 1;", 1, n + 6);
        fault(two + "likes p p 1;", 2, n + 8);
        fault(two + "likes p x 1;", 2, n + 8);
        fault(two + "likes p 1;", 1, n + 8);
        fault(two + "likes p a 0;", 4, n + 10);
        fault(two + "likes p a 10;", 4, n + 10);
        fault(two + "likes p a x;", 1, n + 10);
        fault(two + "likes p a 1;likes p a 2;", 3, n + 20);
        fault(two + "clash p a;", 2, n + 6);
        fault(two + "clash a p;", 2, n + 8);
        fault(two + "clash a a;", 3, n + 8);
        fault(two + "clash a b;clash a b;", 3, n + 18);
        fault(two + "clash a b;clash b a;", 3, n + 18);
        fault(two + "clash a b c;", 1, n + 10);
        fault("clash a b;" + two, 2, 6);
        fault(two + "likes p a 1;likes p b 2;clash a b;clash a not;", 1, n + 42);
    }

    private static void promise3Formulas() {
        fault("writes heavy+fond*small-more<ahead;", 0, 0);
        fault("does sum+most-spiked;", 0, 0);
        fault("writes sum;", 1, 7);
        fault("does ahead;", 1, 5);
        fault("writes ;", 1, 7);
        fault("writes 1+;", 1, 9);
        fault("writes -1;", 1, 7);
        fault("writes 1 2;", 1, 9);
        fault("writes 1<2<3;", 1, 10);
        fault("writes 1<2=3;", 1, 10);
        fault("writes 1<2 and 3=3 or 2<1;", 0, 0);
        fault("writes (1<2)<3;", 0, 0);
        fault("writes (1;", 1, 9);
        fault("writes 1);", 1, 8);
        fault("writes ();", 1, 8);
        fault("writes not;", 1, 10);
        fault("writes 1;writes", 3, 9);
        fault("does 1;does", 3, 7);
        fault("writes 1;does 1;", 0, 0);
        fault("writes ((((1))));", 0, 0);
        fault("writes (((((1)))));", 5, 12);
        fault("writes (((((heavy)))));", 5, 12);
        fault("writes (((((sum)))));", 1, 12);
        fault("writes ((((((1))))));", 5, 12);
        fault("writes (((((not 1)))));", 5, 12);
        fault("writes (((((;", 1, 12);
        fault("writes not not not not 1;", 0, 0);
        fault("writes not not not not not 1;", 5, 27);
        fault("writes not not not not not not 1;", 5, 27);
        fault("writes not(not(not(1)));", 5, 18);
        fault("writes not(not(1))+((((1))));", 0, 0);
        fault("does not((((1))));", 5, 12);
    }

    /** What an E of writes comes to, for a word of weight 3, good 4, left 2. */
    private static void comesTo(String formula, int want) {
        FoldedRealm x = Checks.told(word("a", 0, 3, 4, 2) + "writes " + formula + ";");
        due(formula, x.word(0, 4), want);
    }

    private static void promise3Values() {
        comesTo("2+3*4", 14);
        comesTo("(2+3)*4", 20);
        comesTo("10-3-2", 5);
        comesTo("2*3*4", 24);
        comesTo("1 or 0 and 0", 0);
        comesTo("0 and 0 or 1", 1);
        comesTo("1 or (0 and 0)", 1);
        comesTo("7 and 8", 1);
        comesTo("0 or 8", 1);
        comesTo("0 or 0", 0);
        comesTo("not 5", 0);
        comesTo("not 0+5", 6);
        comesTo("not 1*3", 0);
        comesTo("not not 7", 1);
        comesTo("3<4", 1);
        comesTo("4<4", 0);
        comesTo("4=4", 1);
        comesTo("4=5", 0);
        comesTo("1+2<2*2 and 5", 1);
        comesTo("5-(1=1)", 4);
        comesTo("0-1<0", 1);
        comesTo("(0-3) and 1", 1);
        comesTo("0-5", 0);
        comesTo("99", 99);
        comesTo("100", 99);
        comesTo("4096*4096*256+7", 7);
        comesTo("4096*4096*128", 0);
        comesTo("4096*4096*128-1", 99);
        comesTo("heavy*10+small", 34);
        comesTo("more+fond+ahead", 2);
        StringBuilder deep = new StringBuilder();
        for (int i = 0; i < 4; i++) {
            deep.append("0 or 1 = 1 + 1 * (");
        }
        comesTo(deep + "0 or 1 = 0 + 1 * 1" + "))))", 1);
    }

    private static void promise3StaysOrBegins() {
        FoldedRealm x = Checks.told(SMALL);
        writeAll(x, 0, 2, 1);
        x.pass();
        x.read(0);
        x.mark(2, false);
        Checks.tellSundays(x, "pass;");
        Checks.feed(x, "writer z plain;oh");
        due("a fault", x.realm(), 1 + 16 * 15);
        due("writers stay", x.count(0), 3);
        due("spike stays", x.count(6), 1);
        due("strip stays", x.strip(0), 1);
        due("sundays stay", x.count(10), 1);
        due("read stays", x.count(11), 1);
        due("undo stays", x.count(12), 3);
        due("mark stays", x.mark(2, true), true);
        Checks.feed(x, SMALL);
        due("anew", x.realm(), 0);
        int[] counts = {3, 4, 2, 0, 0, 0, 0, 0, 15, 2, 0, 0, 0, 0};
        for (int i = 0; i < counts.length; i++) {
            due("anew count " + i, x.count(i), counts[i]);
        }
        due("no mark", x.mark(2, true), false);
        due("nothing undone", x.undo(), false);
        Checks.feed(x, "");
        due("an empty one", x.realm(), 0);
        due("folds again", x.count(2), 3);
        due("no words", x.count(1), 0);
        Checks.feed(x, "writer z plain;word a fold 0 weight 9 good 1 left 1;");
        due("a last one", x.realm(), 0);
        due("old likes are gone", x.writer(0, 1), 0);
        due("old clashes are gone", x.count(9), 0);
        due("old formulas are gone", x.word(0, 4), 9);
    }

    private static void promise4Sundays() {
        sundayFault("", 0, 0);
        sundayFault("write a;burn 0;burn 9;pass;", 0, 0);
        sundayFault("write d;write d;pass ;", 0, 0);
        sundayFault("write x;", 2, 6);
        sundayFault("write p;", 2, 6);
        sundayFault("write pass;", 1, 6);
        sundayFault("write 1;", 1, 6);
        sundayFault("write a", 1, 7);
        sundayFault("burn 10;", 4, 5);
        sundayFault("burn a;", 1, 5);
        sundayFault("pass 1;", 1, 5);
        sundayFault("folds 2;", 1, 0);
        StringBuilder forty = new StringBuilder();
        for (int i = 0; i < 40; i++) {
            forty.append("pass;");
        }
        sundayFault(forty.toString(), 0, 0);
        sundayFault(forty + "pass", 5, 200);
        sundayFault(forty + "write", 5, 200);
        sundayFault(forty + "burn", 5, 200);
        sundayFault(forty + "a;", 1, 200);
        FoldedRealm x = Checks.told(SMALL);
        due("forty", Checks.tellSundays(x, forty.toString()), 0);
        due("forty lines", x.count(10), 40);
        due("a fault", Checks.tellSundays(x, "pass;pas"), 1 + 16 * 5);
        due("all stays", x.count(10), 40);
        due("the tape is taken", x.count(13), 0);
        due("none", x.sundays(), 0);
        due("no lines", x.count(10), 0);
        due("without a realm", Checks.tellSundays(new FoldedRealm(), "pass;write a;"), 2 + 16 * 11);
    }

    private static void promise5Writer() {
        FoldedRealm x = Checks.told("writer e wild;" + SMALL);
        int[] kinds = {2, 0, 1, 3};
        for (int i = 0; i < 4; i++) {
            due("kind " + i, x.writer(i, 0), kinds[i]);
        }
        due("likes p a", x.writer(1, 1), 2);
        due("likes q c", x.writer(2, 3), 3);
        due("likes not", x.writer(2, 1), 0);
        due("last word", x.writer(0, 4), 0);
        due("beyond the words", x.writer(0, 5), -2);
        due("what below", x.writer(0, -1), -2);
        due("no writer", x.writer(4, 0), -2);
        due("no writer below", x.writer(-1, 0), -2);
        due("far", x.writer(Integer.MAX_VALUE, Integer.MAX_VALUE), -2);
        due("far what", x.writer(0, Integer.MIN_VALUE), -2);
    }

    private static void promise6Word() {
        FoldedRealm x = Checks.told(SMALL);
        int[] b = {0, 6, 10, 1, 6};
        for (int i = 0; i < 5; i++) {
            due("b, " + i, x.word(1, i), b[i]);
        }
        due("a is liked", x.word(0, 4), 4);
        due("c isn't next", x.word(2, 4), -1);
        due("what 5", x.word(0, 5), -2);
        due("what -1", x.word(0, -1), -2);
        due("word 4", x.word(4, 0), -2);
        due("word -1", x.word(-1, 4), -2);
        x.pass();
        due("a wise one", x.word(0, 4), 2);
        due("a wise one, great things", x.word(1, 4), 0);
        x.pass();
        due("a sly one", x.word(0, 4), 2);
        writeAll(x, 1);
        due("one less", x.word(1, 3), 0);
        due("fold 1 by p", x.word(3, 4), 0);
        due("a isn't next now", x.word(0, 4), -1);
        writeAll(x, 2);
        due("none left of b", x.word(1, 4), 0);
    }

    private static void promise6Likely() {
        String words = word("a", 0, 4, 9, 2) + word("b", 0, 0, 10, 3) + word("c", 0, 5, 0, 0) + word("d", 1, 1, 1, 1) + "folds 2;";
        FoldedRealm x = Checks.told("writer p wild;writer q wise;writer r sly;writer s plain;" + words
            + "likes p a 5;likes q a 3;likes q b 9;likes r b 2;");
        due("wild a", x.word(0, 4), 1);
        due("wild b", x.word(1, 4), 1);
        due("wild, none left", x.word(2, 4), 0);
        x.pass();
        due("wise, 9 is small", x.word(0, 4), 7);
        due("wise, 10 is not", x.word(1, 4), 0);
        x.pass();
        due("sly, liked", x.word(1, 4), 2);
        due("sly, none left", x.word(2, 4), 0);
        x.pass();
        due("plain", x.word(0, 4), 4);
        due("plain, of no weight", x.word(1, 4), 0);
        x = Checks.told("writer r sly;writer w wise;writer v wild;" + words);
        due("sly, 1 at least", x.word(1, 4), 1);
        x = Checks.told("writer r sly;writer w wise;writer v wild;" + words + "writes small*11-50;");
        due("sly, held to 99 at most", x.word(0, 4), 49);
        due("sly, more", x.word(1, 4), 60);
        x.pass();
        due("with writes the wise are plain", x.word(1, 4), 60);
        x.pass();
        due("with writes the wild are plain", x.word(1, 4), 60);
        x = Checks.told("writer r sly;writer w wise;" + words + "writes 0-5;");
        due("sly, below 0", x.word(0, 4), 1);
        x.pass();
        due("wise, below 0", x.word(0, 4), 0);
        x = Checks.told(words);
        due("nobody", x.word(0, 4), 4);
        x = Checks.told(words + "writes 100-fond;");
        due("nobody's fond of it", x.word(0, 4), 99);
    }

    private static void promise6Ahead() {
        FoldedRealm x = Checks.told("folds 3;writes ahead+1;" + word("a", 0, 0, 7, 5) + word("b", 1, 0, 12, 5) + word("c", 2, 0, 1, 5));
        due("in the first fold", x.word(0, 4), 1);
        writeAll(x, 0);
        due("behind a", x.word(1, 4), 8);
        writeAll(x, 1);
        due("behind b", x.word(2, 4), 13);
        writeAll(x, 2);
        due("in the first one again", x.word(0, 4), 1);
        x = Checks.told("folds 2;writes more*10;" + word("a", 0, 0, 7, 5) + word("b", 1, 0, 12, 5));
        due("five left", x.word(0, 4), 50);
        writeAll(x, 0, 1);
        due("four left", x.word(0, 4), 40);
        x.burn(0);
        due("five again", x.word(0, 4), 50);
    }

    private static void promises7To9() {
        FoldedRealm x = Checks.told(SMALL);
        due("no strip yet", x.strip(0), -1);
        due("of fold 1", x.write(2), -1);
        due("no word", x.write(4), -1);
        due("no word below", x.write(-1), -1);
        due("first fold", x.write(1), 1);
        due("strip 0", x.strip(0), 1);
        due("strip 1", x.strip(1), -1);
        due("strip -1", x.strip(-1), -1);
        due("strip 4", x.strip(4), -1);
        due("of fold 0 now", x.write(0), -1);
        due("the whole", x.write(3), 0);
        due("strip is empty", x.strip(0), -1);
        due("spike 0 0", x.spike(0, 0), 1);
        due("spike 0 1", x.spike(0, 1), 3);
        due("spike 0 2", x.spike(0, 2), -1);
        due("spike 0 -1", x.spike(0, -1), -1);
        due("spike 1 0", x.spike(1, 0), -1);
        due("spike -1 0", x.spike(-1, 0), -1);
        due("seat", x.count(3), 1);
        due("good", x.count(7), 30);
        due("none left", x.write(1), -1);
        due("whoever's turn it is", x.write(0), 1);
        due("second whole", x.write(2), 0);
        due("behind the others", x.spike(1, 0), 0);
        due("good", x.count(7), 38);
        due("seat", x.count(3), 2);
        due("what is left", x.count(8), 15 - 4);
        x = Checks.told("folds 2;" + word("a", 0, 1, 1, 3) + word("b", 1, 1, 1, 3) + word("c", 2, 1, 1, 3));
        writeAll(x, 0, 1, 0);
        due("without writers the seat is 0", x.count(3), 0);
        due("a fold beyond", x.write(2), -1);
    }

    private static void promise9Spike() {
        FoldedRealm x = Checks.told("folds 2;does spiked+1;writer p plain;writer q sly;" + word("a", 0, 1, 1, 9) + word("b", 0, 1, 1, 9)
            + word("c", 1, 1, 1, 9) + word("d", 1, 1, 1, 9));
        int[] firsts = {0, 0, 1, 0, 0, 0, 1, 0, 1, 0, 1, 0};
        int good = 0;
        for (int i = 0; i < 12; i++) {
            writeAll(x, firsts[i], 2 + i % 2);
            good += Math.min(i, 10) + 1;
            due("good of " + i, x.count(7), good);
            due("wholes of " + i, x.count(6), Math.min(i + 1, 10));
        }
        for (int i = 0; i < 10; i++) {
            due("spike " + i, x.spike(i, 0), firsts[i + 2]);
        }
        due("beyond", x.spike(10, 0), -1);
        due("fallen ones don't come again", x.count(8), 36 - 24);
        x = Checks.told("folds 4;does sum-most-60;" + word("a", 0, 1, 20, 1) + word("b", 1, 1, 19, 1) + word("c", 2, 1, 18, 1) + word("d", 3, 1, 17, 1));
        writeAll(x, 0, 1, 2, 3);
        due("no less than 0", x.count(7), 0);
        x = Checks.told("folds 4;does sum+most+5;" + word("a", 0, 1, 20, 1) + word("b", 1, 1, 20, 1) + word("c", 2, 1, 20, 1) + word("d", 3, 1, 20, 1));
        writeAll(x, 0, 1, 2, 3);
        due("no more than 99", x.count(7), 99);
        x = Checks.told("folds 2;does most;" + word("a", 0, 1, 7, 1) + word("b", 1, 1, 8, 1));
        writeAll(x, 0, 1);
        due("most", x.count(7), 8);
    }

    private static void promise10Pass() {
        FoldedRealm x = Checks.told(SMALL);
        due("pass", x.pass(), 1);
        due("pass", x.pass(), 2);
        due("pass round", x.pass(), 0);
        due("the writer", x.count(5), 0);
        writeAll(x, 0);
        due("the next writer", x.count(5), 1);
        due("something is written", x.pass(), -1);
        due("seat stays", x.count(3), 0);
        due("without writers", new FoldedRealm().pass(), -1);
        x = Checks.told("writer p sly;");
        due("one writer", x.pass(), 0);
        due("it can be undone", x.count(12), 1);
    }

    private static void promise11Burn() {
        FoldedRealm x = Checks.told(SMALL);
        writeAll(x, 0, 2, 1, 3, 0, 3);
        due("burn 3", x.burn(3), -1);
        due("burn -1", x.burn(-1), -1);
        due("burn", x.burn(1), 2);
        due("moved up", x.spike(1, 0), 0);
        due("moved up", x.spike(1, 1), 3);
        due("first stays", x.spike(0, 1), 2);
        due("gone", x.spike(2, 0), -1);
        due("left again", x.word(1, 3), 1);
        due("left again", x.word(3, 3), 8);
        due("good stays", x.count(7), 8 + 30 + 23);
        due("seat stays", x.count(3), 0);
        writeAll(x, 1);
        due("in the midst of a whole", x.burn(0), 1);
        due("strip stays", x.strip(0), 1);
        due("last", x.burn(0), 0);
        due("none", x.burn(0), -1);
        x = Checks.told("folds 2;" + word("a", 0, 1, 1, 9) + word("b", 1, 1, 1, 9));
        writeAll(x, 0, 1);
        due("eight", x.word(0, 3), 8);
        x.burn(0);
        due("nine at most", x.word(0, 3), 9);
    }

    private static void promise12Undo() {
        FoldedRealm x = Checks.told(SMALL);
        due("nothing", x.undo(), false);
        x.pass();
        writeAll(x, 0, 2);
        x.burn(0);
        x.write(9);
        x.burn(9);
        due("four", x.count(12), 4);
        due("burn", x.undo(), true);
        due("burn undone", x.spike(0, 1), 2);
        due("burn undone", x.word(0, 3), 1);
        due("whole", x.undo(), true);
        due("whole undone", x.strip(0), 0);
        due("whole undone", x.count(6), 0);
        due("whole undone", x.count(7), 0);
        due("whole undone", x.count(3), 1);
        due("word", x.undo(), true);
        due("word undone", x.word(0, 3), 2);
        due("pass", x.undo(), true);
        due("pass undone", x.count(3), 0);
        due("nothing more", x.undo(), false);
        for (int i = 0; i < 19; i++) {
            x.pass();
        }
        due("sixteen", x.count(12), 16);
        for (int i = 0; i < 16; i++) {
            due("one by one", x.undo(), true);
        }
        due("no more", x.undo(), false);
        due("three are left", x.count(3), 0);
        x.pass();
        due("one again", x.count(12), 1);
    }

    private static void promise12FallenOff() {
        FoldedRealm x = Checks.told("folds 2;" + word("a", 0, 1, 1, 9) + word("b", 0, 1, 2, 9) + word("c", 1, 1, 1, 9) + word("d", 1, 1, 1, 9));
        writeAll(x, 1, 3);
        for (int i = 0; i < 9; i++) {
            writeAll(x, 0, 2);
        }
        due("the first", x.spike(0, 0), 1);
        writeAll(x, 1, 3);
        due("fallen off", x.spike(0, 0), 0);
        due("at the end", x.spike(9, 0), 1);
        x.undo();
        due("there again", x.spike(0, 0), 1);
        due("ten", x.count(6), 10);
    }

    private static void promise13Judged() {
        FoldedRealm x = Checks.told(SMALL);
        due("nothing, 0", x.judged(0), -1);
        due("nothing, 1", x.judged(1), -1);
        due("nothing, 2", x.judged(2), 0);
        due("others", x.judged(3), -2);
        due("others", x.judged(-1), -2);
        // b is there once: line 4 can't be, so line 5 is the second word of nothing.
        Checks.tellSundays(x, "write b;write d;pass;burn 1;write b;write c;write a;write c;burn 0;write b;write c;");
        due("burn 1 can't be", x.judged(0), 3);
        due("b d, then a c, a with d", x.judged(1), 7);
        due("good", x.judged(2), 30 + 8 + 15);
        writeAll(x, 1, 2);
        due("from the beginning, whatever is now", x.judged(2), 53);
        due("and it is as it was", x.count(6), 1);
        Checks.tellSundays(x, "write a;write d;");
        due("in itself", x.judged(1), 1);
        due("all can be", x.judged(0), -1);
        Checks.tellSundays(x, "write a;write c;burn 0;write b;write d;write b;pass;");
        due("burnt ones don't clash", x.judged(1), -1);
        due("none left", x.judged(0), 5);
        Checks.tellSundays(x, "write a;pass;burn 0;");
        due("pass can't be", x.judged(0), 1);
        x = Checks.told("folds 2;" + word("a", 1, 1, 1, 1) + word("b", 0, 1, 1, 1) + "clash a b;");
        Checks.tellSundays(x, "write b;write a;");
        due("the word 0 is the last", x.judged(1), 1);
        x = Checks.told("folds 2;writer p plain;" + word("a", 0, 1, 1, 1) + word("b", 0, 1, 0, 9) + word("e", 0, 1, 0, 9) + word("c", 1, 1, 0, 9)
            + word("d", 1, 1, 0, 9) + word("f", 1, 1, 0, 9) + "clash a f;");
        StringBuilder text = new StringBuilder("write a;write c;");
        for (int i = 0; i < 9; i++) {
            text.append(i < 5 ? "write b;write c;" : "write e;write d;");
        }
        Checks.tellSundays(x, text + "write b;write f;");
        due("the first has fallen off", x.judged(1), -1);
        Checks.tellSundays(x, text.substring(0, text.length() - 16) + "write b;write f;");
        due("the first is there", x.judged(1), 19);
    }

    private static void promises14To17() {
        // p writes fold 0: a 4, b 6; q (wise) fold 1: c 4, d 0 (its good is 20).
        FoldedRealm x = Checks.told(SMALL);
        due("a c", x.comes(0b0101), 400000);
        due("b c", x.comes(0b0110), 600000);
        due("b d", x.comes(0b1010), 0);
        due("a alone", x.comes(0b0001), -1);
        due("a b", x.comes(0b0011), -1);
        due("a b c", x.comes(0b0111), -1);
        due("beyond", x.comes(0b10101), -1);
        due("below 0", x.comes(-1), -1);
        due("the sign", x.comes(Integer.MIN_VALUE | 0b0101), -1);
        due("best", x.best(-1), 600000);
        due("best 0", x.best(0), 1);
        due("best 1", x.best(1), 2);
        due("best 2", x.best(2), -2);
        due("best -2", x.best(-2), -2);
        due("worst", x.worst(), 8);
        due("mean", x.mean(), (8 * 400000 + 15 * 600000) / 1000);
        writeAll(x, 0);
        due("best of a fold written", x.best(0), -2);
        due("best 1", x.best(1), 2);
        due("all comes", x.best(-1), 1000000);
        due("c comes", x.comes(0b0100), 1000000);
        due("d comes not", x.comes(0b1000), 0);
        due("a c is no row now", x.comes(0b0101), -1);
        due("worst with a", x.worst(), 8);
        due("mean with a", x.mean(), 8000);
        x.undo();
        x.pass();
        // q writes fold 0: a 2, b 0; r (sly) fold 1: c 1, d 1.
        due("equal ones: the first", x.best(1), 2);
        due("half", x.best(-1), 500000);
        due("mean", x.mean(), (8 * 500000 + 23 * 500000) / 1000);
        // thirds are cut, each row for itself: 3 * 333333.
        x = Checks.told("folds 2;" + word("a", 0, 1, 1, 1) + word("b", 0, 1, 1, 1) + word("c", 0, 1, 1, 1) + word("d", 1, 1, 0, 1));
        due("a third", x.comes(0b1001), 333333);
        due("cut", x.mean(), 999);
        x = Checks.told("folds 3;writes 1;" + word("a", 0, 1, 4, 1) + word("b", 1, 1, 3, 1) + word("c", 2, 1, 2, 0));
        due("nothing left", x.best(-1), -2);
        due("nothing left", x.best(0), -2);
        due("nothing left", x.worst(), -1);
        due("nothing left", x.mean(), 0);
        due("nothing left", x.comes(7), 0);
        x = Checks.told("folds 2;does sum*(most<5)+spiked;writes 1+ahead;" + word("a", 0, 1, 4, 3) + word("b", 0, 1, 6, 3) + word("c", 1, 1, 0, 3)
            + word("d", 1, 1, 1, 3));
        due("does", x.worst(), 0);
        writeAll(x, 0, 2);
        due("does, spiked", x.worst(), 1);
        due("mean, spiked", x.mean(), (5 + 6 + 1 + 1) * 250);
    }

    private static void promise17MostRows() {
        StringBuilder all = new StringBuilder("folds 4;");
        for (int i = 0; i < 12; i++) {
            all.append(word("w" + (char) ('a' + i), i % 4, 1, 1, 1));
        }
        FoldedRealm x = Checks.told(all.toString());
        due("81 rows of 12345 millionths", x.mean(), 81 * 4 * 12345 / 1000);
        due("the last one of them", x.comes(0b111100000000), 12345);
        due("the first is best", x.best(3), 3);
        due("three wholes", x.spent(), 3);
    }

    private static void promise3LongestText() {
        StringBuilder text = new StringBuilder(word("a", 0, 3, 4, 2) + "writes 7");
        int want = 7;
        while (text.length() < 998) {
            text.append(want == 7 ? "+2" : "-2");
            want = want == 7 ? 9 : 7;
        }
        text.append(text.length() == 998 ? " ;" : ";");
        due("its length", text.length(), 1000);
        FoldedRealm x = Checks.told(text.toString());
        due("a tape of 1000", x.word(0, 4), want);
        StringBuilder nots = new StringBuilder("does 1");
        while (nots.length() < 990) {
            nots.append(" and not 0");
        }
        fault(nots + ";", 0, 0);
    }

    /** No argument, in no state, makes the machine throw. */
    private static void strangeArguments() {
        int[] strange = {Integer.MIN_VALUE, Integer.MIN_VALUE + 1, -65536, -17, -3, -2, -1, 0, 1, 2, 3, 4, 5, 6, 9, 10, 11, 12, 13, 16, 31, 32, 100,
            65535, Integer.MAX_VALUE - 1, Integer.MAX_VALUE};
        for (int state = 0; state < 4; state++) {
            FoldedRealm x = state == 0 ? new FoldedRealm() : Checks.told(SMALL);
            if (state > 1) {
                writeAll(x, 0, 2, 1);
            }
            if (state > 2) {
                writeAll(x, 3);
                Checks.tellSundays(x, "write a;burn 9;pass;");
            }
            for (int a : strange) {
                for (int b : strange) {
                    for (int c : new int[] {Integer.MIN_VALUE, -1, 0, 1, 2, 10, Integer.MAX_VALUE}) {
                        x.meet(a, b, c);
                        x.generations(a, b, c);
                        restsOf(x, a, b, c);
                    }
                    x.writer(a, b);
                    x.word(a, b);
                    x.spike(a, b);
                    x.aim(a, b);
                }
                x.strip(a);
                x.judged(a);
                x.comes(a);
                x.best(a);
                x.count(a);
                x.mark(a, a > 9);
                x.read(a);
                x.write(a);
                x.burn(a);
                x.undo();
                due("it lives", x.count(14), -1);
            }
        }
    }

    private static void restsOf(FoldedRealm x, int a, int b, int c) {
        int threw = 0;
        try {
            x.rests(a, b, c, 0);
        } catch (NoSuchElementException e) {
            threw = 1;
        }
        boolean others = a < 0 || a > 9 || b < 0 || b > 9 || c < 0 || c > 9;
        due("rests of others throws", others && threw == 0, false);
    }

    private static void promise15Unevenly() {
        // 1/2 * 2/3 = 1/3 and 1/2 * 3/4 = 3/8: which is greater hangs on the word ahead.
        FoldedRealm x = Checks.told("folds 2;writes (0<ahead)*(heavy+1)+(ahead=0)*heavy;" + word("a", 0, 1, 0, 1) + word("b", 0, 1, 5, 1)
            + word("c", 1, 1, 0, 1) + word("d", 1, 0, 0, 1));
        due("a then c alone", x.best(-1), 500000);
        due("a", x.best(0), 0);
        due("c", x.best(1), 2);
        due("b c", x.comes(0b0110), 333333);
        due("b d", x.comes(0b1010), 166666);
    }

    private static void promise18Aim() {
        FoldedRealm x = Checks.told(SMALL);
        due("at c", x.aim(2, 0), 0);
        due("at c", x.aim(2, 1), 1000000);
        due("at d, nothing comes: the first", x.aim(3, 0), 0);
        due("at d", x.aim(3, 1), 0);
        due("not of the last fold", x.aim(0, 0), -1);
        due("no word", x.aim(4, 0), -1);
        due("no word", x.aim(-1, 0), -1);
        due("what 2", x.aim(2, 2), -1);
        due("what -1", x.aim(2, -1), -1);
        writeAll(x, 1);
        due("now", x.aim(3, 0), 3);
        due("all of it", x.aim(3, 1), 1000000);
        writeAll(x, 3, 0, 2, 0, 2);
        due("none is left", x.aim(2, 0), -1);
        due("none is left", x.aim(2, 1), -1);
        x = Checks.told("folds 3;writes heavy+ahead;" + word("a", 0, 1, 0, 0) + word("b", 0, 0, 0, 1) + word("c", 0, 0, 6, 1)
            + word("d", 1, 1, 3, 1) + word("e", 1, 2, 0, 1) + word("f", 2, 2, 0, 1) + word("g", 2, 1, 0, 1));
        // behind b: d 1/3, e 2/3; behind c: d 7/15, e 8/15. To f: behind d 5/9, behind e 2/3.
        due("at f", x.aim(5, 0), 1);
        due("at f", x.aim(5, 1), 333333 * 5 / 9 + 666666 * 2 / 3);
        due("at g", x.aim(6, 0), 2);
        due("at g", x.aim(6, 1), 466666 * 4 / 9 + 533333 / 3);
    }

    private static void promise19Meet() {
        FoldedRealm x = Checks.told(SMALL);
        due("a c", x.meet(0, 2, 1), 400000);
        due("c a", x.meet(2, 0, 1), 400000);
        // seat 1: a 2 of 2, then r: c 1 of 2.
        due("twice", x.meet(0, 2, 2), 1000000 - 600000L * 500000 / 1000000);
        // seat 2: a 2 of 8, then p: c 1 of 1.
        due("thrice", x.meet(0, 2, 3), 1000000 - 300000L * 750000 / 1000000);
        due("the seats go round", x.meet(0, 2, 4), 1000000 - 225000L * 600000 / 1000000);
        due("none", x.meet(0, 3, 1), 0);
        due("one fold", x.meet(0, 1, 1), -1);
        due("itself", x.meet(0, 0, 1), -1);
        due("0 wholes", x.meet(0, 2, 0), -1);
        due("10 wholes", x.meet(0, 2, 10), -1);
        due("9 wholes", x.meet(0, 2, 9) > 900000, true);
        due("no word", x.meet(0, 4, 1), -1);
        due("no word", x.meet(-1, 2, 1), -1);
        writeAll(x, 0);
        due("anew, what is left stays so", x.meet(0, 2, 1), 400000);
        x.undo();
        x.pass();
        due("from the seat now on", x.meet(0, 2, 1), 500000);
        x = Checks.told("folds 3;" + word("a", 0, 1, 0, 1) + word("b", 0, 2, 0, 1) + word("c", 1, 1, 0, 1) + word("d", 1, 2, 0, 1)
            + word("e", 2, 1, 0, 1) + word("f", 2, 2, 0, 1) + word("g", 3, 1, 1, 1));
        due("a fold beyond", x.meet(0, 6, 1), -1);
        due("a fold beyond", x.meet(6, 0, 1), -1);
        // a 333333: c 111111, d 222222; to e 37037 and 74074.
        due("between them", x.meet(0, 4, 1), 37037 + 74074);
        // c: 111111 of a, 222222 of b, together 333333: e 111111.
        due("ahead of them", x.meet(2, 4, 1), 111111);
        // a c: 111111: e 37037, f 74074.
        due("behind them", x.meet(0, 2, 1), 111111);
        due("without writers, twice", x.meet(0, 2, 2), 1000000 - 888889L * 888889 / 1000000);
    }

    private static void promises20And21() {
        FoldedRealm x = Checks.told("folds 2;" + word("a", 0, 1, 0, 9) + word("b", 0, 1, 0, 9) + word("c", 1, 1, 0, 9) + word("d", 1, 1, 0, 9)
            + word("e", 1, 1, 0, 9) + "clash a d;clash b e;clash a b;");
        due("none", x.clashes(), 0);
        due("none", x.fire(), 0);
        writeAll(x, 0, 2);
        due("one", x.clashes(), 0);
        writeAll(x, 0, 3);
        due("in itself and with the first", x.clashes(), 2);
        due("the second", x.fire(), 0b10);
        writeAll(x, 1, 2);
        // a c - b c; a d - b c; both by a b.
        due("with the third", x.clashes(), 4);
        due("the second, and the first rather than the third", x.fire(), 0b011);
        writeAll(x, 0, 2);
        due("the third now", x.clashes(), 6);
        due("the third rather than two", x.fire(), 0b110);
        x.burn(1);
        due("without the second", x.clashes(), 2);
        due("moved up", x.fire(), 0b010);
        x = Checks.told("folds 2;" + word("a", 0, 1, 0, 9) + word("b", 1, 1, 0, 9) + word("c", 1, 1, 0, 9) + "clash b c;");
        for (int i = 0; i < 5; i++) {
            writeAll(x, 0, 1);
        }
        for (int i = 0; i < 4; i++) {
            writeAll(x, 0, 2);
        }
        due("five by four", x.clashes(), 20);
        due("the four", x.fire(), 0b111100000);
        x.burn(0);
        due("equal ones: the least", x.fire(), 0b00001111);
    }

    private static void promises22To25() {
        // by seat, fold 0: p 4 6, q 2 0, r 2 6; fold 1: q 4 0, r 1 1, p 1 0.
        FoldedRealm x = Checks.told(SMALL);
        due("all seats", x.began(), 0b111);
        due("the first", x.sure(), 0);
        due("ask fold 0: b, a, b", x.ask(), 0);
        due("read", x.read(0), true);
        due("a stood", x.began(), 0b111);
        due("q", x.sure(), 1);
        due("fold 1: all c", x.ask(), -1);
        due("read d", x.read(3), true);
        due("a d", x.began(), 0b010);
        due("a d", x.sure(), 1);
        due("nothing more to read", x.ask(), -1);
        due("two of one fold", x.read(1), true);
        due("nobody", x.began(), 0);
        due("nobody", x.sure(), -1);
        due("nobody", x.ask(), -1);
        due("no word", x.read(4), false);
        due("no word", x.read(-1), false);
        for (int i = 4; i <= 8; i++) {
            due("read " + i, x.read(0), true);
            due("how many", x.count(11), i);
        }
        due("eight are read", x.read(0), false);
        due("a fold beyond", Checks.told("folds 2;" + word("a", 2, 1, 1, 1)).read(0), false);
        due("nothing is undone by it", x.count(12), 0);
        x = Checks.told(SMALL);
        x.read(1);
        due("b: not the wise", x.began(), 0b101);
        due("r: 750000", x.sure(), 2);
        x = Checks.told("folds 2;" + word("a", 0, 1, 1, 1) + word("b", 1, 1, 1, 1));
        due("without writers", x.began(), 0);
        due("without writers", x.sure(), -1);
    }

    private static void promise25Ask() {
        String words = word("a", 0, 1, 0, 3) + word("b", 0, 1, 0, 3) + word("c", 1, 1, 0, 3) + word("d", 1, 1, 0, 3) + word("e", 1, 1, 0, 3);
        FoldedRealm x = Checks.told("folds 2;writer p plain;writer q plain;writer r plain;" + words
            + "likes p b 1;likes q d 2;likes r e 3;likes p c 1;");
        due("three unlike ones", x.ask(), 1);
        x.read(3);
        due("what is read isn't asked", x.ask(), 0);
        x = Checks.told("folds 2;writer p plain;writer q plain;" + words + "likes p b 1;likes q d 1;");
        due("equal ones: the first", x.ask(), 0);
        x = Checks.told("folds 2;writes heavy*(not ahead)+1;writer p plain;writer q plain;" + word("a", 0, 1, 3, 3) + word("c", 1, 1, 0, 3) + word("d", 1, 2, 0, 3)
            + "likes p c 9;");
        due("ahead is 0, all write d", x.ask(), -1);
        x = Checks.told("folds 2;writer p wise;writer q plain;writer r plain;" + word("a", 0, 1, 0, 3) + word("b", 0, 1, 0, 3) + word("c", 1, 1, 10, 3)
            + word("d", 1, 1, 10, 3) + "likes q d 1;");
        // seat 0: q d; seat 1: r c; seat 2: p writes nothing, so it is no seat.
        due("two seats", x.began(), 0b011);
        due("two words", x.ask(), 1);
    }

    private static void promise26Spent() {
        FoldedRealm x = Checks.told(SMALL);
        // b c by p q; then seat 1: a c by q r; seat 2: a c by r p; then neither a nor b is left.
        due("three", x.spent(), 3);
        due("all is as it was", x.count(8), 15);
        writeAll(x, 0);
        // a c; seat 1: q writes a (b is too great), r c; seat 2: r b, p c.
        due("with the one that is being written", x.spent(), 3);
        due("strip stays", x.strip(0), 0);
        x = Checks.told("folds 2;" + word("a", 0, 1, 0, 9) + word("b", 0, 0, 0, 9) + word("c", 1, 1, 0, 9) + word("d", 1, 1, 0, 9));
        due("b is never written", x.spent(), 9);
        StringBuilder all = new StringBuilder("folds 2;writes 1;");
        for (int i = 0; i < 12; i++) {
            all.append(word("w" + (char) ('a' + i), i % 2, 1, 1, 9));
        }
        due("the most", Checks.told(all.toString()).spent(), 54);
        due("nothing", new FoldedRealm().spent(), 0);
    }

    private static int rests(int alone, int both, int none, int what) {
        try {
            return new FoldedRealm().rests(alone, both, none, what);
        } catch (NoSuchElementException e) {
            return -99;
        }
    }

    private static void promise27Rests() {
        due("5 3 4", rests(5, 3, 4, -1), 1);
        due("5 3 4, 0", rests(5, 3, 4, 0), 3);
        due("5 3 4, 1", rests(5, 3, 4, 1), -99);
        due("3 2 5", rests(3, 2, 5, -1), 2);
        due("3 2 5, 0", rests(3, 2, 5, 0), 0);
        due("3 2 5, 1", rests(3, 2, 5, 1), 3);
        due("5 0 3", rests(5, 0, 3, -1), 3);
        due("5 0 3, 0", rests(5, 0, 3, 0), 1);
        due("5 0 3, 1", rests(5, 0, 3, 1), 2);
        due("5 0 3, 2", rests(5, 0, 3, 2), 3);
        due("4 0 4", rests(4, 0, 4, -1), 4);
        due("4 0 4, 2", rests(4, 0, 4, 2), 2);
        due("9 9 9", rests(9, 9, 9, -1), 2);
        due("what -2", rests(5, 3, 4, -2), -99);
        due("what 4", rests(4, 0, 4, 4), -99);
        due("alone 10", rests(10, 3, 4, -1), -99);
        due("both 10", rests(5, 10, 4, -1), -99);
        due("none 10", rests(5, 3, 10, -1), -99);
        due("alone -1", rests(-1, 3, 4, -1), -99);
        due("both -1", rests(5, -1, 4, -1), -99);
        due("none -1", rests(5, 3, -1, -1), -99);
    }

    private static void promise28Generations() {
        FoldedRealm x = Checks.told("folds 2;" + word("a", 0, 1, 1, 2) + word("b", 1, 1, 2, 3));
        due("a b a b", x.generations(7, 4, 0), 2);
        due("good", x.generations(7, 4, 1), 6);
        // then no a is left: the last is burnt, a, b, and again.
        due("burnt", x.generations(7, 5, 0), 2);
        due("burnt and again", x.generations(7, 7, 0), 3);
        due("all is as ahead", x.count(8), 5);
        due("all is as ahead", x.count(12), 0);
        due("seed -1", x.generations(-1, 4, 0), -1);
        due("seed 10000", x.generations(10000, 4, 0), -1);
        due("seed 9999", x.generations(9999, 4, 0), 2);
        due("seed 0", x.generations(0, 4, 0), 2);
        due("words 0", x.generations(7, 0, 0), -1);
        due("words 100", x.generations(7, 100, 0), -1);
        due("words 99: two, then one in three", x.generations(7, 99, 0), 2 + 31);
        due("what 3", x.generations(7, 4, 3), -1);
        due("what -1", x.generations(7, 4, -1), -1);
        writeAll(x, 0, 1, 0);
        due("from now on", x.generations(7, 1, 0), 1);
        due("good of these alone", x.generations(7, 1, 1), 3);
        due("nothing to burn", new FoldedRealm().generations(1, 9, 0), 0);
    }

    private static void promise28Draws() {
        // Seed 1: g is 1103527590, its draw 16838; then 2524885223 mod 2^31 = 377401575, its draw 5758.
        FoldedRealm x = Checks.told("folds 2;writes heavy;does most;" + word("a", 0, 5, 1, 9) + word("b", 0, 3, 10, 9) + word("c", 1, 4, 0, 9)
            + word("d", 1, 1, 20, 9) + "clash b d;");
        long g = 1;
        int[] draws = new int[6];
        int[] below = {8, 5, 8, 5, 8, 5};
        for (int i = 0; i < 6; i++) {
            g = (g * 1103515245L + 12345L) & 0x7FFFFFFFL;
            draws[i] = (int) ((g >> 16) % below[i]);
        }
        int good = 0;
        int clashing = 0;
        int withB = 0;
        int withD = 0;
        int withBoth = 0;
        for (int i = 0; i < 6; i += 2) {
            boolean b = draws[i] >= 5;
            boolean d = draws[i + 1] >= 4;
            good += d ? 20 : b ? 10 : 1;
            // Cross pairs: a b of one with a d of the other.
            clashing += (b && d ? 1 : 0) + withOthers(b, d, withB, withD, withBoth);
            withB += b ? 1 : 0;
            withD += d ? 1 : 0;
            withBoth += b && d ? 1 : 0;
        }
        due("three wholes", x.generations(1, 6, 0), 3);
        due("their good", x.generations(1, 6, 1), good);
        due("their clashes", x.generations(1, 6, 2), clashing);
        due("the first draw", draws[0], 16838 % 8);
    }

    private static int withOthers(boolean b, boolean d, int withB, int withD, int withBoth) {
        return (b ? withD : 0) + (d ? withB : 0) - (b && d ? withBoth : 0);
    }

    private static void promise29Mark() {
        FoldedRealm x = Checks.told(SMALL);
        due("nothing is on it", x.mark(0, true), false);
        due("none such", x.mark(4, false), false);
        due("none such", x.mark(-1, false), false);
        due("none such", x.mark(4, true), false);
        due("laid", x.mark(3, false), true);
        writeAll(x, 0);
        x.read(2);
        Checks.tellSundays(x, "pass;write a;");
        due("undo stays when one is laid", x.count(12), 1);
        due("laid", x.mark(0, false), true);
        due("undo stays when one is laid", x.count(12), 1);
        writeAll(x, 2, 1);
        x.read(0);
        Checks.tellSundays(x, "pass;");
        Checks.feed(x, "folds");
        due("back", x.mark(0, true), true);
        due("the tape is none of it", x.count(13), 5);
        due("strip", x.strip(0), 0);
        due("spike", x.count(6), 0);
        due("good", x.count(7), 0);
        due("left", x.word(2, 3), 3);
        due("sundays", x.count(10), 2);
        due("sundays judged", x.judged(0), -1);
        due("read", x.count(11), 1);
        due("nothing can be undone", x.undo(), false);
        due("back to the first", x.mark(3, true), true);
        due("nothing written", x.count(4), 0);
        due("nothing read", x.count(11), 0);
        due("no sundays", x.count(10), 0);
        writeAll(x, 1);
        due("once more", x.mark(3, true), true);
        due("it holds", x.count(4), 0);
        due("laid anew", x.mark(0, false), true);
        due("gone back to", x.mark(0, true), true);
        due("the new one", x.count(4), 0);
        due("another has nothing", x.mark(1, true), false);
    }

    private static void promise30Count() {
        FoldedRealm x = Checks.told(SMALL + word("e", 3, 1, 1, 4));
        x.pass();
        writeAll(x, 0, 3, 1);
        x.read(0);
        x.read(0);
        Checks.tellSundays(x, "pass;pass;pass;");
        Checks.feed(x, "abc");
        int[] counts = {3, 5, 2, 2, 1, 0, 1, 23, 15 + 4 - 3, 2, 3, 2, 4, 3};
        for (int i = 0; i < counts.length; i++) {
            due("count " + i, x.count(i), counts[i]);
        }
        due("count 14", x.count(14), -1);
        due("count -1", x.count(-1), -1);
        due("count far", x.count(Integer.MIN_VALUE), -1);
    }

    public static void main(String[] args) {
        promise1New();
        promise2Feed();
        promise3Tokens();
        promise3Lines();
        promise3Pairs();
        promise3Formulas();
        promise3Values();
        promise3StaysOrBegins();
        promise4Sundays();
        promise5Writer();
        promise6Word();
        promise6Likely();
        promise6Ahead();
        promises7To9();
        promise9Spike();
        promise10Pass();
        promise11Burn();
        promise12Undo();
        promise12FallenOff();
        promise13Judged();
        promises14To17();
        promise15Unevenly();
        promise17MostRows();
        promise3LongestText();
        strangeArguments();
        promise18Aim();
        promise19Meet();
        promises20And21();
        promises22To25();
        promise25Ask();
        promise26Spent();
        promise27Rests();
        promise28Generations();
        promise28Draws();
        promise29Mark();
        promise30Count();
        checks.end();
    }
}
