import java.util.List;

/**
 * The boundaries that the document names of the tape, its tokens, the language and its faults: a test for each
 * sentence. In the texts of wrong(..) an at-sign stands ahead of the token that is wrong; it is not fed.
 */
public final class TextBoundaryTests {
    private static final Checks checks = new Checks();

    private static final List<String> RESERVED = List.of("writer", "word", "fold", "weight", "good", "left", "likes", "clash", "folds",
        "writes", "does", "write", "burn", "pass", "plain", "wise", "wild", "sly", "not", "and", "or");
    private static final List<String> OF_WRITES = List.of("heavy", "fond", "small", "more", "ahead");
    private static final List<String> OF_DOES = List.of("sum", "most", "spiked");
    private static final String TWO = "writer p sly;" + Checks.word("a", 0, 1, 1, 1) + Checks.word("b", 1, 1, 1, 1);

    private static void due(String call, long got, long want) {
        checks.due(call, got, want);
    }

    private static int realmOf(String text) {
        FoldedRealm x = new FoldedRealm();
        Checks.feed(x, text);
        return x.realm();
    }

    private static int sundaysOf(String realm, String text) {
        return Checks.tellSundays(Checks.told(realm), text);
    }

    private static void fine(String text) {
        due("realm of " + text, realmOf(text), 0);
    }

    private static void wrong(int kind, String text) {
        String fed = text.replace("@", "");
        due("realm of " + text, realmOf(fed), kind + 16 * text.indexOf('@'));
    }

    private static void fineSundays(String text) {
        due("sundays of " + text, sundaysOf(TWO, text), 0);
    }

    private static void wrongSundays(int kind, String text) {
        String fed = text.replace("@", "");
        due("sundays of " + text, sundaysOf(TWO, fed), kind + 16 * text.indexOf('@'));
    }

    private static String writers(int many) {
        StringBuilder b = new StringBuilder();
        for (int i = 0; i < many; i++) {
            b.append("writer v").append((char) ('a' + i)).append(" plain;");
        }
        return b.toString();
    }

    private static String words(int many) {
        StringBuilder b = new StringBuilder();
        for (int i = 0; i < many; i++) {
            b.append(Checks.word("w" + (char) ('a' + i), i % 4, i % 10, i, i % 10));
        }
        return b.toString();
    }

    // "The TAPE has at most 1,000 signs"; "what is beyond 1,000, are left out: how many there are"
    private static void aThousandSigns() {
        long eight = 0x6161616161616161L;
        for (int room = 0; room <= 26; room++) {
            FoldedRealm x = new FoldedRealm();
            due("blanks", Checks.feed(x, " ".repeat(1000 - room)), 1000 - room);
            int want = Math.min(1000, 1000 - room + 24);
            due("24 where there is room for " + room, x.feed(eight, eight, eight), want);
            due("they are there", x.count(13), want);
            due("once more", x.feed(eight, eight, eight), 1000);
        }
        String start = "folds 2";
        String last = start + " ".repeat(999 - start.length()) + ";";
        due("the 1,000th is there", realmOf(last), 0);
        due("the 1,001st is not", realmOf(start + " ".repeat(1000 - start.length()) + ";"), 1 + 16 * 1000);
        due("what is beyond isn't read", realmOf(last + "?"), 0);
        due("a token of which the last sign is beyond", realmOf(" ".repeat(996) + "folds 2;"), 1 + 16 * 996);
        due("a NUMBER of which signs are beyond", realmOf("folds " + " ".repeat(993) + "222222"), 1 + 16 * 1000);
        FoldedRealm x = new FoldedRealm();
        Checks.feed(x, " ".repeat(999));
        due("left out ones take no room", x.feed(0x0001020304050607L, -1L, 0x7F7F7F7F7F7F7F3BL), 1000);
        due("the last one came", x.realm(), 1 + 16 * 999);
    }

    // "signs, 10 and 32 .. 126"; "others than 10 and 32 .. 126 .. are left out"
    private static void whichAreSigns() {
        for (int sign = 0; sign < 256; sign++) {
            int want = sign == 10 || (sign >= 32 && sign <= 126) ? 1 : 0;
            for (int at = 0; at < 24; at++) {
                long[] three = new long[3];
                three[at / 8] = (long) sign << 56 - 8 * (at % 8);
                due("sign " + sign + " at " + at, new FoldedRealm().feed(three[0], three[1], three[2]), want);
            }
        }
    }

    // "Up to 24 signs come behind the TAPE: the bytes of a, b, c, of each the highest first"
    private static void theirOrder() {
        String text = "folds 4;writer abc wise;";
        due("its length", text.length(), 24);
        FoldedRealm x = new FoldedRealm();
        long[] three = Checks.signs(text.getBytes(java.nio.charset.StandardCharsets.ISO_8859_1), 0);
        due("feed", x.feed(three[0], three[1], three[2]), 24);
        due("behind it", x.feed(0, 0, 0x6C696B6573206162L), 32);
        due("behind that", x.feed(0x6300000000000000L, 0, 0), 33);
        due("likes abc has no WORD", x.realm(), 1 + 16 * 33);
        due("feed", x.feed(three[0], three[1], three[2]), 24);
        due("realm", x.realm(), 0);
        due("folds", x.count(2), 4);
        due("writers", x.count(0), 1);
    }

    // "what reads it takes it: it is empty then"
    private static void whatReadsItTakesIt() {
        FoldedRealm x = new FoldedRealm();
        Checks.feed(x, TWO);
        due("realm", x.realm(), 0);
        due("taken", x.count(13), 0);
        Checks.feed(x, "?");
        due("a FAULT", x.realm(), 1);
        due("taken with a FAULT", x.count(13), 0);
        Checks.feed(x, "write a;");
        due("sundays", x.sundays(), 0);
        due("taken by sundays", x.count(13), 0);
        Checks.feed(x, "pass;?");
        due("a FAULT of sundays", x.sundays(), 1 + 16 * 5);
        due("taken by sundays with a FAULT", x.count(13), 0);
        due("the SUNDAYS stay", x.count(10), 1);
        due("an empty one is SUNDAYS", x.sundays(), 0);
        due("of no line", x.count(10), 0);
        due("an empty one is a REALM", x.realm(), 0);
        due("of nothing", x.count(1), 0);
    }

    // "TOKENS, each as long as can be, blanks (10, 32) between where one likes"
    private static void blanksBetween() {
        fine("folds2;writes1+heavy*2;does sum;");
        wrong(1, "@doessum;");
        fine("\n \n folds \n 2 \n ; \n ");
        fine("writes(1)and(2)or not(0);");
        fine("writes 1and 2or 3;");
        fine("writes 1<2and 3=4;");
        wrong(1, "writes 1 and @andd;");
        wrong(1, "@fol ds 2;");
        wrong(1, "folds 2 @2;");
        wrong(1, "writes 1 @1;");
        wrong(1, "writes heavy @fond;");
        wrong(1, "writes @heavyfon;");
        wrong(1, "writer a @pl ain;");
        fine("");
        fine(" ");
        fine("\n");
        fineSundays("");
        fineSundays("\n pass \n ; \n");
        fineSundays("burn1;burn 2;");
    }

    // "WORDS (letters a .. z, 8 at most)"; "a longer WORD .., too, at its first sign"
    private static void wordsOfEight() {
        fine("writer abcdefgh plain;");
        wrong(1, "writer @abcdefghi plain;");
        wrong(1, "writer @abcdefghijklmnopqrstuvwxyz plain;");
        fine("writer a plain;writer z plain;");
        fine("writer zzzzzzzz plain;writer zzzzzzzy plain;writer zzzzzzz plain;");
        wrong(3, "writer zzzzzzzz plain;writer @zzzzzzzz plain;");
        wrong(1, "writer @` plain;");
        wrong(1, "writer @{ plain;");
        wrong(1, "writer a@A plain;");
        wrong(1, "writer @Z plain;");
        wrong(1, "writer a@0 plain;");
        wrong(1, "writer a@_b plain;");
        // 9 letters whose last 8 are another one's, and 13 of them, which 64 bits don't tell apart.
        wrong(1, "writer abcdefgh plain;writer @xabcdefgh plain;");
        wrong(1, "@aaaaawriter p plain;");
        wrong(1, "@writerwriter p plain;");
        wrong(1, TWO + "clash @aaaaaaaaaaaaa b;");
    }

    // "NUMBERS (1 to 4 digits; a letter may stand right behind)"
    private static void numbersOfFour() {
        fine("folds 2;");
        fine("folds 02;");
        fine("folds 002;");
        fine("folds 0002;");
        wrong(1, "folds @00002;");
        wrong(1, "folds @4294967298;");
        wrong(1, "folds @18446744073709551618;");
        wrong(1, "folds 2@/;");
        wrong(1, "folds 2@:;");
        wrong(1, "folds @-2;");
        wrong(1, "folds @+2;");
        wrong(1, "folds 2@.0;");
        fine("writes 0;");
        fine("writes 9999;");
        wrong(1, "writes @10000;");
        fine("writes 9999and 0009;");
        fine("word a fold 0weight 1good 2left 3;");
        wrong(1, "folds @;");
    }

    // "the signs ( ) < = + - * ;  All else .. is none"
    private static void signsAlone() {
        for (int sign = 33; sign <= 126; sign++) {
            char c = (char) sign;
            boolean letter = c >= 'a' && c <= 'z';
            boolean digit = c >= '0' && c <= '9';
            String behind = "writes 1 " + c + " 1;";
            boolean can = "<=+-*".indexOf(c) >= 0;
            if (c == ';') {
                due(behind, realmOf(behind), 1 + 16 * 11);
            } else {
                due(behind, realmOf(behind), can ? 0 : 1 + 16 * 9);
            }
            String first = "writes " + c + "1 );";
            int place = c == '(' ? 0 : digit ? 10 : 7;
            due(first, realmOf(first), place == 0 ? 0 : 1 + 16 * place);
            due("alone " + c, realmOf("" + c), 1);
            due("sundays alone " + c, sundaysOf(TWO, "" + c), 1);
            String name = "writer " + c + " plain;";
            due(name, realmOf(name), letter ? 0 : 1 + 16 * 7);
        }
    }

    // "writer: 5 at most, numbered as told"; "5 one too many: the words writer of a sixth"
    private static void fiveWriters() {
        fine(writers(5));
        wrong(5, writers(5) + "@writer vf plain;");
        wrong(5, writers(5) + "@writer va plain;");
        wrong(5, writers(5) + "@writer ?");
        wrong(5, writers(5) + "@writer");
        wrong(1, writers(5) + "@writers");
        wrong(3, writers(4) + "writer @va plain;");
        FoldedRealm x = Checks.told("writer d sly;writer a plain;writer c wild;writer e wise;writer b sly;");
        due("five", x.count(0), 5);
        int[] kinds = {3, 0, 2, 1, 3};
        for (int i = 0; i < 5; i++) {
            due("kind " + i, x.writer(i, 0), kinds[i]);
        }
    }

    // "KIND: plain, wise, wild, sly"
    private static void fourKinds() {
        List<String> kinds = List.of("plain", "wise", "wild", "sly");
        for (String word : RESERVED) {
            String text = "writer a " + word + ";";
            due(text, realmOf(text), kinds.contains(word) ? 0 : 1 + 16 * 9);
        }
        for (int i = 0; i < 4; i++) {
            due(kinds.get(i), Checks.told("writer a " + kinds.get(i) + ";").writer(0, 0), i);
        }
        wrong(1, "writer a @plains;");
        wrong(1, "writer a @plai;");
        wrong(1, "writer a @;");
        wrong(1, "writer a plain @wise;");
    }

    // "word: 12 at most, numbered as told"; "word of a thirteenth"
    private static void twelveWords() {
        fine(words(12));
        wrong(5, words(12) + "@word x fold 0 weight 0 good 0 left 0;");
        wrong(5, words(12) + "@word wa");
        wrong(5, words(12) + "@word");
        wrong(1, words(12) + "@words");
        wrong(3, words(11) + "word @wa fold 0 weight 0 good 0 left 0;");
        fine(words(12) + "writer x plain;folds 4;");
        FoldedRealm x = Checks.told(words(12));
        due("twelve", x.count(1), 12);
        for (int i = 0; i < 12; i++) {
            due("fold " + i, x.word(i, 0), i % 4);
            due("weight " + i, x.word(i, 1), i % 10);
            due("good " + i, x.word(i, 2), i);
            due("left " + i, x.word(i, 3), i % 10);
        }
    }

    // "fold 0 to 3, weight 0 to 9, good 0 to 20, left 0 to 9"; "4 a NUMBER that is not as told"
    private static void numbersOfAWord() {
        String[] titles = {"fold", "weight", "good", "left"};
        int[] most = {3, 9, 20, 9};
        for (int which = 0; which < 4; which++) {
            for (int number = 0; number <= 100; number++) {
                StringBuilder text = new StringBuilder("word a");
                int place = 0;
                for (int i = 0; i < 4; i++) {
                    text.append(' ').append(titles[i]).append(' ');
                    place = i == which ? text.length() : place;
                    text.append(i == which ? number : 1);
                }
                text.append(';');
                due(text.toString(), realmOf(text.toString()), number <= most[which] ? 0 : 4 + 16 * place);
                if (number <= most[which]) {
                    due("what was told", Checks.told(text.toString()).word(0, which), number);
                }
            }
        }
        wrong(4, "word a fold @9999 weight 1 good 1 left 1;");
        wrong(4, "word a fold @0004 weight 1 good 1 left 1;");
        fine("word a fold 0003 weight 0009 good 0020 left 0009;");
        wrong(4, "word a fold 3 weight 9 good @21 left 10;");
        wrong(4, "word a fold @4 weight 10 good 21 left 10;");
    }

    // The titles of a word stand in their order, each once.
    private static void titlesOfAWord() {
        wrong(1, "word a @weight 1;");
        wrong(1, "word a fold 0 @good 1;");
        wrong(1, "word a fold 0 weight 1 @left 1;");
        wrong(1, "word a fold 0 weight 1 good 1 @;");
        wrong(1, "word a fold 0 weight 1 good 1 left 1 @left 1;");
        wrong(1, "word a @folds 0;");
        wrong(1, "word @fold 0 weight 1 good 1 left 1;");
        wrong(1, "word a fold @weight 1;");
    }

    // "likes: a WRITER told a WORD told, each two once, 1 to 9"
    private static void likesOnce() {
        String two = TWO + "writer q plain;";
        for (int number = 0; number <= 12; number++) {
            String text = TWO + "likes p b " + number + ";";
            boolean can = number >= 1 && number <= 9;
            due(text, realmOf(text), can ? 0 : 4 + 16 * (TWO.length() + 10));
            if (can) {
                due("so much", Checks.told(text).writer(0, 2), number);
            }
        }
        wrong(4, TWO + "likes p a @9999;");
        wrong(2, "likes @p a 1;" + TWO);
        wrong(2, "writer p sly;likes p @a 1;" + Checks.word("a", 0, 1, 1, 1));
        fine(two + "likes p a 1;likes p b 1;likes q a 1;likes q b 1;");
        wrong(3, two + "likes p a 1;likes q a 1;likes p @a 1;");
        wrong(3, two + "likes p a 9;likes p @a 0;");
        wrong(3, two + "likes p a 9;likes p @a");
        wrong(2, TWO + "likes @b a 1;");
        wrong(2, TWO + "likes p @p 1;");
        wrong(2, TWO + "likes @x y 1;");
        wrong(1, TWO + "likes @1 a 1;");
        wrong(1, TWO + "likes p a @;");
        fine(words(12) + writers(5) + "likes ve wl 9;likes va wa 1;");
    }

    // "clash: two WORDS told, not the same, each pair once"
    private static void clashOnce() {
        String three = TWO + Checks.word("c", 1, 1, 1, 1);
        fine(three + "clash a b;clash c b;clash a c;");
        wrong(3, three + "clash a @a;");
        wrong(3, three + "clash a b;clash c b;clash a @b;");
        wrong(3, three + "clash a b;clash c b;clash b @a;");
        wrong(3, three + "clash c b;clash b @c;");
        wrong(2, three + "clash @p a;");
        wrong(2, three + "clash a @p;");
        wrong(2, three + "clash @x x;");
        wrong(2, TWO + "clash a @c;" + Checks.word("c", 1, 1, 1, 1));
        wrong(1, three + "clash a b @c;");
        wrong(1, three + "clash a @;");
        FoldedRealm x = Checks.told(words(12) + "clash wa wl;clash wl wb;");
        due("told clashes", x.count(9), 2);
    }

    // "folds 2 to 4 (3)"; "folds, writes, does: once each"
    private static void foldsTwoToFour() {
        for (int folds = 0; folds <= 12; folds++) {
            String text = "folds " + folds + ";";
            boolean can = folds >= 2 && folds <= 4;
            due(text, realmOf(text), can ? 0 : 4 + 16 * 6);
            if (can) {
                due("folds", Checks.told(text).count(2), folds);
            }
        }
        due("without", Checks.told("writer a plain;").count(2), 3);
        wrong(3, "folds 3;@folds 3;");
        wrong(3, "folds 3;@folds 9;");
        wrong(3, "folds 2;writes 1;@folds");
        wrong(3, "writes 1;does 1;@writes 1;");
        wrong(3, "writes 1;does 1;@does sum;");
        wrong(3, "does sum;writes 1;@does");
        fine("does sum;writes 1;folds 2;");
        fine("folds 2;writes 1;does 1;");
        FoldedRealm x = Checks.told("folds 2;");
        Checks.feed(x, "writer a plain;");
        due("told anew without folds", x.realm(), 0);
        due("3 again", x.count(2), 3);
    }

    // "A NAME is another WORD than writer, .., or"
    private static void reservedNames() {
        for (String word : RESERVED) {
            wrong(1, "writer @" + word + " plain;");
            wrong(1, "word @" + word + " fold 0 weight 0 good 0 left 0;");
            wrong(1, TWO + "likes @" + word + " a 1;");
            wrong(1, TWO + "likes p @" + word + " 1;");
            wrong(1, TWO + "clash @" + word + " a;");
            wrong(1, TWO + "clash a @" + word + ";");
            wrongSundays(1, "write @" + word + ";");
            fine("writer " + word + "x plain;");
        }
    }

    // The facts are NAMES like others, and facts in an E all the same.
    private static void factsAsNames() {
        StringBuilder text = new StringBuilder("folds 2;writes heavy;does most;");
        for (String fact : OF_WRITES) {
            text.append(Checks.word(fact, 0, 7, 5, 1));
        }
        for (String fact : OF_DOES) {
            text.append(Checks.word(fact, 1, 7, 4, 1));
        }
        text.append("clash heavy sum;");
        FoldedRealm x = Checks.told(text.toString());
        due("the fact", x.word(1, 4), 7);
        due("write fond", Checks.tellSundays(x, "write fond;write spiked;"), 0);
        due("most of them", x.judged(2), 5);
        wrong(1, "writer sum plain;writes @sum;");
        wrong(1, Checks.word("a", 0, 1, 1, 1) + "writes @a;");
    }

    // "no two (WRITERS, WORDS) are alike"; "3 a NAME told already"
    private static void noTwoAlike() {
        wrong(3, TWO + "writer @p plain;");
        wrong(3, TWO + "writer @a plain;");
        wrong(3, TWO + "writer @b ?");
        wrong(3, TWO + "word @p fold 9");
        wrong(3, TWO + "word @a");
        fine(TWO + "writer pp plain;writer ab plain;");
        FoldedRealm x = Checks.told(TWO);
        Checks.feed(x, TWO);
        due("another REALM may tell them again", x.realm(), 0);
    }

    // "SUNDAYS: any number of .., 40 lines at most"; "the first word of a 41st line of SUNDAYS"
    private static void fortyLines() {
        String[] lines = {"pass;", "burn 0;", "write a;"};
        for (String line : lines) {
            fineSundays(line.repeat(40));
            FoldedRealm x = Checks.told(TWO);
            due("39", Checks.tellSundays(x, line.repeat(39)), 0);
            due("39", x.count(10), 39);
            due("40", Checks.tellSundays(x, line.repeat(40)), 0);
            due("40", x.count(10), 40);
            for (String last : lines) {
                wrongSundays(5, line.repeat(40) + "@" + last);
            }
        }
        wrongSundays(5, "pass;".repeat(40) + "@write x;");
        wrongSundays(5, "pass;".repeat(40) + "@burn 10;");
        wrongSundays(5, "pass;".repeat(40) + "@pass");
        wrongSundays(1, "pass;".repeat(40) + "@;");
        wrongSundays(1, "pass;".repeat(40) + "@wait;");
        wrongSundays(1, "pass;".repeat(40) + "@writer;");
        wrongSundays(1, "pass;".repeat(39) + "pass@");
        fineSundays("pass;".repeat(40) + " \n");
        fineSundays("\n".repeat(800) + "pass;".repeat(40));
    }

    // "burn N" .. "the number of a whole on the SPIKE, 0 to 9"
    private static void burnToNine() {
        for (int number = 0; number <= 12; number++) {
            String text = "burn " + number + ";";
            due(text, sundaysOf(TWO, text), number <= 9 ? 0 : 4 + 16 * 5);
        }
        fineSundays("burn 0009;");
        wrongSundays(4, "burn @0010;");
        wrongSundays(1, "burn @00009;");
        wrongSundays(1, "burn @;");
        wrongSundays(1, "burn @a;");
    }

    // "write NAME" (a WORD); "2 a NAME .. of no WORD (.. behind .. write) told"
    private static void writeAWord() {
        fineSundays("write a;write b;");
        wrongSundays(2, "write @c;");
        wrongSundays(2, "write @p;");
        wrongSundays(2, "pass;write @aa;");
        wrongSundays(1, "write @A;");
        wrongSundays(1, "write @;");
        wrongSundays(1, "write a @b;");
        wrongSundays(1, "pass @pass;");
        wrongSundays(1, "@folds 2;");
        wrongSundays(1, "@a;");
        due("of a fold beyond", sundaysOf("folds 2;" + Checks.word("c", 3, 1, 1, 1), "write c;"), 0);
        due("without a REALM", Checks.tellSundays(new FoldedRealm(), "pass;burn 0;"), 0);
        due("without a REALM", Checks.tellSundays(new FoldedRealm(), "write a;"), 2 + 16 * 6);
        FoldedRealm x = Checks.told(TWO);
        Checks.feed(x, "writer b plain;");
        x.realm();
        due("of the REALM ahead", Checks.tellSundays(x, "write a;"), 2 + 16 * 6);
    }

    // "Facts: of writes .. of does .."
    private static void factsWhereTheyBelong() {
        for (String fact : OF_WRITES) {
            fine("writes " + fact + ";");
            wrong(1, "does @" + fact + ";");
            wrong(1, "does 1+@" + fact + ";");
        }
        for (String fact : OF_DOES) {
            fine("does " + fact + ";");
            wrong(1, "writes @" + fact + ";");
            wrong(1, "writes not @" + fact + ";");
        }
        wrong(1, "writes @heav;");
        wrong(1, "writes @heavyy;");
        wrong(1, "writes @good;");
        wrong(1, "does @weight;");
    }

    // "no PART lies within 5 of not and ( )"; "5 .. not, or a PART, within 5 others"
    private static void withinFive() {
        for (int deep = 0; deep <= 7; deep++) {
            for (int kinds = 0; kinds < 1 << deep; kinds++) {
                for (String part : new String[] {"1", "heavy", "(1)", "not 1"}) {
                    nested(deep, kinds, part);
                }
            }
        }
        fine("writes ((((1))))+((((1))))*not not not not 1;");
        fine("writes not not(not 1)and not not not not heavy;");
        wrong(5, "writes ((((1+(@1)))));");
        wrong(5, "writes ((((1*not @1))));");
        wrong(1, "writes (((((@;");
        wrong(1, "writes (((((@)))));");
        wrong(1, "writes (((((@sum)))));");
        wrong(1, "writes (((((@-1)))));");
        wrong(1, "writes (((((@and)))));");
        wrong(1, "writes (((((@12345)))));");
        wrong(1, "writes (((((@");
        wrong(5, "does (((((@most)))));");
        wrong(1, "does (((((@more)))));");
    }

    private static void nested(int deep, int kinds, String part) {
        StringBuilder text = new StringBuilder("writes ");
        StringBuilder ends = new StringBuilder();
        int sixth = 0;
        for (int i = 0; i < deep; i++) {
            boolean open = (kinds >> i & 1) == 1;
            sixth = i == 5 ? text.length() : sixth;
            text.append(open ? "(" : "not ");
            ends.append(open ? ")" : "");
        }
        sixth = deep <= 5 ? text.length() : sixth;
        boolean more = part.length() > 1 && !part.equals("heavy");
        if (deep == 4 && more) {
            sixth = text.length() + (part.startsWith("(") ? 1 : 4);
        }
        String all = text + part + ends + ";";
        boolean can = deep + (more ? 1 : 0) <= 4;
        due(all, realmOf(all), can ? 0 : 5 + 16 * sixth);
    }

    /** What an E of writes comes to: of a WORD of weight 3, good 4, 2 left, liked 5, in the second fold behind good 17. */
    private static void comesTo(String formula, int want) {
        FoldedRealm x = Checks.told("folds 2;writer p plain;writes " + formula + ";" + Checks.word("z", 0, 1, 17, 1) + Checks.word("a", 1, 3, 4, 2)
            + "likes p a 5;");
        x.write(0);
        due(formula, x.word(1, 4), want);
    }

    // "the E of writes (0 to 99)"; "ints wrap"
    private static void heldAndWrapped() {
        for (int i = 0; i <= 130; i++) {
            comesTo("" + i, Math.min(99, i));
            comesTo(i + "-15", Math.max(0, Math.min(99, i - 15)));
        }
        comesTo("0-1", 0);
        comesTo("0-9999", 0);
        String least = "4096*4096*128";
        comesTo(least, 0);
        comesTo(least + "-1", 99);
        comesTo("0-" + least, 0);
        comesTo(least + "-1<0", 0);
        comesTo("0<" + least + "-1", 1);
        comesTo("(" + least + "-1)+1<0", 1);
        comesTo("(0-" + least + ")<0", 1);
        comesTo(least + "*2", 0);
        comesTo(least + "*2+7", 7);
        comesTo(least + "+" + least + "=0", 1);
        comesTo("(" + least + "-1)*2", 0);
        comesTo("(" + least + "-1)*2+9", 7);
        comesTo("9999*9999", 99);
        comesTo("9999*9999*9999", Math.max(0, Math.min(99, 9999 * 9999 * 9999)));
        comesTo("9999*9999*9999-(9999*9999*9999)", 0);
    }

    // "Of not, and, or, < and = comes 1 or 0; what is not 0 is so"
    private static void oneOrZero() {
        comesTo("not 0", 1);
        comesTo("not 1", 0);
        comesTo("not 2", 0);
        comesTo("not (0-1)", 0);
        comesTo("(0-1) and (0-1)", 1);
        comesTo("7 and 0", 0);
        comesTo("0 and 7", 0);
        comesTo("0 or (0-3)", 1);
        comesTo("2 or 4", 1);
        comesTo("2 and 4", 1);
        comesTo("0 or 0", 0);
        comesTo("4096*4096*128 and 1", 1);
        comesTo("4096*4096*256 or 0", 0);
        comesTo("3<3", 0);
        comesTo("3<4", 1);
        comesTo("4<3", 0);
        comesTo("0-1<0", 1);
        comesTo("0<0-1", 0);
        comesTo("3=3", 1);
        comesTo("3=4", 0);
        comesTo("0-3=3", 0);
        comesTo("(3<4)*50", 50);
        comesTo("(3=3)+(2 or 2)+(2 and 2)+not 0", 4);
    }

    // "TEST { and TEST or or TEST }, from the left; TEST: SUM, or SUM < SUM, or SUM = SUM; .."
    private static void fromTheLeft() {
        comesTo("1 or 1 and 0", 0);
        comesTo("0 and 1 or 1", 1);
        comesTo("0 and 0 or 1 and 0 or 1", 1);
        comesTo("1 or (1 and 0)", 1);
        comesTo("9-3-2", 4);
        comesTo("9-3+2", 8);
        comesTo("9-(3+2)", 4);
        comesTo("2+3*4", 14);
        comesTo("2*3+4", 10);
        comesTo("20-2*3*2", 8);
        comesTo("1+1<1*3", 1);
        comesTo("2=1+1", 1);
        comesTo("not 0*7", 7);
        comesTo("not 0+7", 8);
        comesTo("not 3=0", 1);
        comesTo("not (3=0)", 1);
        comesTo("not (3=3)", 0);
        wrong(1, "writes 1<2@<3;");
        wrong(1, "writes 1=2@=3;");
        wrong(1, "writes 1<2@=3;");
        wrong(1, "writes 1=2@<3;");
        fine("writes (1<2)<(3=4);");
        fine("writes 1<2 and 2<3 or 3=4;");
        wrong(1, "writes @and 1;");
        wrong(1, "writes 1 and @and 1;");
        wrong(1, "writes 1 and @;");
        wrong(1, "writes 1+@;");
        wrong(1, "writes 1*@;");
        wrong(1, "writes 1<@;");
        wrong(1, "writes not @;");
        wrong(1, "writes @;");
        wrong(1, "writes @*1;");
        wrong(1, "writes (@)");
        wrong(1, "writes (1@;");
        wrong(1, "writes 1@);");
        wrong(1, "writes 1 @not 1;");
        wrong(1, "writes 1@(2);");
        wrong(1, "writes 1-@-1;");
    }

    // "heavy (the WORD's weight), fond (..), small (the WORD's good), more (how many are left of it), ahead (..)"
    private static void theFacts() {
        comesTo("heavy", 3);
        comesTo("fond", 5);
        comesTo("small", 4);
        comesTo("more", 2);
        comesTo("ahead", 17);
        FoldedRealm x = Checks.told("writer p plain;writer q plain;writes fond+ahead*10;" + Checks.word("a", 0, 1, 3, 2) + Checks.word("b", 0, 1, 3, 2)
            + "likes q a 9;likes p b 1;");
        due("not liked by p, 0 in the first fold", x.word(0, 4), 0);
        due("liked", x.word(1, 4), 1);
        x.pass();
        due("liked by q", x.word(0, 4), 9);
        due("not by q", x.word(1, 4), 0);
    }

    // "FAULTS, kind + 16 * the place (from 0) of a token, the end being one at the text's length"
    private static void theEnd() {
        String[] tokens = {"writer", "p", "plain", ";", "word", "a", "fold", "0", "weight", "1", "good", "2", "left", "3", ";", "likes", "p", "a", "4", ";",
            "word", "b", "fold", "1", "weight", "1", "good", "2", "left", "3", ";", "clash", "a", "b", ";", "folds", "4", ";",
            "writes", "heavy", "+", "not", "(", "1", ")", ";", "does", "sum", ";"};
        StringBuilder text = new StringBuilder();
        for (String token : tokens) {
            text.append(token).append(' ');
            int want = token.equals(";") ? 0 : 1 + 16 * text.length();
            due("up to " + text, realmOf(text.toString()), want);
            due("with blanks behind " + text, realmOf(text + " \n"), want == 0 ? 0 : want + 32);
            String cut = text.substring(0, text.length() - 1);
            due("up to " + cut, realmOf(cut), want == 0 ? 0 : want - 16);
            due("a wrong one behind " + cut, realmOf(cut + "?"), 1 + 16 * cut.length());
        }
        String[] lines = {"pass", ";", "write", "a", ";", "burn", "3", ";"};
        StringBuilder sundays = new StringBuilder();
        for (String token : lines) {
            sundays.append(token).append(' ');
            due("sundays up to " + sundays, sundaysOf(TWO, sundays.toString()), token.equals(";") ? 0 : 1 + 16 * sundays.length());
        }
    }

    // "of the first token from the left that is wrong the least"
    private static void theFirstOneTheLeast() {
        wrong(2, TWO + "likes @x x 0;");
        wrong(1, "writer a @? writer a plain;");
        wrong(4, "folds @9;folds 9;?");
        wrong(3, TWO + "clash a @a ?");
        wrong(1, "@? folds 9;");
        wrong(1, "word a fold @00009 weight 99;");
        wrong(4, "word a fold @0009 weight 99;");
        wrong(1, "@Folds 2;");
        wrong(1, "@write a;");
        wrong(1, "@burn 1;");
        wrong(1, "@pass;");
        wrong(1, "@;");
        wrong(1, "folds 2;@;");
        wrong(1, "folds 2 @folds 2;");
        wrongSundays(1, "@writer x plain;");
        wrongSundays(1, "pass;@;");
        wrongSundays(2, "write @x burn 99");
    }

    // "realm: .. or its FAULT (all stays then)"; "sundays: likewise"
    private static void allStays() {
        String[] realms = {"?", "folds 1;", "folds 2", "writer a plain;writer a plain;", "folds 4;writes 1;does 1;" + words(12) + "word",
            "writes sum;", "does spiked+(((((1)))));", "writer p plain;" + words(12) + "likes p wa 0;", "clash a b;"};
        for (String text : realms) {
            FoldedRealm x = lived(text);
            due("realm of " + text, x.realm(), realmOf(text));
            checks.alike("a refused realm " + text, x, lived(""));
        }
        String[] sundays = {"?", "pass", "write x;", "burn 10;", "pass;".repeat(40) + "pass;", "write a;write a;write"};
        for (String text : sundays) {
            FoldedRealm x = lived(text);
            due("sundays of " + text, x.sundays(), sundaysOf(TWO, text));
            checks.alike("refused sundays " + text, x, lived(""));
        }
    }

    /** One with words on the strip and the spike, Sundays, marks, reads, and that text on its tape. */
    private static FoldedRealm lived(String text) {
        FoldedRealm x = Checks.told("folds 2;writer p wise;writer q sly;" + Checks.word("a", 0, 4, 3, 5) + Checks.word("b", 0, 2, 12, 4)
            + Checks.word("c", 1, 1, 5, 6) + "writes heavy+fond+1;does sum+spiked;likes p a 3;likes q b 2;clash b c;");
        Checks.tellSundays(x, "write a;write c;write b;burn 4;write c;");
        x.write(0);
        x.write(2);
        x.mark(1, false);
        x.pass();
        x.write(1);
        x.write(2);
        x.burn(0);
        x.read(1);
        x.mark(3, false);
        x.write(0);
        x.read(2);
        Checks.feed(x, text);
        return x;
    }

    // "Without a FAULT a REALM is the REALM from then on: nothing is written, SEAT 0, .., no MARK is there"
    private static void aRealmBegins() {
        String[] tellings = {TWO, "", "folds 4;" + words(12) + "clash wa wb;", "writer a sly;folds 2;writes 1;"};
        for (String text : tellings) {
            FoldedRealm x = lived(text);
            for (int m = 0; m < 4; m++) {
                x.mark(m, false);
            }
            due("a REALM " + text, x.realm(), 0);
            checks.alike("as if it were the first one " + text, x, Checks.told(text));
        }
        FoldedRealm x = lived(TWO);
        for (int m = 0; m < 4; m++) {
            x.mark(m, false);
        }
        x.realm();
        int[] counts = {1, 2, 3, 0, 0, 0, 0, 0, 2, 0, 0, 0, 0, 0};
        for (int i = 0; i < 14; i++) {
            due("count " + i, x.count(i), counts[i]);
        }
        for (int m = 0; m < 4; m++) {
            due("no MARK " + m, x.mark(m, true) ? 1 : 0, 0);
        }
        due("nothing can be undone", x.undo() ? 1 : 0, 0);
    }

    // Nothing of a REALM told ahead, nor of one with a FAULT, is in the one that is told now.
    private static void nothingOfThoseAhead() {
        String rich = "folds 4;writer p wise;writer q wild;writer r sly;" + words(12) + "likes p wa 3;likes q wb 4;likes r wl 5;clash wa wb;clash wc wl;"
            + "writes heavy+not fond*9-1;does 9-not not most+1;";
        String[] tellings = {"folds 2;writer q plain;" + Checks.word("a", 0, 3, 4, 5) + Checks.word("b", 1, 2, 3, 4), "writes 5;does 7;writer x wise;" + words(6),
            "", "writer p plain;" + words(3) + "likes p wa 1;clash wa wb;clash wb wc;", rich};
        String[] faults = {rich + "?", rich + "folds 4;", rich + "writes 1;", rich + "does"};
        for (String text : tellings) {
            FoldedRealm x = new FoldedRealm();
            for (int i = 0; i < 2; i++) {
                Checks.feed(x, rich);
                due("a REALM", x.realm(), 0);
                x.read(0);
                x.read(1);
            }
            Checks.feed(x, faults[text.length() % 4]);
            due("a FAULT", x.realm() > 0 ? 1 : 0, 1);
            Checks.feed(x, text);
            due("another REALM " + text, x.realm(), 0);
            checks.alike("nothing of those ahead in " + text, x, Checks.told(text));
        }
        FoldedRealm x = new FoldedRealm();
        for (int i = 0; i < 2; i++) {
            Checks.feed(x, TWO);
            x.realm();
        }
        String one = Checks.word("b", 0, 1, 1, 1);
        Checks.feed(x, one + "clash b a;");
        due("a WORD told ahead", x.realm(), 2 + 16 * (one.length() + 8));
        Checks.feed(x, Checks.word("a", 0, 1, 1, 1) + "clash a b;");
        due("a WORD told ahead", x.realm(), 2 + 16 * (one.length() + 8));
        Checks.feed(x, "likes p a 1;");
        due("a WRITER told ahead", x.realm(), 2 + 16 * 6);
        Checks.feed(x, "word");
        due("a FAULT", x.realm(), 1 + 16 * 4);
        due("and all stays", Checks.tellSundays(x, "write a;write b;"), 0);
    }

    // "no two (WRITERS, WORDS) are alike": these are all unlike.
    private static void unlikeNames() {
        for (char c = 'a'; c <= 'z'; c++) {
            StringBuilder text = new StringBuilder();
            for (int length = 1; length <= 8; length++) {
                text.append(Checks.word(("" + c).repeat(length), 0, 1, 1, 1));
            }
            char other = c == 'a' ? 'b' : 'a';
            fine(text + "writer " + other + c + " plain;writer " + c + other + " plain;writer " + other + " plain;");
        }
    }

    // "SUNDAYS are the SUNDAYS": the ones ahead are gone, nothing else is changed.
    private static void sundaysAreTheSundays() {
        FoldedRealm x = lived("pass;");
        due("sundays", x.sundays(), 0);
        due("one line", x.count(10), 1);
        due("its good", x.judged(2), 0);
        FoldedRealm twin = lived("pass;");
        int[] others = {0, 1, 2, 3, 4, 5, 6, 7, 8, 9, 11, 12};
        for (int what : others) {
            due("count " + what, x.count(what), twin.count(what));
        }
        due("undone", x.undo() ? 1 : 0, 1);
        due("SUNDAYS are not undone", x.count(10), 1);
        due("a MARK is there", x.mark(3, true) ? 1 : 0, 1);
        due("with its SUNDAYS", x.count(10), 5);
    }

    // "At first: nothing, folds 3."
    private static void atFirst() {
        checks.alike("a new one, an empty REALM", new FoldedRealm(), Checks.told(""));
        FoldedRealm x = new FoldedRealm();
        for (int i = 0; i < 14; i++) {
            due("count " + i, x.count(i), i == 2 ? 3 : i == 5 ? -1 : 0);
        }
    }

    public static void main(String[] args) {
        aThousandSigns();
        whichAreSigns();
        theirOrder();
        whatReadsItTakesIt();
        blanksBetween();
        wordsOfEight();
        numbersOfFour();
        signsAlone();
        fiveWriters();
        fourKinds();
        twelveWords();
        numbersOfAWord();
        titlesOfAWord();
        likesOnce();
        clashOnce();
        foldsTwoToFour();
        reservedNames();
        factsAsNames();
        noTwoAlike();
        fortyLines();
        burnToNine();
        writeAWord();
        factsWhereTheyBelong();
        withinFive();
        heldAndWrapped();
        oneOrZero();
        fromTheLeft();
        theFacts();
        theEnd();
        theFirstOneTheLeast();
        allStays();
        aRealmBegins();
        nothingOfThoseAhead();
        unlikeNames();
        sundaysAreTheSundays();
        atFirst();
        checks.end();
    }
}
