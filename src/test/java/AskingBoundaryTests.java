import java.util.ArrayList;
import java.util.List;

/** The boundaries that the document names of what is asked (promises 14 to 28, part 3 of the terms): a test for each sentence. */
public final class AskingBoundaryTests {
    private static final Checks checks = new Checks();

    private static void due(String call, long got, long want) {
        checks.due(call, got, want);
    }

    private static void due(String call, boolean got, boolean want) {
        checks.due(call, got, want);
    }

    private static String word(String name, int fold, int weight, int good, int left) {
        return Checks.word(name, fold, weight, good, left);
    }

    private static void writeAll(FoldedRealm x, int... words) {
        for (int w : words) {
            if (x.write(w) == FoldedRealm.NONE) {
                throw new IllegalStateException("can't write " + w);
            }
        }
    }

    private static int bits(int... words) {
        int all = 0;
        for (int w : words) {
            all |= 1 << w;
        }
        return all;
    }

    /** Twelve words, three in each fold: word w stands in fold w / 3; by weights, 9 left of each. */
    private static String twelve(int first, int second, int third) {
        StringBuilder b = new StringBuilder("folds 4;");
        int[] weights = {first, second, third};
        for (int w = 0; w < 12; w++) {
            b.append(word("w" + (char) ('a' + w), w / 3, weights[w % 3], w, 9));
        }
        return b.toString();
    }

    // "comes: .. by WORDS as bits; NONE: not one of each fold to come, or others."
    private static void rowsAsBits() {
        FoldedRealm x = Checks.told("folds 2;" + word("a", 0, 1, 1, 9) + word("b", 1, 1, 1, 9) + word("c", 0, 1, 1, 9) + word("d", 1, 1, 1, 9) + word("e", 2, 1, 1, 9));
        for (int words = 0; words < 64; words++) {
            boolean row = words < 16 && Integer.bitCount(words & 0b0101) == 1 && Integer.bitCount(words & 0b1010) == 1;
            due("comes " + words, x.comes(words), row ? 250000 : -1);
        }
        for (int bit = 4; bit < 32; bit++) {
            due("with the bit " + bit, x.comes(0b0011 | 1 << bit), -1);
        }
        writeAll(x, 0);
        for (int words = 0; words < 64; words++) {
            due("comes behind a " + words, x.comes(words), words == 0b0010 || words == 0b1000 ? 500000 : -1);
        }
        x = Checks.told(twelve(1, 1, 1));
        due("the last bits", x.comes(bits(2, 5, 8, 11)), 12345);
        due("the first bits", x.comes(bits(0, 3, 6, 9)), 12345);
        due("one fold is missing", x.comes(bits(2, 5, 8)), -1);
        due("two of one", x.comes(bits(2, 5, 8, 10, 11)), -1);
        due("two of one, none of another", x.comes(bits(2, 5, 10, 11)), -1);
        writeAll(x, 0, 4);
        due("the folds to come", x.comes(bits(8, 11)), 111111);
        due("with what is written", x.comes(bits(0, 4, 8, 11)), -1);
        due("one of them", x.comes(bits(8)), -1);
        writeAll(x, 7);
        due("the last fold", x.comes(bits(9)), 333333);
        due("nothing", x.comes(0), -1);
    }

    // "fold by fold the LIKELY of its WORD (..), of all LIKELY of that fold then together, as a fraction; multiplied; 0 if one is 0"
    private static void chancesCut() {
        FoldedRealm x = Checks.told("folds 2;" + word("a", 0, 1, 1, 9) + word("b", 0, 2, 1, 9) + word("c", 0, 4, 1, 9) + word("d", 1, 3, 1, 9) + word("e", 1, 0, 1, 9)
            + word("f", 1, 9, 1, 0));
        due("1 of 7", x.comes(bits(0, 3)), 142857);
        due("2 of 7", x.comes(bits(1, 3)), 285714);
        due("4 of 7", x.comes(bits(2, 3)), 571428);
        due("of no weight", x.comes(bits(2, 4)), 0);
        due("none left", x.comes(bits(2, 5)), 0);
        writeAll(x, 0);
        due("all of it", x.comes(bits(3)), 1000000);
        // It is multiplied as fractions and cut once: 2/3 * 3/4 is a half.
        x = Checks.told("folds 2;" + word("a", 0, 2, 1, 9) + word("b", 0, 1, 1, 9) + word("c", 1, 3, 1, 9) + word("d", 1, 1, 1, 9));
        due("a half, cut once", x.comes(bits(0, 2)), 500000);
        due("a sixth", x.comes(bits(0, 3)), 166666);
        x = Checks.told(twelve(9, 9, 1) + "writes heavy*11;");
        due("the greatest LIKELY there are", x.comes(bits(0, 3, 6, 9)), (int) (99L * 99 * 99 * 99 * 1000000 / (209L * 209 * 209 * 209)));
        due("the least chance", x.comes(bits(2, 5, 8, 11)), (int) (11L * 11 * 11 * 11 * 1000000 / (209L * 209 * 209 * 209)));
        x = Checks.told(twelve(9, 9, 9) + "writes 99;");
        due("99 of 297, four times", x.comes(bits(0, 3, 6, 9)), 12345);
        StringBuilder wide = new StringBuilder("folds 2;writes 99;");
        for (int w = 0; w < 11; w++) {
            wide.append(word("w" + (char) ('a' + w), 0, 1, 1, 1));
        }
        x = Checks.told(wide + word("z", 1, 1, 1, 1));
        due("99 of 1,089", x.comes(bits(10, 11)), 90909);
    }

    // "0 if one is 0": where all LIKELY of a fold are 0 the fraction is none, and the chance is 0.
    private static void allAreZero() {
        FoldedRealm x = Checks.told("folds 3;writes ahead+(heavy=1);" + word("a", 0, 1, 0, 9) + word("b", 0, 1, 5, 9) + word("c", 1, 0, 0, 9) + word("d", 1, 0, 3, 9)
            + word("e", 2, 0, 1, 9));
        // behind a nothing comes; behind b: c 5, d 5; behind c nothing; behind d: e 3.
        due("a c e", x.comes(bits(0, 2, 4)), 0);
        due("a d e", x.comes(bits(0, 3, 4)), 0);
        due("b c e", x.comes(bits(1, 2, 4)), 0);
        due("b d e", x.comes(bits(1, 3, 4)), 250000);
        due("best", x.best(-1), 250000);
        due("best", x.best(0), 1);
        due("best", x.best(1), 3);
        due("worst", x.worst(), 9);
        due("mean", x.mean(), 9 * 250);
        due("what is lost doesn't come to e", x.aim(4, 1), 500000);
        due("behind b", x.aim(4, 0), 1);
        due("b meets e", x.meet(1, 4, 1), 250000);
        due("b meets c, in rows alone that come to the end", x.meet(1, 2, 1), 0);
        due("a meets e", x.meet(0, 4, 1), 0);
        writeAll(x, 0);
        due("no row", x.best(-1), -2);
        due("no row", x.best(1), -2);
        due("no row", x.worst(), -1);
        due("no row", x.mean(), 0);
        due("no row", x.comes(bits(3, 4)), 0);
        due("by hand d", x.aim(4, 0), 3);
        due("by hand d", x.aim(4, 1), 1000000);
        due("no whole", x.spent(), 0);
    }

    // "BEST: the row of the greatest chance, if that is not 0; of equal ones the first (fold by fold, by numbers)"
    private static void bestOfEqualOnes() {
        FoldedRealm x = Checks.told(twelve(1, 1, 1));
        for (int fold = 0; fold < 4; fold++) {
            due("the first", x.best(fold), 3 * fold);
        }
        due("its chance", x.best(-1), 12345);
        due("beyond", x.best(4), -2);
        due("below", x.best(-2), -2);
        x = Checks.told(twelve(1, 2, 2));
        for (int fold = 0; fold < 4; fold++) {
            due("the second", x.best(fold), 3 * fold + 1);
        }
        x = Checks.told(twelve(1, 2, 3));
        for (int fold = 0; fold < 4; fold++) {
            due("the third", x.best(fold), 3 * fold + 2);
            for (int ahead = 0; ahead < fold; ahead++) {
                due("a fold that is written", x.best(ahead), -2);
            }
            writeAll(x, 3 * fold);
        }
        // Equal fractions by unlike numbers, 1/2 * 1/2 and 1/2 * 2/4, whichever stands first.
        for (int good = 0; good <= 1; good++) {
            x = Checks.told("folds 2;writes heavy*(ahead+1);" + word("a", 0, 1, good, 9) + word("b", 0, 1, 1 - good, 9) + word("c", 1, 1, 0, 9) + word("d", 1, 1, 0, 9));
            due("equal ones", x.best(-1), 250000);
            due("the first", x.best(0), 0);
            due("the first", x.best(1), 2);
        }
        // Fold by fold by numbers: a word of a later fold may have a lesser number.
        x = Checks.told("folds 2;writes heavy*((ahead=0)+(ahead=small));" + word("c", 1, 1, 2, 9) + word("d", 1, 1, 1, 9) + word("a", 0, 1, 1, 9) + word("b", 0, 1, 2, 9));
        due("a d and b c are equal", x.comes(bits(1, 2)), x.comes(bits(0, 3)));
        due("by the first fold", x.best(0), 2);
        due("then by the next", x.best(1), 1);
    }

    // The greatest chance is that of the fraction, not of its millionths.
    private static void bestByFractions() {
        FoldedRealm x = Checks.told("folds 4;writes heavy+ahead*more;" + word("a", 0, 1, 1, 7) + word("b", 0, 1, 15, 1) + word("c", 1, 8, 5, 3) + word("d", 1, 7, 1, 3)
            + word("e", 2, 9, 8, 3) + word("f", 2, 0, 9, 7) + word("g", 3, 0, 0, 6) + word("h", 3, 5, 19, 4));
        due("a c f g", x.comes(bits(0, 2, 5, 6)), 20790L * 1000000 / 235410);
        due("b d e g", x.comes(bits(1, 3, 4, 6)), 29952L * 1000000 / 339150);
        due("they are alike in millionths", x.comes(bits(0, 2, 5, 6)), 88314);
        due("and best", x.best(-1), 88314);
        int[] row = {1, 3, 4, 6};
        for (int fold = 0; fold < 4; fold++) {
            due("but b d e g is greater", x.best(fold), row[fold]);
        }
    }

    // "WORST: the least that the whole can do by rows whose chance is not 0."
    private static void worstOfAll() {
        // The least row comes 1 time in 199 * 199 * 199 * 199: no millionth, but not 0.
        FoldedRealm x = Checks.told("folds 4;writes heavy*98+1;does sum;" + word("a", 0, 0, 0, 9) + word("b", 0, 1, 5, 9) + word("c", 0, 1, 5, 9)
            + word("d", 1, 0, 0, 9) + word("e", 1, 1, 5, 9) + word("f", 1, 1, 5, 9) + word("g", 2, 0, 0, 9) + word("h", 2, 1, 5, 9) + word("i", 2, 1, 5, 9)
            + word("j", 3, 0, 1, 9) + word("k", 3, 1, 5, 9) + word("l", 3, 1, 5, 9));
        due("no millionth", x.comes(bits(0, 3, 6, 9)), 0);
        due("not 0 all the same", x.worst(), 1);
        x = Checks.told("folds 2;does sum-9;" + word("a", 0, 1, 5, 9) + word("b", 0, 0, 0, 9) + word("c", 1, 1, 5, 9) + word("d", 1, 1, 4, 9));
        due("0 by a d", x.worst(), 0);
        due("b has no chance", x.mean(), 500);
        writeAll(x, 1);
        due("but by hand", x.worst(), 0);
        writeAll(x, 2);
        x = Checks.told("folds 2;does sum;" + word("a", 0, 1, 5, 1) + word("b", 0, 0, 0, 9) + word("c", 1, 1, 5, 9));
        due("without b", x.worst(), 10);
        writeAll(x, 0, 2);
        due("a isn't left", x.worst(), -1);
        due("no mean", x.mean(), 0);
        writeAll(x, 1);
        due("with b, by hand", x.worst(), 5);
        x = Checks.told("folds 2;does sum*99;" + word("a", 0, 1, 5, 1) + word("c", 1, 1, 5, 9));
        due("99 at most", x.worst(), 99);
        due("99 at most", x.mean(), 99000);
        x = Checks.told("folds 2;does spiked;" + word("a", 0, 1, 5, 9) + word("b", 0, 1, 5, 9) + word("c", 1, 1, 5, 9) + word("d", 1, 1, 5, 9));
        for (int i = 0; i < 12; i++) {
            due("spiked", x.worst(), Math.min(10, i));
            writeAll(x, i % 2, 2 + i % 2);
        }
    }

    // "MEAN: what it does by each row, times the row's chance in millionths, cut, all together, by 1,000, cut."
    private static void meanCut() {
        FoldedRealm x = Checks.told("folds 2;" + word("a", 0, 1, 20, 9) + word("b", 0, 1, 20, 9) + word("c", 0, 1, 19, 9) + word("d", 1, 1, 20, 9));
        due("thirds", x.mean(), (40L * 333333 + 40L * 333333 + 39L * 333333) / 1000);
        x = Checks.told(twelve(1, 1, 1) + "does 99;");
        due("81 rows of 12345", x.mean(), 99L * 12345 * 81 / 1000);
        x = Checks.told("folds 2;does 1;" + word("a", 0, 1, 0, 9) + word("b", 0, 1, 0, 9) + word("c", 0, 1, 0, 9) + word("d", 1, 1, 0, 9));
        due("999,999 by 1,000", x.mean(), 999);
        due("a new one", new FoldedRealm().mean(), 0);
    }

    // "AIM at a WORD of the last fold: ..": "NONE: others, not of the last fold, none is left."
    private static void aimAtTheLast() {
        for (int folds = 2; folds <= 4; folds++) {
            FoldedRealm x = Checks.told(twelve(1, 1, 1).replace("folds 4", "folds " + folds));
            for (int w = 0; w < 12; w++) {
                boolean last = w / 3 == folds - 1;
                due("aim at " + w + " of " + folds, x.aim(w, 0), last ? 0 : -1);
                due("how much of " + w, x.aim(w, 1) > 0, last);
            }
            due("what 2", x.aim(3 * folds - 1, 2), -1);
            due("what -1", x.aim(3 * folds - 1, -1), -1);
            for (int fold = 0; fold < folds - 1; fold++) {
                writeAll(x, 3 * fold + 1);
            }
            due("it is written now", x.aim(3 * folds - 1, 0), 3 * folds - 1);
            due("all of it", x.aim(3 * folds - 1, 1), 1000000);
        }
        FoldedRealm x = Checks.told("folds 2;" + word("a", 0, 1, 1, 1) + word("b", 1, 1, 1, 1) + word("c", 1, 0, 1, 1) + word("d", 1, 1, 1, 0));
        due("all comes to b", x.aim(1, 1), 1000000);
        due("nothing comes to c: the first", x.aim(2, 0), 0);
        due("nothing", x.aim(2, 1), 0);
        due("none of d is left: nothing comes to it", x.aim(3, 1), 0);
        writeAll(x, 0);
        due("c can be written now", x.aim(2, 0), 2);
        due("all of it", x.aim(2, 1), 1000000);
        due("d can't be: another, the first, and nothing", x.aim(3, 0), 1);
        due("d can't be: another, the first, and nothing", x.aim(3, 1), 0);
        writeAll(x, 2);
        due("none of a is left", x.aim(1, 0), -1);
        due("none of a is left", x.aim(1, 1), -1);
        due("no such WORD", x.aim(4, 0), -1);
        due("no such WORD", x.aim(-1, 1), -1);
    }

    // ".. behind which the most comes to that one, SHARED OUT (..); of equal ones the first"
    private static void aimOfEqualOnes() {
        FoldedRealm x = Checks.told("folds 2;writes heavy+ahead*small;" + word("a", 0, 1, 1, 1) + word("b", 0, 0, 3, 1) + word("c", 0, 0, 3, 1) + word("d", 0, 0, 0, 1)
            + word("e", 1, 1, 2, 1) + word("f", 1, 1, 0, 1));
        // To e: behind a 3/4, b and c 7/8, d 1/2; to f: a 1/4, b and c 1/8, d 1/2.
        due("at e, by LIKELY 0 too", x.aim(4, 0), 1);
        due("at e", x.aim(4, 1), 875000);
        due("at f", x.aim(5, 0), 3);
        due("at f", x.aim(5, 1), 500000);
        writeAll(x, 1, 5);
        due("none of b, none of f is left", x.aim(4, 0), 0);
        due("all comes to e", x.aim(4, 1), 1000000);
        // Of three folds: cut at each word, then together.
        x = Checks.told("folds 3;" + word("a", 0, 1, 1, 1) + word("b", 1, 1, 1, 1) + word("c", 1, 1, 1, 1) + word("d", 1, 1, 1, 1) + word("e", 2, 1, 1, 1)
            + word("f", 2, 1, 1, 1));
        due("333,333 three times, each by 2", x.aim(4, 1), 3 * 166666);
    }

    // "MEET of two WORDS of unlike folds in so many wholes (1 to 9) anew"
    private static void meetOneToNine() {
        FoldedRealm x = Checks.told("folds 2;" + word("a", 0, 1, 1, 9) + word("b", 0, 2, 1, 9) + word("c", 1, 1, 1, 9) + word("d", 1, 1, 1, 0));
        long q = 1000000;
        for (int wholes = 1; wholes <= 9; wholes++) {
            q = q * (1000000 - 333333) / 1000000;
            due("a c in " + wholes, x.meet(0, 2, wholes), 1000000 - q);
            due("c a in " + wholes, x.meet(2, 0, wholes), 1000000 - q);
            due("a d, none is left", x.meet(0, 3, wholes), 0);
        }
        due("0", x.meet(0, 2, 0), -1);
        due("10", x.meet(0, 2, 10), -1);
        due("of one fold", x.meet(0, 1, 1), -1);
        due("of one fold", x.meet(3, 2, 1), -1);
        x = Checks.told("folds 2;" + word("a", 0, 1, 1, 1) + word("c", 1, 1, 1, 1));
        for (int wholes = 1; wholes <= 9; wholes++) {
            due("always, what is left stays so", x.meet(0, 1, wholes), 1000000);
        }
        writeAll(x, 0);
        due("none of a is left", x.meet(0, 1, 9), 0);
        due("nothing at first", new FoldedRealm().meet(0, 1, 1), -1);
    }

    // ".. of the SEATS from now on, one behind another": p of each by its WRITERS.
    private static void meetBySeats() {
        FoldedRealm x = Checks.told("folds 2;writes fond;writer p plain;writer q plain;writer r plain;writer s plain;writer t plain;"
            + word("a", 0, 1, 1, 9) + word("b", 0, 1, 1, 9) + word("c", 1, 1, 1, 9)
            + "likes p a 1;likes p b 1;likes q a 1;likes q b 2;likes r a 1;likes r b 3;likes s a 1;likes s b 4;likes t a 1;likes t b 5;"
            + "likes p c 1;likes q c 1;likes r c 1;likes s c 1;likes t c 1;");
        long[] p = {500000, 333333, 250000, 200000, 166666};
        for (int seat = 0; seat < 6; seat++) {
            long q = 1000000;
            for (int wholes = 1; wholes <= 9; wholes++) {
                q = q * (1000000 - p[(seat + wholes - 1) % 5]) / 1000000;
                due("SEAT " + seat + ", " + wholes, x.meet(0, 2, wholes), 1000000 - q);
            }
            x.pass();
        }
        writeAll(x, 1);
        due("anew, in the midst of a whole", x.meet(0, 2, 1), 333333);
    }

    // SHARED OUT: "what each has to those of the fold behind it, and so on (what is cut is lost ..)"
    private static void whatIsCutIsLost() {
        FoldedRealm x = Checks.told("folds 3;writer p plain;" + word("a", 0, 1, 1, 9) + word("b", 0, 1, 1, 9) + word("c", 0, 1, 1, 9) + word("d", 1, 1, 1, 9)
            + word("e", 1, 1, 1, 9) + word("f", 2, 1, 1, 9) + word("g", 2, 2, 1, 9));
        // a 333333: d 166666, e 166666; d 166666: f 55555, g 111110.
        due("a d", x.meet(0, 3, 1), 55555 + 111110);
        // d has 3 * 166666 = 499998: f 166666, g 333332.
        due("d f", x.meet(3, 5, 1), 166666);
        due("d g", x.meet(3, 6, 1), 333332);
        // a 333333 by d and e 166666 each: f 55555 each.
        due("a f", x.meet(0, 5, 1), 55555 * 2);
        due("began", x.began(), 1);
        // One of 1,000,000 is some; less than one is none.
        x = Checks.told("folds 4;writer p plain;writes heavy*98+1;" + word("a", 0, 0, 0, 9) + word("b", 0, 1, 0, 9) + word("c", 1, 0, 0, 9) + word("d", 1, 1, 0, 9)
            + word("e", 2, 0, 0, 9) + word("f", 2, 1, 0, 9) + word("g", 3, 0, 0, 9) + word("h", 3, 1, 0, 9));
        // a 10000: c 100, d 9900; to e 1 and 99; of these to g 1, to h 99. Of the 1 behind a c alone g and h get nothing.
        due("a e", x.meet(0, 4, 1), 100);
        x.read(0);
        due("a stood", x.began(), 1);
        x.read(2);
        due("a c stood", x.began(), 1);
        x.read(4);
        due("a c e: 1 is there, then it is cut", x.began(), 0);
        due("nobody", x.sure(), -1);
    }

    // "by which some of 1,000,000 comes": one is some.
    private static void oneIsSome() {
        String words = word("a", 0, 0, 0, 9) + word("b", 0, 1, 0, 9) + word("c", 1, 0, 0, 9) + word("d", 1, 1, 0, 9) + word("e", 2, 0, 0, 9) + word("f", 2, 1, 0, 9);
        FoldedRealm x = Checks.told("folds 4;writer p plain;writes heavy*98+1;" + words + word("g", 3, 0, 0, 9));
        x.read(0);
        x.read(2);
        x.read(4);
        due("1 comes to g", x.began(), 1);
        due("it is sure", x.sure(), 0);
        x = Checks.told("folds 3;writer p plain;writes heavy*98+1;" + words);
        x.read(0);
        x.read(2);
        x.read(4);
        due("1 comes to e", x.began(), 1);
        due("it is sure", x.sure(), 0);
    }

    // The last WORD may stand in the first fold, the first one in the last.
    private static void anyOrderOfWords() {
        StringBuilder text = new StringBuilder("folds 4;writer p plain;writes heavy+ahead;");
        for (int w = 0; w < 12; w++) {
            text.append(word("w" + (char) ('a' + w), 3 - w / 3, 1, w % 3 == 2 ? 1 : 0, 9));
        }
        FoldedRealm x = Checks.told(text.toString());
        int[] row = {9, 6, 3, 0};
        for (int fold = 0; fold < 4; fold++) {
            due("best", x.best(fold), row[fold]);
        }
        due("the last ones", x.comes(bits(11, 8, 5, 2)), 12345);
        due("aim at the first", x.aim(0, 0), 9);
        due("it comes", x.aim(0, 1) > 333000, true);
        // 333333; then 111111 to each of three; then 37037 to each by each, 111111 together; then so once more.
        due("the first with the last", x.meet(0, 11, 1), 111111);
        due("began", x.began(), 1);
        x.read(0);
        due("the first was read", x.began(), 1);
        due("spent", x.spent(), 27);
        writeAll(x, 11, 8, 5, 0);
        due("written", x.spike(0, 3), 0);
    }

    // What was weighed for a REALM told ahead, by the same numbers, is none of this one's.
    private static void nothingWeighedAhead() {
        FoldedRealm x = Checks.told("folds 2;writer p plain;" + word("a", 0, 1, 1, 9) + word("b", 0, 1, 1, 9) + word("c", 1, 5, 1, 9) + word("d", 1, 5, 1, 9));
        due("weighed", x.meet(0, 3, 1), 250000);
        String now = "folds 3;writer p plain;" + word("a", 0, 1, 1, 9) + word("b", 1, 1, 1, 9) + word("c", 1, 2, 1, 9) + word("d", 2, 1, 1, 9);
        Checks.feed(x, now);
        due("another", x.realm(), 0);
        due("all comes to d behind a, but for what is cut", x.meet(0, 3, 1), 333333 + 666666);
        due("a third behind b", x.meet(1, 3, 1), 333333);
        due("aim", x.aim(3, 1), 333333 + 666666);
        due("began", x.began(), 1);
        due("best", x.best(-1), 666666);
    }

    // "(All of the whole that is being written, as it stands, by what is left now.)": ahead is the WORD that is written.
    private static void behindWhatIsWritten() {
        FoldedRealm x = Checks.told("folds 3;writes heavy+ahead*small;" + word("a", 0, 1, 0, 9) + word("b", 0, 1, 3, 9) + word("c", 1, 1, 0, 9) + word("d", 1, 1, 2, 9)
            + word("e", 2, 1, 0, 9) + word("f", 2, 1, 4, 1));
        writeAll(x, 1);
        // behind b: c 1, d 7; behind c: e 1, f 1; behind d: e 1, f 9.
        due("b c e", x.comes(bits(2, 4)), 62500);
        due("b d f", x.comes(bits(3, 5)), 787500);
        due("best", x.best(-1), 787500);
        due("best", x.best(1), 3);
        due("mean", x.mean(), (3L * 62500 + 7L * 62500 + 5L * 87500 + 9L * 787500) / 1000);
        due("worst", x.worst(), 3);
        due("aim", x.aim(5, 0), 3);
        due("aim", x.aim(5, 1), 900000);
        writeAll(x, 3);
        due("b d e", x.comes(bits(4)), 100000);
        due("best", x.best(2), 5);
        due("worst", x.worst(), 5);
        due("mean", x.mean(), (5L * 100000 + 9L * 900000) / 1000);
        writeAll(x, 5, 0);
        // none of f is left; behind a: c 1, d 1.
        due("a c e", x.comes(bits(2, 4)), 500000);
        due("a c f", x.comes(bits(2, 5)), 0);
        due("worst", x.worst(), 0);
        due("as many as there are of e", x.spent(), 9);
    }

    /** The wholes of two folds: fold 0 has a, b, c; fold 1 has d, e, f (words 0 to 5). */
    private static FoldedRealm wholes(String clashes, int... pairs) {
        FoldedRealm x = Checks.told("folds 2;" + word("a", 0, 1, 1, 9) + word("b", 0, 1, 1, 9) + word("c", 0, 1, 1, 9) + word("d", 1, 1, 1, 9) + word("e", 1, 1, 1, 9)
            + word("f", 1, 1, 1, 9) + clashes);
        for (int pair : pairs) {
            writeAll(x, pair / 10, pair % 10);
        }
        return x;
    }

    private static void burning(String clashes, int count, int fire, int... pairs) {
        FoldedRealm x = wholes(clashes, pairs);
        String told = clashes + java.util.Arrays.toString(pairs);
        due("clashes of " + told, x.clashes(), count);
        due("fire of " + told, x.fire(), fire);
        for (int i = 9; i >= 0; i--) {
            if ((fire >> i & 1) == 1) {
                x.burn(i);
            }
        }
        due("none left of " + told, x.clashes(), 0);
    }

    // "CLASHES: pairs of wholes on the SPIKE in which, together, two WORDS clash (one in each), and wholes that clash in themselves."
    // "FIRE: the fewest to be burnt by which there are none left; of equal ones the least set (bits)."
    private static void clashesAndFire() {
        burning("", 0, 0);
        burning("", 0, 0, 3, 3, 14);
        burning("clash a d;", 0, 0);
        burning("clash a d;", 1, 0b1, 3);
        burning("clash a d;", 0, 0, 4);
        burning("clash a d;", 3, 0b11, 3, 3);
        burning("clash a d;", 1, 0b1, 3, 14);
        burning("clash a d;", 1, 0b10, 14, 3);
        burning("clash a d;", 2, 0b1, 3, 4);
        burning("clash a d;", 2, 0b1, 3, 13);
        burning("clash a d;", 1, 0b1, 4, 13);
        burning("clash a d;", 1, 0b1, 13, 4);
        burning("clash a b;", 1, 0b01, 3, 13);
        burning("clash a b;", 2, 0b001, 3, 13, 13);
        burning("clash a b;", 2, 0b010, 3, 13, 3);
        burning("clash a b;clash d e;", 1, 0b01, 3, 14);
        burning("clash a b;clash d e;clash a d;clash b e;", 3, 0b11, 3, 14);
        burning("clash a b;clash b c;clash a c;", 3, 0b011, 3, 13, 23);
        burning("clash a b;clash b c;", 2, 0b010, 3, 13, 23);
        burning("clash a b;clash d f;", 3, 0b00101, 3, 24, 13, 25, 24);
        burning("clash a b;", 25, 0b0000011111, 3, 4, 3, 4, 3, 13, 14, 13, 14, 13);
        burning("clash a b;", 25, 0b0101010101, 3, 14, 3, 14, 3, 14, 3, 14, 3, 14);
        burning("clash a b;", 24, 0b1010101000, 3, 3, 3, 14, 3, 14, 3, 14, 3, 14);
        burning("clash a b;", 9, 0b1000000000, 3, 3, 3, 3, 3, 4, 4, 4, 4, 14);
        burning("clash a b;", 9, 0b0000000001, 14, 3, 3, 3, 3, 3, 4, 4, 4, 4);
    }

    // All ten clash with all: 45 pairs, and each in itself.
    private static void allTenClash() {
        FoldedRealm x = Checks.told("folds 2;" + word("a", 0, 1, 1, 9) + word("b", 0, 1, 1, 9) + word("c", 1, 1, 1, 9) + word("d", 1, 1, 1, 9)
            + "clash a b;clash a c;clash a d;clash b c;clash b d;clash c d;");
        int[] many = {0, 1, 3, 6, 10, 15, 21, 28, 36, 45, 55, 55};
        for (int i = 0; i < 12; i++) {
            due("clashes of " + i, x.clashes(), many[i]);
            due("fire of " + i, x.fire(), (1 << Math.min(10, i)) - 1);
            if (i < 11) {
                writeAll(x, i % 2, 2 + i % 2);
            }
        }
        due("a fallen one doesn't clash", x.count(6), 10);
    }

    // "BEGAN: SEATS (0 to how many WRITERS less 1) by which some of 1,000,000 comes .."; "SURE: .. of equal ones the first"
    private static void beganBySeats() {
        String[] names = {"p", "q", "r", "s", "t"};
        for (int n = 0; n <= 5; n++) {
            StringBuilder text = new StringBuilder("folds 2;" + word("a", 0, 1, 1, 9) + word("b", 0, 1, 1, 9) + word("c", 1, 1, 1, 9) + word("z", 0, 0, 1, 9));
            for (int i = 0; i < n; i++) {
                text.append("writer ").append(names[i]).append(" plain;");
            }
            FoldedRealm x = Checks.told(text.toString());
            due("all SEATS of " + n, x.began(), (1 << n) - 1);
            due("the first of " + n, x.sure(), n == 0 ? -1 : 0);
            due("all alike", x.ask(), -1);
            due("read z", x.read(3), true);
            due("no SEAT of " + n, x.began(), 0);
            due("none of " + n, x.sure(), -1);
            due("none of " + n, x.ask(), -1);
            if (n > 0) {
                x = Checks.told(text + "likes " + names[n - 1] + " z 1;");
                x.read(3);
                due("the last SEAT of " + n, x.began(), 1 << n - 1);
                due("the last of " + n, x.sure(), n - 1);
                x.pass();
                due("whatever the SEAT now", x.sure(), n - 1);
                writeAll(x, 0);
                due("whatever is written now", x.began(), 1 << n - 1);
            }
        }
    }

    // ".. to rows in which all that is READ stands"
    private static void allThatIsRead() {
        FoldedRealm x = Checks.told("folds 2;writes fond;writer p plain;writer q plain;writer r plain;" + word("a", 0, 1, 1, 9) + word("b", 0, 1, 1, 9) + word("c", 1, 1, 1, 9)
            + word("d", 1, 1, 1, 9) + "likes p a 1;likes q a 1;likes q b 1;likes r b 1;likes p c 1;likes q c 1;likes q d 3;likes r d 1;");
        // SEAT 0: p a, q c d 1:3; SEAT 1: q a b 1:1, r d; SEAT 2: r b, p c.
        due("all", x.began(), 0b111);
        due("first of 1,000,000 each", x.sure(), 0);
        x.read(2);
        due("c", x.began(), 0b101);
        due("250,000 and 1,000,000", x.sure(), 2);
        x.read(2);
        due("c again", x.began(), 0b101);
        x.read(0);
        due("a c", x.began(), 0b001);
        due("a c", x.sure(), 0);
        x.read(1);
        due("a b c", x.began(), 0);
        x = Checks.told("folds 2;writes fond;writer p plain;writer q plain;" + word("a", 0, 1, 1, 9) + word("b", 1, 1, 1, 9) + word("c", 1, 1, 1, 9)
            + "likes p a 1;likes q a 1;likes p b 1;likes q b 1;likes q c 2;");
        // SEAT 0: q writes b 1 of 3; SEAT 1: p writes b.
        x.read(1);
        due("the one of the most", x.sure(), 1);
        x.read(0);
        due("the one of the most", x.sure(), 1);
    }

    // "ASK: the fold of which nothing is READ in which, ahead being 0, most unlike WORDS are the likeliest by these SEATS .."
    private static void askTwoAtLeast() {
        String four = "folds 4;writes fond+1;writer p plain;writer q plain;writer r plain;writer s plain;";
        StringBuilder words = new StringBuilder();
        for (int w = 0; w < 12; w++) {
            words.append(word("" + (char) ('a' + w), w / 3, 1, 5, 9));
        }
        FoldedRealm x = Checks.told(four + words);
        due("all alike by the first WORD", x.ask(), -1);
        x = Checks.told(four + words + "likes p b 1;");
        due("two in fold 0", x.ask(), 0);
        x.read(0);
        due("fold 0 is read", x.ask(), -1);
        x = Checks.told(four + words + "likes p l 1;");
        due("two in fold 3", x.ask(), 3);
        x = Checks.told(four + words + "likes p l 1;likes q i 1;likes r e 1;");
        due("of equal ones the first", x.ask(), 1);
        x.read(5);
        due("then the next", x.ask(), 2);
        x.read(6);
        due("then the last", x.ask(), 3);
        x.read(9);
        due("then none", x.ask(), -1);
        x = Checks.told(four + words + "likes p b 1;likes q k 1;likes r l 1;");
        due("three are more than two", x.ask(), 3);
        x.read(11);
        due("two then", x.ask(), 0);
        x = Checks.told("folds 2;writes fond*(ahead=0)+1;writer p plain;writer q plain;" + word("a", 0, 1, 5, 9) + word("b", 1, 1, 5, 9) + word("c", 1, 1, 5, 9) + "likes p c 1;");
        due("ahead being 0", x.ask(), 1);
        x = Checks.told("folds 2;writes fond*(0<ahead)+1;writer p plain;writer q plain;" + word("a", 0, 1, 5, 9) + word("b", 1, 1, 5, 9) + word("c", 1, 1, 5, 9) + "likes p c 1;");
        due("ahead being 0", x.ask(), -1);
    }

    // ".. by these SEATS (of equal LIKELY the first WORD; none if all are 0)"
    private static void askOfTheseSeats() {
        // SEAT 0: p then q; SEAT 1: q then r; SEAT 2: r then p. Behind the WORD ahead all write c or d by more than fond.
        String text = "folds 2;writes fond+(0<ahead);writer p plain;writer q plain;writer r plain;" + word("a", 0, 1, 5, 9) + word("b", 0, 1, 5, 9)
            + word("c", 1, 1, 5, 9) + word("d", 1, 1, 5, 9) + "likes p a 1;likes q a 1;likes r a 1;";
        FoldedRealm x = Checks.told(text);
        due("all are 0 in fold 1", x.ask(), -1);
        x = Checks.told(text + "likes q c 1;");
        due("c and none: one WORD", x.ask(), -1);
        x = Checks.told(text + "likes q c 1;likes r d 1;");
        due("c, d and none: two", x.ask(), 1);
        x = Checks.told(text + "likes q c 1;likes r d 1;likes r b 2;");
        due("a, a, b and c, d, none: the first", x.ask(), 0);
        x.read(0);
        due("a: SEATS 0, 1, 2", x.began(), 0b111);
        due("c, d", x.ask(), 1);
        x = Checks.told(text + "likes q c 1;likes r d 1;likes q b 9;likes p b 9;likes p d 1;");
        // fold 0: p b, q b, r a; fold 1 by SEATS: q c, r d, p d.
        due("two each", x.ask(), 0);
        x = Checks.told("folds 2;writes fond;writer p plain;writer q plain;writer r plain;" + word("a", 0, 1, 5, 9) + word("b", 0, 1, 5, 9) + word("c", 1, 1, 5, 9)
            + word("d", 1, 1, 5, 9) + "likes p a 1;likes q a 1;likes r b 1;likes q c 1;likes r c 1;likes p d 1;");
        due("a, a, b", x.ask(), 0);
        x.read(0);
        due("a: SEATS 0, 1", x.began(), 0b011);
        due("by these c alone", x.ask(), -1);
        x = Checks.told("folds 2;writes fond+1;writer p plain;writer q plain;" + word("a", 0, 1, 5, 9) + word("b", 1, 1, 5, 9) + word("c", 2, 1, 5, 9)
            + word("d", 2, 1, 5, 9) + word("e", 3, 1, 5, 9) + word("f", 3, 1, 5, 9) + "likes p d 1;likes q f 1;");
        due("no fold beyond", x.ask(), -1);
    }

    // "SPENT: how many wholes (the one that is being written first), one behind another, can be, each by its BEST."
    private static void spentByBest() {
        for (int left = 0; left <= 9; left++) {
            FoldedRealm x = Checks.told("folds 2;" + word("a", 0, 1, 1, left) + word("b", 1, 1, 1, 9));
            due("as many as are left", x.spent(), left);
            if (left > 0) {
                writeAll(x, 0);
                due("with the one that is being written", x.spent(), left);
                writeAll(x, 1);
                due("one less", x.spent(), left - 1);
            }
        }
        StringBuilder most = new StringBuilder("folds 2;writes 1;");
        for (int w = 0; w < 12; w++) {
            most.append(word("w" + (char) ('a' + w), w % 2, 1, 1, 9));
        }
        FoldedRealm x = Checks.told(most.toString());
        due("six by nine", x.spent(), 54);
        writeAll(x, 0);
        due("six by nine, in the midst", x.spent(), 54);
        due("of four folds", Checks.told(twelve(1, 1, 1)).spent(), 27);
        // By its BEST alone: a is likelier, but behind a nothing comes once c is spent.
        x = Checks.told("folds 2;writes heavy+9*(ahead=small);" + word("a", 0, 5, 1, 9) + word("b", 0, 4, 2, 9) + word("c", 1, 0, 1, 2) + word("d", 1, 0, 2, 3));
        due("a c twice, then b d thrice", x.spent(), 5);
        x = Checks.told("folds 2;writer p wise;writer q plain;" + word("a", 0, 1, 10, 9) + word("b", 1, 1, 1, 9));
        due("the first can't", x.spent(), 0);
        x.pass();
        due("one can, then p can't", x.spent(), 1);
        due("nothing at first", new FoldedRealm().spent(), 0);
    }

    // "RESTS: by which neither would get more by the other": all prizes 0 to 9, all whats.
    private static void allRests() {
        for (int alone = 0; alone <= 9; alone++) {
            for (int both = 0; both <= 9; both++) {
                FoldedRealm x = new FoldedRealm();
                for (int none = 0; none <= 9; none++) {
                    int[][] first = {{none, 0}, {alone, both}};
                    List<Integer> rests = new ArrayList<>();
                    for (int one = 0; one < 2; one++) {
                        for (int other = 0; other < 2; other++) {
                            boolean fine = first[one][other] >= first[1 - one][other] && first[other][one] >= first[1 - other][one];
                            if (fine) {
                                rests.add(2 * one + other);
                            }
                        }
                    }
                    due("how many", Checks.rests(x, alone, both, none, -1), rests.size());
                    for (int i = 0; i < 5; i++) {
                        due("the " + i + "-th", Checks.rests(x, alone, both, none, i), i < rests.size() ? rests.get(i) : -99);
                    }
                    due("what -2", Checks.rests(x, alone, both, none, -2), -99);
                }
            }
        }
        FoldedRealm x = new FoldedRealm();
        for (int no : new int[] {-1, 10}) {
            for (int what = -1; what < 2; what++) {
                due("alone " + no, Checks.rests(x, no, 3, 4, what), -99);
                due("both " + no, Checks.rests(x, 5, no, 4, what), -99);
                due("none " + no, Checks.rests(x, 5, 3, no, what), -99);
            }
        }
    }

    // "A DRAW below m: g becomes (g * 1103515245 + 12345) modulo 2147483648 (..); it is g / 65536, cut, modulo m."
    private static int[] draws(int seed, int many, int below) {
        int[] drawn = new int[many];
        java.math.BigInteger g = java.math.BigInteger.valueOf(seed);
        for (int i = 0; i < many; i++) {
            g = g.multiply(java.math.BigInteger.valueOf(1103515245)).add(java.math.BigInteger.valueOf(12345)).mod(java.math.BigInteger.TWO.pow(31));
            drawn[i] = g.divide(java.math.BigInteger.valueOf(65536)).mod(java.math.BigInteger.valueOf(below)).intValue();
        }
        return drawn;
    }

    // "the first WORD whose LIKELY and those ahead of it together are more than it is WRITTEN"
    private static void drawnWords() {
        FoldedRealm x = Checks.told("folds 2;writes heavy;does most;" + word("z", 0, 0, 20, 9) + word("a", 0, 2, 1, 9) + word("y", 0, 0, 19, 9) + word("b", 0, 3, 10, 9)
            + word("n", 0, 9, 18, 0) + word("c", 1, 1, 0, 9));
        for (int seed : new int[] {0, 1, 2, 3, 77, 1000, 5000, 9998, 9999}) {
            int[] drawn = draws(seed, 8, 5);
            int good = 0;
            for (int wholes = 1; wholes <= 4; wholes++) {
                good += drawn[2 * wholes - 2] < 2 ? 1 : 10;
                due("good by " + seed, x.generations(seed, 2 * wholes, 1), good);
                due("wholes by " + seed, x.generations(seed, 2 * wholes, 0), wholes);
                due("in the midst", x.generations(seed, 2 * wholes - 1, 0), wholes - 1);
            }
        }
    }

    // "GENERATIONS by a SEED (0 to 9999) of so many words (1 to 99)"
    private static void seedsAndWords() {
        FoldedRealm x = Checks.told("folds 2;" + word("a", 0, 1, 1, 9) + word("b", 0, 1, 1, 9) + word("c", 1, 1, 1, 9) + word("d", 1, 1, 1, 9) + "clash a b;clash c d;clash a c;");
        for (int what = 0; what < 3; what++) {
            due("seed -1", x.generations(-1, 9, what), -1);
            due("seed 0", x.generations(0, 9, what) >= 0, true);
            due("seed 9999", x.generations(9999, 9, what) >= 0, true);
            due("seed 10000", x.generations(10000, 9, what), -1);
            due("words 0", x.generations(1, 0, what), -1);
            due("words 1", x.generations(1, 1, what), 0);
            due("words 99", x.generations(1, 99, what) > 0, true);
            due("words 100", x.generations(1, 100, what), -1);
        }
        due("what -1", x.generations(1, 9, -1), -1);
        due("what 3", x.generations(1, 9, 3), -1);
        for (int words = 1; words <= 36; words++) {
            due("wholes of " + words, x.generations(4321, words, 0), words / 2);
            due("good of " + words, x.generations(4321, words, 1), words / 2 * 2);
        }
        // 18 wholes by 36 words; then none is left: the last is burnt, and written again by two: 63 words more are 21.
        due("99 words", x.generations(4321, 99, 0), 18 + 21);
        writeAll(x, 0, 2, 1);
        due("from now on", x.generations(4321, 1, 0), 1);
        due("the good they did, not what was done", x.generations(4321, 1, 1), 2);
        // a c in itself, and a with b, whichever comes behind b.
        due("CLASHES of all that are there", x.generations(4321, 1, 2), 2);
    }

    // "else the last whole on the SPIKE is BURNT, if there is one": no DRAW is made then.
    private static void burntByGenerations() {
        FoldedRealm x;
        for (int seed = 0; seed < 20; seed++) {
            x = Checks.told("folds 2;writes 1;does most;" + word("a", 0, 1, 0, 1) + word("c", 1, 1, 1, 9) + word("d", 1, 1, 10, 9));
            int[] drawn = draws(seed, 80, 2);
            int good = 0;
            int wholes = 0;
            for (int words = 1; words <= 99; words++) {
                if (words % 3 == 2) {
                    good += drawn[words / 3 * 2 + 1] == 0 ? 1 : 10;
                    wholes++;
                }
                if (words < 12 || words > 95) {
                    due("wholes of " + words, x.generations(seed, words, 0), wholes);
                    due("good of " + words, x.generations(seed, words, 1), good);
                }
            }
        }
        x = Checks.told("folds 2;" + word("a", 0, 1, 1, 9) + word("b", 1, 0, 1, 9));
        due("stuck in the midst, nothing to be burnt", x.generations(1, 99, 0), 0);
        writeAll(x, 0, 1, 0, 1);
        due("stuck in the midst, all are burnt", x.generations(1, 99, 0), 0);
        due("all is as ahead", x.count(6), 2);
        // The last one is burnt, not the first one, which clashes in itself and by its b with the last one's a.
        x = Checks.told("folds 2;" + word("a", 0, 1, 1, 2) + word("b", 1, 1, 1, 1) + word("c", 1, 1, 1, 1) + "clash a b;");
        writeAll(x, 0, 1, 0, 2);
        due("both are there", x.clashes(), 2);
        due("the first one is there", x.generations(1, 1, 2), 1);
        due("it is written again", x.generations(1, 3, 2), 2);
        due("one came", x.generations(1, 3, 0), 1);
        due("its good", x.generations(1, 3, 1), 2);
    }

    // "CLASHES at last": of the SPIKE as it is then, burnt ones are gone, fallen ones are gone.
    private static void clashesAtLast() {
        FoldedRealm x = Checks.told("folds 2;" + word("a", 0, 1, 1, 9) + word("b", 0, 1, 1, 9) + word("c", 1, 1, 1, 9) + word("d", 1, 1, 1, 9)
            + "clash a b;clash a c;clash a d;clash b c;clash b d;clash c d;");
        int[] many = {0, 1, 3, 6, 10, 15, 21, 28, 36, 45, 55};
        for (int words = 1; words <= 36; words++) {
            due("clashes of " + words, x.generations(9, words, 2), many[Math.min(10, words / 2)]);
        }
        due("one is burnt", x.generations(9, 37, 2), 45);
        due("and written again", x.generations(9, 39, 2), 55);
    }

    public static void main(String[] args) {
        rowsAsBits();
        chancesCut();
        allAreZero();
        bestOfEqualOnes();
        bestByFractions();
        worstOfAll();
        meanCut();
        aimAtTheLast();
        aimOfEqualOnes();
        meetOneToNine();
        meetBySeats();
        whatIsCutIsLost();
        oneIsSome();
        anyOrderOfWords();
        behindWhatIsWritten();
        nothingWeighedAhead();
        clashesAndFire();
        allTenClash();
        beganBySeats();
        allThatIsRead();
        askTwoAtLeast();
        askOfTheseSeats();
        spentByBest();
        allRests();
        drawnWords();
        seedsAndWords();
        burntByGenerations();
        clashesAtLast();
        checks.end();
    }
}
