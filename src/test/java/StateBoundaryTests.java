import java.util.ArrayList;
import java.util.List;
import java.util.function.Supplier;
import java.util.function.ToLongFunction;

/**
 * The boundaries that the document names of what is done by hand (promises 5 to 13, 22, 29, 30), a test for each
 * sentence; and of every call that it answers otherwise or not at all, that nothing is changed by it.
 */
public final class StateBoundaryTests {
    private static final Checks checks = new Checks();

    private static final String SMALL = "folds 2;writer p plain;writer q wise;writer r sly;"
        + Checks.word("a", 0, 2, 3, 2) + Checks.word("b", 0, 6, 10, 1) + Checks.word("c", 1, 1, 5, 3) + Checks.word("d", 1, 0, 20, 9)
        + "likes p a 2;likes q c 3;clash a d;clash b c;";
    /** Words enough for ten wholes that are all unlike: whole i has the words i % 4 and 4 + i / 4. */
    private static final String WIDE = "folds 2;writer p plain;writer q wild;writer r sly;"
        + Checks.word("a", 0, 1, 1, 9) + Checks.word("b", 0, 2, 2, 9) + Checks.word("c", 0, 3, 3, 9) + Checks.word("d", 0, 4, 4, 9)
        + Checks.word("e", 1, 1, 5, 9) + Checks.word("f", 1, 2, 6, 9) + Checks.word("g", 1, 3, 7, 9) + Checks.word("h", 1, 4, 8, 9) + "clash a e;clash b h;";
    private static final int FAR = Integer.MAX_VALUE;
    private static final int LOW = Integer.MIN_VALUE;

    private static void due(String call, long got, long want) {
        checks.due(call, got, want);
    }

    private static void due(String call, boolean got, boolean want) {
        checks.due(call, got, want);
    }

    private static void writeAll(FoldedRealm x, int... words) {
        for (int w : words) {
            if (x.write(w) == FoldedRealm.NONE) {
                throw new IllegalStateException("can't write " + w);
            }
        }
    }

    private static void writeWholes(FoldedRealm x, int from, int to) {
        for (int i = from; i < to; i++) {
            writeAll(x, i % 4, 4 + i / 4);
        }
    }

    /** In the midst of it: a whole on the spike, a word on the strip, Sundays, a mark, one read, signs on the tape. */
    private static FoldedRealm midst() {
        FoldedRealm x = Checks.told(SMALL);
        Checks.tellSundays(x, "write a;write d;burn 3;pass;write b;");
        x.pass();
        writeAll(x, 1, 3);
        x.mark(0, false);
        writeAll(x, 0, 2);
        x.burn(0);
        x.read(2);
        x.mark(3, false);
        writeAll(x, 0);
        Checks.feed(x, "folds 2;?");
        return x;
    }

    /** As much as there can be: ten wholes, sixteen to be undone, eight read, a thousand signs. */
    private static FoldedRealm full() {
        FoldedRealm x = Checks.told(WIDE);
        Checks.tellSundays(x, "write a;write e;pass;".repeat(13) + "pass;");
        writeWholes(x, 0, 10);
        x.mark(3, false);
        writeAll(x, 0, 4);
        for (int i = 0; i < 8; i++) {
            x.read(i % 2 * 4);
        }
        x.pass();
        writeAll(x, 3);
        Checks.feed(x, "writer x plain;".repeat(70));
        return x;
    }

    private record Call(String name, ToLongFunction<FoldedRealm> of, long want) { }

    /** Calls that every state refuses. */
    private static List<Call> refused() {
        List<Call> calls = new ArrayList<>();
        for (int no : new int[] {LOW, -2, -1, 12, 13, 31, 32, FAR}) {
            calls.add(new Call("write " + no, x -> x.write(no), -1));
            calls.add(new Call("read " + no, x -> x.read(no) ? 1 : 0, 0));
            calls.add(new Call("burn " + no, x -> x.burn(no), -1));
            calls.add(new Call("word " + no, x -> x.word(no, 0), -2));
            calls.add(new Call("word " + no + " likely", x -> x.word(no, 4), -2));
            calls.add(new Call("writer " + no, x -> x.writer(no, 0), -2));
            calls.add(new Call("strip " + no, x -> x.strip(no), -1));
            calls.add(new Call("spike " + no, x -> x.spike(no, 0), -1));
            calls.add(new Call("spike fold " + no, x -> x.spike(0, no), -1));
            calls.add(new Call("aim " + no, x -> x.aim(no, 0), -1));
            calls.add(new Call("meet " + no, x -> x.meet(no, 2, 1), -1));
            calls.add(new Call("meet other " + no, x -> x.meet(0, no, 1), -1));
        }
        for (int no : new int[] {LOW, -1, 4, 5, FAR}) {
            calls.add(new Call("mark " + no, x -> x.mark(no, false) ? 1 : 0, 0));
            calls.add(new Call("back to " + no, x -> x.mark(no, true) ? 1 : 0, 0));
        }
        calls.add(new Call("back to nothing", x -> x.mark(1, true) ? 1 : 0, 0));
        calls.add(new Call("back to nothing", x -> x.mark(2, true) ? 1 : 0, 0));
        for (int no : new int[] {LOW, -1, 14, 15, FAR}) {
            calls.add(new Call("count " + no, x -> x.count(no), -1));
        }
        for (int no : new int[] {LOW, -1, 3, 4, FAR}) {
            calls.add(new Call("judged " + no, x -> x.judged(no), -2));
            calls.add(new Call("generations what " + no, x -> x.generations(1, 9, no), -1));
        }
        for (int no : new int[] {LOW, -2, 4, 5, FAR}) {
            calls.add(new Call("best " + no, x -> x.best(no), -2));
            calls.add(new Call("rests what " + no, x -> Checks.rests(x, 4, 0, 4, no), -99));
        }
        refusedNumbers(calls);
        return calls;
    }

    private static void refusedNumbers(List<Call> calls) {
        for (int bits : new int[] {LOW, -1, 0, 1, 2, 3, 17, FAR, 1 << 12, 1 << 31 | 0b10001}) {
            calls.add(new Call("comes " + bits, x -> x.comes(bits), -1));
        }
        for (int no : new int[] {LOW, -1, 0, 10, 11, FAR}) {
            calls.add(new Call("meet " + no + " wholes", x -> x.meet(0, 2, no), -1));
        }
        calls.add(new Call("meet itself", x -> x.meet(0, 0, 1), -1));
        calls.add(new Call("meet of one fold", x -> x.meet(0, 1, 1), -1));
        for (int no : new int[] {LOW, -1, 10, 11, FAR}) {
            calls.add(new Call("rests alone " + no, x -> Checks.rests(x, no, 1, 2, -1), -99));
            calls.add(new Call("rests both " + no, x -> Checks.rests(x, 3, no, 2, -1), -99));
            calls.add(new Call("rests none " + no, x -> Checks.rests(x, 3, 1, no, -1), -99));
        }
        for (int no : new int[] {LOW, -1, 10000, FAR}) {
            calls.add(new Call("generations seed " + no, x -> x.generations(no, 9, 0), -1));
        }
        for (int no : new int[] {LOW, -1, 0, 100, 101, FAR}) {
            calls.add(new Call("generations words " + no, x -> x.generations(1, no, 0), -1));
        }
        for (int no : new int[] {LOW, -1, 2, 3, FAR}) {
            calls.add(new Call("aim what " + no, x -> x.aim(3, no), -1));
        }
    }

    private static void refusedEverywhere() {
        List<Supplier<FoldedRealm>> states = List.of(FoldedRealm::new, () -> Checks.told(SMALL), StateBoundaryTests::midst, StateBoundaryTests::full);
        for (int i = 0; i < states.size(); i++) {
            for (Call call : refused()) {
                checks.changesNothing("state " + i + ": " + call.name(), states.get(i), call.of(), call.want());
            }
        }
    }

    private static void refusedHere() {
        Supplier<FoldedRealm> fresh = () -> Checks.told(SMALL);
        checks.changesNothing("nothing can be undone", FoldedRealm::new, x -> x.undo() ? 1 : 0, 0);
        checks.changesNothing("no WRITERS to pass", FoldedRealm::new, FoldedRealm::pass, -1);
        checks.changesNothing("no whole", fresh, x -> x.burn(0), -1);
        checks.changesNothing("nothing can be undone", fresh, x -> x.undo() ? 1 : 0, 0);
        checks.changesNothing("of a fold behind", fresh, x -> x.write(2), -1);
        checks.changesNothing("the first number beyond", fresh, x -> x.write(4), -1);
        checks.changesNothing("the first number beyond", fresh, x -> x.read(4) ? 1 : 0, 0);
        checks.changesNothing("of a fold ahead", StateBoundaryTests::midst, x -> x.write(0), -1);
        checks.changesNothing("something is written", StateBoundaryTests::midst, FoldedRealm::pass, -1);
        checks.changesNothing("as many as there are", StateBoundaryTests::midst, x -> x.burn(1), -1);
        checks.changesNothing("8 are READ", StateBoundaryTests::full, x -> x.read(0) ? 1 : 0, 0);
        checks.changesNothing("something is written", StateBoundaryTests::full, FoldedRealm::pass, -1);
        checks.changesNothing("no room on the tape", StateBoundaryTests::full, x -> x.feed(-1, 0x6161616161616161L, 0), 1000);
        checks.changesNothing("no signs", StateBoundaryTests::midst, x -> x.feed(0, -1, LOW), 9);
        Supplier<FoldedRealm> spent = () -> {
            FoldedRealm x = Checks.told(SMALL);
            writeAll(x, 1, 3);
            return x;
        };
        checks.changesNothing("none is left", spent, x -> x.write(1), -1);
        Supplier<FoldedRealm> undone = () -> {
            FoldedRealm x = midst();
            for (int i = 0; i < 16; i++) {
                x.undo();
            }
            return x;
        };
        checks.changesNothing("all is undone", undone, x -> x.undo() ? 1 : 0, 0);
    }

    /** What only asks changes nothing, whatever it answers. */
    private static void askingChangesNothing() {
        List<ToLongFunction<FoldedRealm>> asked = List.of(x -> x.writer(0, 1), x -> x.word(0, 4), x -> x.strip(0), x -> x.spike(0, 1), x -> x.judged(0),
            x -> x.judged(1), x -> x.judged(2), x -> x.comes(0b1000), x -> x.comes(0b10001), x -> x.best(-1), x -> x.best(1), FoldedRealm::worst,
            FoldedRealm::mean, x -> x.aim(3, 0), x -> x.aim(7, 1), x -> x.meet(0, 3, 9), x -> x.meet(5, 1, 2), FoldedRealm::clashes, FoldedRealm::fire,
            FoldedRealm::began, FoldedRealm::sure, FoldedRealm::ask, FoldedRealm::spent, x -> Checks.rests(x, 4, 0, 4, 3),
            x -> x.generations(5, 99, 0), x -> x.generations(6, 98, 1), x -> x.generations(7, 97, 2), x -> x.count(8), x -> x.feed(0, 0, 0));
        List<Supplier<FoldedRealm>> states = List.of(FoldedRealm::new, () -> Checks.told(SMALL), StateBoundaryTests::midst, StateBoundaryTests::full);
        for (int i = 0; i < states.size(); i++) {
            for (int j = 0; j < asked.size(); j++) {
                long want = asked.get(j).applyAsLong(states.get(i).get());
                checks.changesNothing("state " + i + ", asked " + j, states.get(i), asked.get(j), want);
            }
        }
    }

    // "Of a WRITER, what 0: KIND .., 1 + w: how much the WORD w is liked (0: not); -2: others."
    private static void ofAWriter() {
        StringBuilder text = new StringBuilder("writer a plain;writer b wise;writer c wild;writer d sly;writer e plain;");
        for (int i = 0; i < 12; i++) {
            text.append(Checks.word("w" + (char) ('a' + i), i % 4, 1, 1, 1));
        }
        text.append("likes a wa 1;likes e wl 9;likes c wl 2;");
        FoldedRealm x = Checks.told(text.toString());
        due("the first likes the first", x.writer(0, 1), 1);
        due("the last likes the last", x.writer(4, 12), 9);
        due("the third the last", x.writer(2, 12), 2);
        due("liked not", x.writer(4, 1), 0);
        due("liked not", x.writer(3, 12), 0);
        due("beyond the twelfth", x.writer(4, 13), -2);
        due("below 0", x.writer(4, -1), -2);
        due("no sixth", x.writer(5, 0), -2);
        due("below the first", x.writer(-1, 1), -2);
        x = Checks.told("writer a plain;");
        due("without WORDS", x.writer(0, 1), -2);
        due("its KIND", x.writer(0, 0), 0);
        due("no second", x.writer(1, 0), -2);
    }

    // "Of a WORD, what 0: its fold, .., 4: LIKELY now (NONE: not of the next fold); -2: others."
    private static void ofAWord() {
        FoldedRealm x = Checks.told("folds 2;" + Checks.word("a", 0, 9, 20, 9) + Checks.word("b", 1, 8, 19, 1) + Checks.word("c", 2, 7, 18, 7));
        int[][] want = {{0, 9, 20, 9, 9}, {1, 8, 19, 1, -1}, {2, 7, 18, 7, -1}};
        for (int w = 0; w < 3; w++) {
            for (int what = 0; what < 5; what++) {
                due("word " + w + ", " + what, x.word(w, what), want[w][what]);
            }
            due("what 5", x.word(w, 5), -2);
            due("what -1", x.word(w, -1), -2);
        }
        due("word 3", x.word(3, 0), -2);
        writeAll(x, 0);
        due("8 left", x.word(0, 3), 8);
        due("no more of the next fold", x.word(0, 4), -1);
        due("of the next fold", x.word(1, 4), 8);
        due("a fold beyond", x.word(2, 4), -1);
        writeAll(x, 1);
        due("0 left", x.word(1, 3), 0);
        due("told weight stays", x.word(1, 1), 8);
        writeAll(x, 0);
        due("of the next fold, none is left", x.word(1, 4), 0);
        due("a fold beyond", x.word(2, 4), -1);
    }

    // "A whole has a WORD in each fold (0 to folds less 1; words of later folds are never written)."
    private static void foldsBeyond() {
        for (int folds = 2; folds <= 4; folds++) {
            StringBuilder text = new StringBuilder("folds " + folds + ";writer p plain;");
            for (int i = 0; i < 4; i++) {
                text.append(Checks.word("" + (char) ('a' + i), i, 1, 1, 9));
            }
            FoldedRealm x = Checks.told(text.toString());
            due("the one row", x.comes((1 << folds) - 1), 1000000);
            for (int fold = 0; fold < folds; fold++) {
                for (int w = 0; w < 4; w++) {
                    due("likely only of the next fold", x.word(w, 4), w == fold ? 1 : -1);
                    due("best", x.best(w), w >= fold && w < folds ? w : -2);
                    if (w != fold) {
                        due("not of the next fold", x.write(w), -1);
                    }
                }
                due("so many written", x.write(fold), fold == folds - 1 ? 0 : fold + 1);
                due("so many written", x.count(4), fold == folds - 1 ? 0 : fold + 1);
            }
            for (int fold = -1; fold <= 4; fold++) {
                due("on the SPIKE " + fold, x.spike(0, fold), fold >= 0 && fold < folds ? fold : -1);
            }
            for (int w = 0; w < 4; w++) {
                due("read", x.read(w), w < folds);
                due("aim", x.aim(w, 1), w == folds - 1 ? 1000000 : -1);
                due("meet", x.meet(w, 0, 1), w > 0 && w < folds ? 1000000 : -1);
                due("meet", x.meet(0, w, 1), w > 0 && w < folds ? 1000000 : -1);
            }
            due("all that is left has those beyond", x.count(8), 36 - folds);
            due("a line of a fold beyond", Checks.tellSundays(x, folds < 4 ? "write d;" : "write a;"), 0);
            due("can't be", x.judged(0), folds < 4 ? 0 : -1);
            due("eight more wholes", x.spent(), 8);
        }
    }

    // "The WORD in a fold of the whole that is being written; NONE: others, none yet."
    private static void onTheStrip() {
        FoldedRealm x = Checks.told("folds 4;" + Checks.word("a", 0, 1, 1, 9) + Checks.word("b", 1, 1, 1, 9) + Checks.word("c", 2, 1, 1, 9) + Checks.word("d", 3, 1, 1, 9)
            + Checks.word("e", 3, 1, 1, 9));
        for (int whole = 0; whole < 2; whole++) {
            for (int fold = 0; fold < 4; fold++) {
                for (int at = -1; at <= 4; at++) {
                    due(fold + " written, strip " + at, x.strip(at), at >= 0 && at < fold ? at : -1);
                }
                due("spike of the one that is being written", x.spike(whole, 0), -1);
                writeAll(x, fold == 3 ? 3 + whole : fold);
            }
        }
        due("the first", x.spike(0, 3), 3);
        due("the second", x.spike(1, 3), 4);
        due("no third", x.spike(2, 3), -1);
        for (int at = -1; at <= 4; at++) {
            due("strip of nothing " + at, x.strip(at), -1);
        }
    }

    // "Of the fold that is next the WRITER is he whose number is SEAT and the fold's number together, modulo how many .."
    private static void whoseTurn() {
        for (int n = 0; n <= 5; n++) {
            StringBuilder text = new StringBuilder("folds 4;writes fond;");
            for (int i = 0; i < 4; i++) {
                text.append(Checks.word("" + (char) ('a' + i), i, 1, 1, 9));
            }
            for (int i = 0; i < n; i++) {
                text.append("writer ").append((char) ('p' + i)).append(" plain;");
                for (int w = 0; w < 4; w++) {
                    text.append("likes ").append((char) ('p' + i)).append(' ').append((char) ('a' + w)).append(' ').append(i + 1).append(';');
                }
            }
            FoldedRealm x = Checks.told(text.toString());
            for (int seat = 0; seat < 7; seat++) {
                int now = n == 0 ? 0 : seat % n;
                for (int fold = 0; fold < 4; fold++) {
                    due(n + " WRITERS, SEAT " + seat + ", fold " + fold, x.count(5), n == 0 ? -1 : (now + fold) % n);
                    due("how fond he is", x.word(fold, 4), n == 0 ? 0 : (now + fold) % n + 1);
                    due("the SEAT", x.count(3), now);
                    due("by hand, whoever's turn it is", x.write(fold), (fold + 1) % 4);
                }
            }
        }
    }

    // "LIKELY of a WORD of that fold: the E of writes (0 to 99), 0 if none is left; a sly one's 1 at least for each that is left."
    private static void likelyOfTheSly() {
        String words = "folds 2;" + Checks.word("a", 0, 0, 0, 1) + Checks.word("b", 0, 0, 20, 9) + Checks.word("c", 0, 9, 9, 0) + Checks.word("d", 1, 1, 1, 1);
        String[] kinds = {"plain", "wise", "wild", "sly"};
        int[] want = {0, 0, 1, 1};
        for (int kind = 0; kind < 4; kind++) {
            FoldedRealm x = Checks.told(words + "writer p " + kinds[kind] + ";");
            due(kinds[kind] + ", 1 left", x.word(0, 4), want[kind]);
            due(kinds[kind] + ", 9 left", x.word(1, 4), want[kind]);
            due(kinds[kind] + ", none left", x.word(2, 4), 0);
            for (int e = -1; e <= 2; e++) {
                x = Checks.told(words + "writes " + (e + 1) + "-1;writer p " + kinds[kind] + ";");
                due(kinds[kind] + ", E " + e, x.word(0, 4), Math.max(kind == 3 ? 1 : 0, e));
                due(kinds[kind] + ", E " + e + ", none left", x.word(2, 4), 0);
            }
            x = Checks.told(words + "writes 100;writer p " + kinds[kind] + ";");
            due(kinds[kind] + ", 99 at most", x.word(1, 4), 99);
        }
        FoldedRealm x = Checks.told(words + "writes 7;writer p sly;");
        writeAll(x, 0, 3);
        due("written, none left", x.word(0, 4), 0);
        x.burn(0);
        due("left again", x.word(0, 4), 7);
    }

    // "Without writes: heavy + fond, of a wise one 0 if small is above 9, of a wild one 1"
    private static void withoutWrites() {
        String[] kinds = {"plain", "wise", "wild", "sly"};
        for (int kind = 0; kind < 4; kind++) {
            for (int good = 8; good <= 11; good++) {
                FoldedRealm x = Checks.told("folds 2;writer p " + kinds[kind] + ";" + Checks.word("a", 0, 9, good, 9) + Checks.word("b", 0, 9, good, 1)
                    + "likes p a 9;");
                int wise = kind == 1 && good > 9 ? 0 : 1;
                due(kinds[kind] + ", good " + good, x.word(0, 4), kind == 2 ? 1 : 18 * wise);
                due(kinds[kind] + ", good " + good + ", not liked", x.word(1, 4), kind == 2 ? 1 : 9 * wise);
                x = Checks.told("folds 2;writes heavy+fond;writer p " + kinds[kind] + ";" + Checks.word("a", 0, 9, good, 9) + "likes p a 9;");
                due(kinds[kind] + " with writes", x.word(0, 4), 18);
            }
        }
    }

    // "without does: sum"; "it does the E of does (0 to 99) good"
    private static void goodOfAWhole() {
        String words = Checks.word("a", 0, 1, 20, 9) + Checks.word("b", 1, 1, 20, 9) + Checks.word("c", 2, 1, 20, 9) + Checks.word("d", 3, 1, 20, 9);
        int[] goods = {goodBy("", words), goodBy("does sum+18;", words), goodBy("does sum+19;", words), goodBy("does sum+20;", words),
            goodBy("does 9999;", words), goodBy("does sum-79;", words), goodBy("does sum-80;", words), goodBy("does sum-81;", words),
            goodBy("does 4096*4096*128;", words), goodBy("does 4096*4096*128-1;", words), goodBy("does most;", words), goodBy("does spiked;", words)};
        int[] want = {80, 98, 99, 99, 99, 1, 0, 0, 0, 99, 20, 0};
        for (int i = 0; i < goods.length; i++) {
            due("does " + i, goods[i], want[i]);
        }
        FoldedRealm x = Checks.told("folds 3;does most;" + Checks.word("a", 0, 1, 0, 9) + Checks.word("b", 1, 1, 0, 9) + Checks.word("c", 2, 1, 0, 9)
            + Checks.word("d", 2, 1, 20, 9) + Checks.word("e", 0, 1, 13, 9));
        writeAll(x, 0, 1, 2);
        due("most of none", x.count(7), 0);
        writeAll(x, 0, 1, 3);
        due("most is the last one's", x.count(7), 20);
        writeAll(x, 4, 1, 2);
        due("most is the first one's", x.count(7), 33);
        x = Checks.told("folds 2;" + Checks.word("a", 0, 1, 0, 9) + Checks.word("b", 1, 1, 0, 9));
        writeAll(x, 0, 1);
        due("a sum of 0", x.count(7), 0);
    }

    private static int goodBy(String does, String words) {
        FoldedRealm x = Checks.told("folds 4;" + does + words);
        writeAll(x, 0, 1, 2, 3);
        due("judged alike", judgedGood(x), x.count(7));
        return x.count(7);
    }

    private static int judgedGood(FoldedRealm x) {
        Checks.tellSundays(x, "write a;write b;write c;write d;");
        return x.judged(2);
    }

    // "WRITE a WORD of the next fold of which some are left, by hand (..): one less is left."
    private static void oneLessIsLeft() {
        FoldedRealm x = Checks.told("folds 2;" + Checks.word("a", 0, 0, 0, 9) + Checks.word("b", 1, 0, 0, 9) + Checks.word("c", 0, 0, 0, 1) + Checks.word("d", 0, 0, 0, 0));
        due("none was left at first", x.write(3), -1);
        due("one was, of LIKELY 0", x.write(2), 1);
        due("the whole", x.write(1), 0);
        due("none is left now", x.write(2), -1);
        for (int left = 9; left > 0; left--) {
            due("left", x.word(0, 3), left);
            due("all that is left", x.count(8), left + Math.max(0, left - 1));
            due("write", x.write(0), 1);
            if (left > 1) {
                due("write", x.write(1), 0);
            }
        }
        due("none left", x.word(0, 3), 0);
        due("none left behind it", x.write(1), -1);
        due("nothing at all is left", x.count(8), 0);
    }

    // "it is put on the SPIKE behind the others (10 at most: the first one falls off ahead)"
    private static void tenOnTheSpike() {
        FoldedRealm x = Checks.told(WIDE + "does spiked;");
        int good = 0;
        for (int i = 0; i < 13; i++) {
            due("wholes", x.count(6), Math.min(i, 10));
            due("what is left", x.count(8), 72 - 2 * i);
            writeAll(x, i % 4, 4 + i / 4);
            good += Math.min(i, 10);
            due("spiked are those that are there, 10 too", x.count(7), good);
            int first = Math.max(0, i - 9);
            for (int at = 0; at < 10; at++) {
                int which = first + at;
                due("spike " + at, x.spike(at, 0), which <= i ? which % 4 : -1);
                due("spike " + at, x.spike(at, 1), which <= i ? 4 + which / 4 : -1);
            }
            due("no eleventh", x.spike(10, 0), -1);
        }
        due("burn of a tenth", x.burn(9), 9);
        due("the ninth is the last", x.spike(8, 1), 4 + 11 / 4);
        due("no tenth", x.spike(9, 0), -1);
        due("burn of none", x.burn(9), -1);
    }

    // "the SEAT is one more (modulo how many WRITERS there are)"
    private static void seatsGoRound() {
        for (int n = 0; n <= 5; n++) {
            StringBuilder text = new StringBuilder("folds 2;" + Checks.word("a", 0, 1, 1, 9) + Checks.word("b", 1, 1, 1, 9));
            for (int i = 0; i < n; i++) {
                text.append("writer ").append((char) ('p' + i)).append(" plain;");
            }
            FoldedRealm x = Checks.told(text.toString());
            int seat = 0;
            for (int i = 0; i < 6; i++) {
                due("seat", x.count(3), seat);
                writeAll(x, 0);
                due("the same in the midst", x.count(3), seat);
                writeAll(x, 1);
                seat = n == 0 ? 0 : (seat + 1) % n;
            }
            for (int i = 0; i < 6; i++) {
                seat = n == 0 ? 0 : (seat + 1) % n;
                due("pass of " + n, x.pass(), n == 0 ? -1 : seat);
                due("seat", x.count(3), seat);
            }
        }
    }

    // "PASS: the SEAT is one more, if nothing of a whole is written yet and there are WRITERS."
    private static void passOrNot() {
        FoldedRealm x = Checks.told("folds 4;writer p plain;writer q plain;" + Checks.word("a", 0, 1, 1, 9) + Checks.word("b", 1, 1, 1, 9)
            + Checks.word("c", 2, 1, 1, 9) + Checks.word("d", 3, 1, 1, 9));
        due("nothing is written", x.pass(), 1);
        for (int i = 0; i < 3; i++) {
            writeAll(x, i);
            due(i + 1 + " written", x.pass(), -1);
        }
        writeAll(x, 3);
        due("the SEAT behind the whole", x.count(3), 0);
        due("nothing is written again", x.pass(), 1);
        due("and again", x.pass(), 0);
        due("without WRITERS", Checks.told("folds 2;" + Checks.word("a", 0, 1, 1, 1)).pass(), -1);
    }

    // "BURN a whole on the SPIKE: those behind it move up; its WORDS are left again (9 at most each)."
    private static void burnAny() {
        for (int burnt = 0; burnt < 10; burnt++) {
            FoldedRealm x = Checks.told(WIDE);
            writeWholes(x, 0, 10);
            int[] left = new int[8];
            for (int w = 0; w < 8; w++) {
                left[w] = x.word(w, 3) + (w == burnt % 4 || w == 4 + burnt / 4 ? 1 : 0);
            }
            int good = x.count(7);
            int seat = x.count(3);
            due("burn " + burnt, x.burn(burnt), 9);
            for (int at = 0; at < 9; at++) {
                int which = at < burnt ? at : at + 1;
                due("moved up", x.spike(at, 0), which % 4);
                due("moved up", x.spike(at, 1), 4 + which / 4);
            }
            due("no tenth", x.spike(9, 0), -1);
            for (int w = 0; w < 8; w++) {
                due("left again", x.word(w, 3), left[w]);
            }
            due("the good stays", x.count(7), good);
            due("the SEAT stays", x.count(3), seat);
            due("as many as there are", x.burn(9), -1);
            due("the last", x.burn(8), 8);
        }
        FoldedRealm x = Checks.told("folds 2;" + Checks.word("a", 0, 1, 1, 9) + Checks.word("b", 1, 1, 1, 9));
        for (int i = 0; i < 9; i++) {
            writeAll(x, 0, 1);
        }
        for (int i = 0; i < 9; i++) {
            due("burn", x.burn(8 - i), 8 - i);
            due("left", x.word(0, 3), i + 1);
            due("left", x.word(1, 3), i + 1);
        }
        due("nothing to be burnt", x.burn(0), -1);
    }

    // "UNDO: all of these, the last 16, one by one."
    private static void undoSixteen() {
        String five = "writer p plain;writer q plain;writer r plain;writer s plain;writer t plain;";
        for (int acts = 14; acts <= 36; acts++) {
            FoldedRealm x = Checks.told(five);
            for (int i = 1; i <= acts; i++) {
                x.pass();
                due("what can be undone", x.count(12), Math.min(16, i));
            }
            for (int i = 1; i <= Math.min(16, acts); i++) {
                due("undo", x.undo(), true);
                due("the SEAT", x.count(3), (acts - i) % 5);
                due("what can be undone", x.count(12), Math.min(16, acts) - i);
            }
            due("no more", x.undo(), false);
            due("the SEAT", x.count(3), Math.max(0, acts - 16) % 5);
        }
        FoldedRealm x = Checks.told(five);
        for (int i = 0; i < 20; i++) {
            x.pass();
        }
        x.undo();
        x.undo();
        x.pass();
        due("fifteen", x.count(12), 15);
        for (int i = 0; i < 3; i++) {
            x.pass();
        }
        due("sixteen again", x.count(12), 16);
    }

    private static List<Integer> look(FoldedRealm x) {
        List<Integer> all = new ArrayList<>();
        for (int what : new int[] {3, 4, 5, 6, 7, 8}) {
            all.add(x.count(what));
        }
        all.add(x.strip(0));
        for (int i = 0; i < 10; i++) {
            all.add(x.spike(i, 0) * 100 + x.spike(i, 1));
        }
        return all;
    }

    // Each kind of what can be undone, the fallen ones and the burnt ones too, comes back one by one.
    private static void undoEachKind() {
        FoldedRealm x = Checks.told(WIDE);
        writeWholes(x, 0, 9);
        List<List<Integer>> seen = new ArrayList<>();
        int[] acts = {0, 6, -1, 1, 7, 2, 7, 103, -1, 3, 100, 4, -1, 0, 5, 101};
        for (int act : acts) {
            seen.add(look(x));
            boolean done = act == -1 ? x.pass() >= 0 : act >= 100 ? x.burn(act - 100) >= 0 : x.write(act) >= 0;
            due("it can be: " + act, done, true);
        }
        for (int i = acts.length - 1; i >= 0; i--) {
            due("undo", x.undo(), true);
            due("as ahead of " + acts[i], look(x).equals(seen.get(i)), true);
        }
        due("no more than 16", x.undo(), false);
        x = Checks.told(SMALL);
        x.read(0);
        Checks.tellSundays(x, "pass;");
        x.mark(0, false);
        due("neither READ nor SUNDAYS nor MARKS can be undone", x.undo(), false);
        due("READ", x.count(11), 1);
        x.pass();
        x.read(1);
        x.undo();
        due("READ stays", x.count(11), 2);
    }

    private static void judge(FoldedRealm x, String text, int cant, int clash, int good) {
        due("sundays " + text, Checks.tellSundays(x, text), 0);
        due("first that can't be: " + text, x.judged(0), cant);
        due("first that clashes: " + text, x.judged(1), clash);
        due("good: " + text, x.judged(2), good);
    }

    // "JUDGED: the SUNDAYS from the beginning (a line that can't be is left out): the first line (from 0) that can't be; .."
    private static void judgedLines() {
        FoldedRealm x = Checks.told(SMALL + Checks.word("e", 2, 1, 1, 1));
        judge(x, "", -1, -1, 0);
        judge(x, "pass;", -1, -1, 0);
        judge(x, "write c;", 0, -1, 0);
        judge(x, "write e;", 0, -1, 0);
        judge(x, "burn 0;", 0, -1, 0);
        judge(x, "write a;pass;write c;", 1, -1, 8);
        judge(x, "write a;write b;write c;", 1, -1, 8);
        judge(x, "write a;burn 0;write c;burn 1;burn 0;burn 0;", 1, -1, 8);
        judge(x, "write a;write c;burn 1;burn 0;burn 0;", 2, -1, 8);
        judge(x, "write a;write c;burn 0;burn 0;", 3, -1, 8);
        judge(x, "write b;write d;write b;write a;write c;", 2, 4, 38);
        judge(x, "write b;write d;burn 0;write b;write c;", -1, 4, 45);
        judge(x, "write a;write c;write a;write c;write a;", 4, -1, 16);
        judge(x, "pass;".repeat(39) + "burn 0;", 39, -1, 0);
        judge(x, "pass;".repeat(38) + "write a;write d;", -1, 39, 23);
        judge(x, "burn 9;" + "pass;".repeat(39), 0, -1, 0);
        due("others", x.judged(3), -2);
        due("others", x.judged(-1), -2);
        judge(Checks.told("folds 2;" + Checks.word("a", 0, 1, 1, 1)), "write a;pass;", 1, -1, 0);
        judge(Checks.told("folds 2;" + Checks.word("a", 0, 1, 1, 1)), "pass;write a;", 0, -1, 0);
        x = Checks.told(WIDE);
        String nine = "write c;write f;".repeat(9);
        judge(x, nine + "burn 9;", 18, -1, 81);
        judge(x, nine + "write d;write g;burn 9;", -1, -1, 92);
        judge(x, nine + "write d;write g;write d;write g;burn 9;burn 9;", 23, -1, 103);
    }

    // "JUDGED: the SUNDAYS from the beginning": by nothing that is now.
    private static void judgedFromTheBeginning() {
        FoldedRealm x = Checks.told(SMALL);
        Checks.tellSundays(x, "write b;write d;burn 0;write b;write c;pass;");
        writeAll(x, 1, 3, 0, 2, 0);
        x.read(0);
        due("nothing can't be", x.judged(0), -1);
        due("in itself", x.judged(1), 4);
        due("good", x.judged(2), 45);
        x = Checks.told(SMALL + "does spiked*10+1;");
        Checks.tellSundays(x, "write a;write c;write a;write c;burn 0;burn 0;write b;write c;");
        writeAll(x, 0, 2, 0, 2);
        due("spiked of its own SPIKE", x.judged(2), 1 + 11 + 1);
    }

    // "the first one by which a whole came to the SPIKE in which, or with one there ahead of it, two WORDS clash"
    private static void judgedClashes() {
        FoldedRealm x = Checks.told(WIDE);
        judge(x, "write a;write e;", -1, 1, 6);
        judge(x, "write a;write f;write b;write e;", -1, 3, 14);
        judge(x, "write b;write e;write a;write f;", -1, 3, 14);
        judge(x, "write a;write f;burn 0;write b;write e;", -1, -1, 14);
        judge(x, "write a;write f;write c;write g;burn 1;write b;write e;", -1, 6, 24);
        judge(x, "write a;write f;write c;write g;burn 0;write b;write e;", -1, -1, 24);
        judge(x, "write a;write f;write a;write f;write c;write e;", -1, 5, 22);
        judge(x, "write a;write f;write c;", -1, -1, 7);
        // The first whole is there ahead of the tenth, and has fallen off ahead of the eleventh.
        judge(x, "write a;write f;" + "write c;write g;".repeat(8) + "write d;write e;", -1, 19, 7 + 80 + 9);
        judge(x, "write a;write f;" + "write c;write g;".repeat(9) + "write d;write e;", -1, -1, 7 + 90 + 9);
        FoldedRealm y = Checks.told("folds 2;" + Checks.word("a", 0, 1, 1, 9) + Checks.word("b", 0, 1, 1, 9) + Checks.word("c", 1, 1, 1, 9) + "clash a b;");
        judge(y, "write a;write c;write b;write c;", -1, 3, 4);
        judge(y, "write a;write c;write b;", -1, -1, 2);
        judge(y, "write a;write c;write a;write c;", -1, -1, 4);
        y = Checks.told("folds 2;" + Checks.word("a", 1, 1, 1, 9) + Checks.word("b", 0, 1, 1, 9) + "clash a b;");
        judge(y, "write b;write a;", -1, 1, 2);
    }

    // "READ: .. 8 at most"; "false: others, of a fold beyond, 8 are READ"
    private static void eightRead() {
        FoldedRealm x = Checks.told(WIDE);
        for (int i = 0; i < 8; i++) {
            due("READ", x.count(11), i);
            due("read", x.read(i), true);
        }
        due("READ", x.count(11), 8);
        for (int w = 0; w < 8; w++) {
            due("a ninth", x.read(w), false);
        }
        due("READ", x.count(11), 8);
        x = Checks.told("folds 2;" + Checks.word("a", 1, 1, 1, 0) + Checks.word("b", 2, 1, 1, 1) + Checks.word("c", 3, 1, 1, 1));
        due("of which none is left", x.read(0), true);
        due("beyond", x.read(1), false);
        due("beyond", x.read(2), false);
        due("no WORD", x.read(3), false);
        due("READ", x.count(11), 1);
    }

    // "MARKS 0 to 3 hold how it is, the SUNDAYS, what is READ (nothing can be undone when one is gone back to)."
    private static void fourMarks() {
        FoldedRealm x = Checks.told(SMALL);
        for (int m = -1; m <= 4; m++) {
            due("nothing is on " + m, x.mark(m, true), false);
        }
        for (int m = 0; m < 4; m++) {
            due("laid " + m, x.mark(m, false), true);
            for (int other = m + 1; other < 4; other++) {
                due("nothing is on " + other, x.mark(other, true), false);
            }
            x.pass();
            x.read(m);
            Checks.tellSundays(x, "pass;".repeat(m + 1));
        }
        due("none such", x.mark(4, false), false);
        due("none such", x.mark(-1, false), false);
        for (int m = 3; m >= 0; m--) {
            due("laying leaves what can be undone", x.count(12), m == 3 ? 4 : 0);
            due("back to " + m, x.mark(m, true), true);
            due("the SEAT", x.count(3), m % 3);
            due("READ", x.count(11), m);
            due("SUNDAYS", x.count(10), m);
            due("nothing can be undone", x.count(12), 0);
            due("nothing can be undone", x.undo(), false);
        }
        due("it stays", x.mark(3, true), true);
        due("it stays", x.count(11), 3);
        x.write(0);
        x.mark(0, false);
        due("back to another", x.mark(1, true), true);
        due("laid anew", x.mark(0, true), true);
        due("the new one", x.strip(0), 0);
        due("the new one", x.count(11), 3);
    }

    // ".. what is READ": which WORDS, not only how many.
    private static void marksHoldWhatIsRead() {
        FoldedRealm x = Checks.told("folds 2;writes fond;writer p plain;writer q plain;" + Checks.word("a", 0, 1, 1, 9) + Checks.word("b", 0, 1, 1, 9)
            + Checks.word("c", 1, 1, 1, 9) + "likes p a 1;likes q b 1;likes p c 1;likes q c 1;");
        x.mark(0, false);
        x.read(0);
        x.mark(1, false);
        x.mark(0, true);
        due("nothing is READ", x.began(), 0b11);
        x.read(1);
        due("b", x.began(), 0b10);
        x.mark(1, true);
        due("a", x.began(), 0b01);
        x.read(1);
        due("a b", x.began(), 0);
        x.mark(1, true);
        due("a", x.began(), 0b01);
    }

    // What is done behind a MARK doesn't reach it, and what is undone ahead of going back doesn't either.
    private static void marksHold() {
        FoldedRealm x = Checks.told(WIDE);
        writeWholes(x, 0, 10);
        writeAll(x, 2);
        x.mark(2, false);
        List<Integer> held = look(x);
        writeAll(x, 5);
        x.burn(0);
        x.burn(4);
        x.pass();
        writeAll(x, 0);
        due("back", x.mark(2, true), true);
        due("as it was", look(x).equals(held), true);
        x.undo();
        due("nothing was undone", look(x).equals(held), true);
        writeAll(x, 6);
        due("one can be undone", x.count(12), 1);
        due("undo", x.undo(), true);
        due("as it was", look(x).equals(held), true);
        for (int i = 0; i < 3; i++) {
            x.burn(0);
            due("back again", x.mark(2, true), true);
            due("as it was", look(x).equals(held), true);
        }
        FoldedRealm bare = new FoldedRealm();
        due("without a REALM", bare.mark(3, false), true);
        due("without a REALM", bare.mark(3, true), true);
    }

    // "What 0: WRITERS, .., 13: signs on the TAPE. NONE for another what."
    private static void counts() {
        FoldedRealm x = full();
        int[] want = {3, 8, 2, 0, 1, 1, 10, 0, 72 - 23, 2, 40, 8, 16, 1000};
        for (int i = 0; i < 10; i++) {
            want[7] += 1 + i % 4 + 5 + i / 4;
        }
        want[7] += 6;
        for (int i = 0; i < 14; i++) {
            due("count " + i, x.count(i), want[i]);
        }
        due("count 14", x.count(14), -1);
        due("count -1", x.count(-1), -1);
        StringBuilder text = new StringBuilder();
        for (int i = 0; i < 8; i++) {
            text.append(Checks.word("" + (char) ('a' + i), i % 4, 1, 1, 9));
        }
        x = Checks.told(text + "clash a b;clash a c;clash a d;clash a e;clash a f;clash a g;clash a h;clash h g;clash h f;");
        due("told clashes", x.count(9), 9);
        due("all that is left", x.count(8), 72);
    }

    public static void main(String[] args) {
        refusedEverywhere();
        refusedHere();
        askingChangesNothing();
        ofAWriter();
        ofAWord();
        foldsBeyond();
        onTheStrip();
        whoseTurn();
        likelyOfTheSly();
        withoutWrites();
        goodOfAWhole();
        oneLessIsLeft();
        tenOnTheSpike();
        seatsGoRound();
        passOrNot();
        burnAny();
        undoSixteen();
        undoEachKind();
        judgedLines();
        judgedFromTheBeginning();
        judgedClashes();
        eightRead();
        fourMarks();
        marksHoldWhatIsRead();
        marksHold();
        counts();
        checks.end();
    }
}
