import java.math.BigInteger;
import java.util.ArrayList;
import java.util.HashMap;
import java.util.HashSet;
import java.util.LinkedHashMap;
import java.util.List;
import java.util.Map;
import java.util.NoSuchElementException;
import java.util.Random;
import java.util.Set;
import java.util.TreeMap;
import java.util.function.ToIntFunction;
import java.util.regex.Matcher;
import java.util.regex.Pattern;

/** Long random runs, every answer against a second, slow telling of the document. */
public final class OracleTests {
    static final class Fault extends RuntimeException {
        private static final long serialVersionUID = 1L;
        final int code;

        Fault(int kind, int place) {
            this.code = kind + 16 * place;
        }
    }

    record Token(char type, String text, int place) { }

    record Word(String name, int fold, int weight, int good, int left) { }

    record Row(List<Integer> words, BigInteger top, BigInteger bottom) {
        int millionths() {
            return top.multiply(BigInteger.valueOf(1000000)).divide(bottom).intValue();
        }
    }

    static final class State {
        int[] left = new int[0];
        List<Integer> strip = new ArrayList<>();
        List<List<Integer>> spike = new ArrayList<>();
        int seat;
        int good;

        State copy() {
            State s = new State();
            s.left = left.clone();
            s.strip = new ArrayList<>(strip);
            s.spike = new ArrayList<>(spike);
            s.seat = seat;
            s.good = good;
            return s;
        }
    }

    static final class Held {
        State state;
        List<String> sundays;
        List<Integer> read;
    }

    static final class Told {
        final List<String> writers = new ArrayList<>();
        final List<String> kinds = new ArrayList<>();
        final List<Word> words = new ArrayList<>();
        final Map<String, Integer> likes = new HashMap<>();
        final Set<Set<Integer>> clash = new HashSet<>();
        int folds = 3;
        boolean foldsTold;
        ToIntFunction<Map<String, Integer>> writes;
        ToIntFunction<Map<String, Integer>> does;

        int word(String name) {
            for (int i = 0; i < words.size(); i++) {
                if (words.get(i).name().equals(name)) {
                    return i;
                }
            }
            return -1;
        }
    }

    /** Reads texts; faults are thrown. */
    static final class Parser {
        static final Set<String> RESERVED = Set.of("writer", "word", "fold", "weight", "good", "left", "likes", "clash",
            "folds", "writes", "does", "write", "burn", "pass", "plain", "wise", "wild", "sly", "not", "and", "or");
        static final Pattern PIECES = Pattern.compile("[a-z]+|[0-9]+|.", Pattern.DOTALL);
        final List<Token> tokens = new ArrayList<>();
        int at;

        Parser(String text) {
            Matcher m = PIECES.matcher(text);
            while (m.find()) {
                String t = m.group();
                char c = t.charAt(0);
                if (c == ' ' || c == '\n') {
                    continue;
                }
                char type = 'x';
                if (c >= 'a' && c <= 'z' && t.length() <= 8) {
                    type = 'w';
                } else if (c >= '0' && c <= '9' && t.length() <= 4) {
                    type = 'n';
                } else if ("()<=+-*;".indexOf(c) >= 0) {
                    type = 's';
                }
                tokens.add(new Token(type, t, m.start()));
            }
            tokens.add(new Token('e', "", text.length()));
        }

        Token peek() {
            return tokens.get(at);
        }

        boolean sees(String text) {
            return peek().type() != 'x' && peek().text().equals(text);
        }

        Fault wrong(int kind) {
            return new Fault(kind, peek().place());
        }

        void need(String text) {
            if (!sees(text)) {
                throw wrong(1);
            }
            at++;
        }

        String name() {
            if (peek().type() != 'w' || RESERVED.contains(peek().text())) {
                throw wrong(1);
            }
            return peek().text();
        }

        int number(int low, int high) {
            if (peek().type() != 'n') {
                throw wrong(1);
            }
            int v = Integer.parseInt(peek().text());
            if (v < low || v > high) {
                throw wrong(4);
            }
            at++;
            return v;
        }

        int oldWord(Told told) {
            int w = told.word(name());
            if (w < 0) {
                throw wrong(2);
            }
            return w;
        }

        String newName(Told told) {
            String n = name();
            if (told.word(n) >= 0 || told.writers.contains(n)) {
                throw wrong(3);
            }
            at++;
            return n;
        }

        Told realm() {
            Told told = new Told();
            while (peek().type() != 'e') {
                line(told);
                need(";");
            }
            return told;
        }

        void line(Told told) {
            if (sees("writer")) {
                if (told.writers.size() == 5) {
                    throw wrong(5);
                }
                at++;
                String n = newName(told);
                if (!List.of("plain", "wise", "wild", "sly").contains(peek().text())) {
                    throw wrong(1);
                }
                told.writers.add(n);
                told.kinds.add(peek().text());
                at++;
            } else if (sees("word")) {
                if (told.words.size() == 12) {
                    throw wrong(5);
                }
                at++;
                String n = newName(told);
                int[] v = new int[4];
                String[] titles = {"fold", "weight", "good", "left"};
                int[] most = {3, 9, 20, 9};
                for (int i = 0; i < 4; i++) {
                    need(titles[i]);
                    v[i] = number(0, most[i]);
                }
                told.words.add(new Word(n, v[0], v[1], v[2], v[3]));
            } else if (sees("likes")) {
                at++;
                int writer = told.writers.indexOf(name());
                if (writer < 0) {
                    throw wrong(2);
                }
                at++;
                int word = oldWord(told);
                String key = writer + "/" + word;
                if (told.likes.containsKey(key)) {
                    throw wrong(3);
                }
                at++;
                told.likes.put(key, number(1, 9));
            } else if (sees("clash")) {
                at++;
                int a = oldWord(told);
                at++;
                int b = oldWord(told);
                if (a == b || told.clash.contains(Set.of(a, b))) {
                    throw wrong(3);
                }
                told.clash.add(Set.of(a, b));
                at++;
            } else if (sees("folds")) {
                if (told.foldsTold) {
                    throw wrong(3);
                }
                at++;
                told.folds = number(2, 4);
                told.foldsTold = true;
            } else if (sees("writes")) {
                if (told.writes != null) {
                    throw wrong(3);
                }
                at++;
                told.writes = level(0, Set.of("heavy", "fond", "small", "more", "ahead"), 0);
            } else if (sees("does")) {
                if (told.does != null) {
                    throw wrong(3);
                }
                at++;
                told.does = level(0, Set.of("sum", "most", "spiked"), 0);
            } else {
                throw wrong(1);
            }
        }

        static final List<List<String>> LEVELS = List.of(List.of("and", "or"), List.of("<", "="), List.of("+", "-"), List.of("*"));

        ToIntFunction<Map<String, Integer>> level(int level, Set<String> facts, int depth) {
            if (level == 4) {
                return part(facts, depth);
            }
            ToIntFunction<Map<String, Integer>> a = level(level + 1, facts, depth);
            while (LEVELS.get(level).contains(peek().text())) {
                String op = peek().text();
                at++;
                ToIntFunction<Map<String, Integer>> l = a;
                ToIntFunction<Map<String, Integer>> r = level(level + 1, facts, depth);
                a = m -> apply(op, l.applyAsInt(m), r.applyAsInt(m));
                if (level == 1) {
                    break;
                }
            }
            return a;
        }

        static int apply(String op, int a, int b) {
            return switch (op) {
                case "and" -> a != 0 && b != 0 ? 1 : 0;
                case "or" -> a != 0 || b != 0 ? 1 : 0;
                case "<" -> a < b ? 1 : 0;
                case "=" -> a == b ? 1 : 0;
                case "+" -> a + b;
                case "-" -> a - b;
                default -> a * b;
            };
        }

        ToIntFunction<Map<String, Integer>> part(Set<String> facts, int depth) {
            Token t = peek();
            boolean fact = t.type() == 'w' && facts.contains(t.text());
            if (t.type() != 'n' && !fact && !sees("not") && !sees("(")) {
                throw wrong(1);
            }
            if (depth == 5) {
                throw wrong(5);
            }
            at++;
            if (t.type() == 'n') {
                int v = Integer.parseInt(t.text());
                return m -> v;
            }
            if (fact) {
                return m -> m.get(t.text());
            }
            if (t.text().equals("not")) {
                ToIntFunction<Map<String, Integer>> p = part(facts, depth + 1);
                return m -> p.applyAsInt(m) == 0 ? 1 : 0;
            }
            ToIntFunction<Map<String, Integer>> e = level(0, facts, depth + 1);
            need(")");
            return e;
        }

        List<String> sundays(Told told) {
            List<String> lines = new ArrayList<>();
            while (peek().type() != 'e') {
                if (!sees("write") && !sees("burn") && !sees("pass")) {
                    throw wrong(1);
                }
                if (lines.size() == 40) {
                    throw wrong(5);
                }
                String first = peek().text();
                at++;
                if (first.equals("write")) {
                    lines.add("w" + oldWord(told));
                    at++;
                } else if (first.equals("burn")) {
                    lines.add("b" + number(0, 9));
                } else {
                    lines.add("p");
                }
                need(";");
            }
            return lines;
        }
    }

    /** The realm by the document's words, as plainly and slowly as can be. */
    static final class Oracle {
        String tape = "";
        Told told = new Told();
        State now = new State();
        List<String> sundays = new ArrayList<>();
        List<Integer> read = new ArrayList<>();
        List<State> undo = new ArrayList<>();
        Map<Integer, Held> marks = new TreeMap<>();

        int feed(long... abc) {
            StringBuilder b = new StringBuilder(tape);
            for (long x : abc) {
                for (int i = 7; i >= 0; i--) {
                    int c = (int) (x >> (8 * i) & 255);
                    if ((c == 10 || (c >= 32 && c < 127)) && b.length() < 1000) {
                        b.append((char) c);
                    }
                }
            }
            tape = b.toString();
            return tape.length();
        }

        int realm() {
            String text = tape;
            tape = "";
            try {
                told = new Parser(text).realm();
            } catch (Fault f) {
                return f.code;
            }
            now = beginning();
            sundays = new ArrayList<>();
            read = new ArrayList<>();
            undo.clear();
            marks.clear();
            return 0;
        }

        int sundays() {
            String text = tape;
            tape = "";
            try {
                sundays = new Parser(text).sundays(told);
                return 0;
            } catch (Fault f) {
                return f.code;
            }
        }

        State beginning() {
            State s = new State();
            s.left = told.words.stream().mapToInt(Word::left).toArray();
            return s;
        }

        boolean isWord(int w) {
            return w >= 0 && w < told.words.size();
        }

        int n() {
            return told.writers.size();
        }

        int writer(int writer, int what) {
            if (writer < 0 || writer >= n() || what < 0 || what > told.words.size()) {
                return -2;
            }
            if (what == 0) {
                return List.of("plain", "wise", "wild", "sly").indexOf(told.kinds.get(writer));
            }
            return told.likes.getOrDefault(writer + "/" + (what - 1), 0);
        }

        int likely(State s, int seat, int w, int ahead) {
            Word word = told.words.get(w);
            if (s.left[w] == 0) {
                return 0;
            }
            int writer = n() == 0 ? -1 : (seat + word.fold()) % n();
            String kind = writer < 0 ? "nobody" : told.kinds.get(writer);
            int fond = told.likes.getOrDefault(writer + "/" + w, 0);
            int v;
            if (told.writes != null) {
                v = told.writes.applyAsInt(Map.of("heavy", word.weight(), "fond", fond, "small", word.good(), "more", s.left[w], "ahead", ahead));
            } else if (kind.equals("wild")) {
                v = 1;
            } else if (kind.equals("wise") && word.good() > 9) {
                v = 0;
            } else {
                v = word.weight() + fond;
            }
            v = v < 0 ? 0 : v > 99 ? 99 : v;
            return kind.equals("sly") && v < 1 ? 1 : v;
        }

        int aheadNow(State s) {
            return s.strip.isEmpty() ? 0 : told.words.get(s.strip.get(s.strip.size() - 1)).good();
        }

        List<Integer> ofFold(int fold) {
            List<Integer> list = new ArrayList<>();
            for (int i = 0; i < told.words.size(); i++) {
                if (told.words.get(i).fold() == fold) {
                    list.add(i);
                }
            }
            return list;
        }

        int word(int w, int what) {
            if (!isWord(w)) {
                return -2;
            }
            Word x = told.words.get(w);
            return switch (what) {
                case 0 -> x.fold();
                case 1 -> x.weight();
                case 2 -> x.good();
                case 3 -> now.left[w];
                case 4 -> x.fold() == now.strip.size() ? likely(now, now.seat, w, aheadNow(now)) : -1;
                default -> -2;
            };
        }

        int strip(int fold) {
            return fold >= 0 && fold < now.strip.size() ? now.strip.get(fold) : -1;
        }

        int spike(int whole, int fold) {
            return whole >= 0 && whole < now.spike.size() && fold >= 0 && fold < told.folds ? now.spike.get(whole).get(fold) : -1;
        }

        int goodOf(List<Integer> whole, int spiked) {
            int sum = 0;
            int most = 0;
            for (int w : whole) {
                sum += told.words.get(w).good();
                most = Math.max(most, told.words.get(w).good());
            }
            int v = told.does == null ? sum : told.does.applyAsInt(Map.of("sum", sum, "most", most, "spiked", spiked));
            return v < 0 ? 0 : v > 99 ? 99 : v;
        }

        boolean doWrite(State s, int w) {
            if (!isWord(w) || told.words.get(w).fold() != s.strip.size() || s.left[w] == 0) {
                return false;
            }
            s.left[w]--;
            s.strip.add(w);
            if (s.strip.size() == told.folds) {
                s.good += goodOf(s.strip, s.spike.size());
                s.spike.add(List.copyOf(s.strip));
                if (s.spike.size() > 10) {
                    s.spike.remove(0);
                }
                s.strip.clear();
                s.seat = n() == 0 ? 0 : (s.seat + 1) % n();
            }
            return true;
        }

        boolean doPass(State s) {
            if (!s.strip.isEmpty() || n() == 0) {
                return false;
            }
            s.seat = (s.seat + 1) % n();
            return true;
        }

        boolean doBurn(State s, int whole) {
            if (whole < 0 || whole >= s.spike.size()) {
                return false;
            }
            for (int w : s.spike.remove(whole)) {
                s.left[w] = Math.min(9, s.left[w] + 1);
            }
            return true;
        }

        boolean keep(State before, boolean done) {
            if (done) {
                undo.add(before);
                if (undo.size() > 16) {
                    undo.remove(0);
                }
            }
            return done;
        }

        int write(int w) {
            State before = now.copy();
            return keep(before, doWrite(now, w)) ? now.strip.size() : -1;
        }

        int pass() {
            State before = now.copy();
            return keep(before, doPass(now)) ? now.seat : -1;
        }

        int burn(int whole) {
            State before = now.copy();
            return keep(before, doBurn(now, whole)) ? now.spike.size() : -1;
        }

        boolean undo() {
            if (undo.isEmpty()) {
                return false;
            }
            now = undo.remove(undo.size() - 1);
            return true;
        }

        boolean clash(List<Integer> a, List<Integer> b) {
            for (int x : a) {
                for (int y : b) {
                    if (x != y && told.clash.contains(Set.of(x, y))) {
                        return true;
                    }
                }
            }
            return false;
        }

        int judged(int what) {
            if (what < 0 || what > 2) {
                return -2;
            }
            State s = beginning();
            int[] first = {-1, -1};
            for (int i = 0; i < sundays.size(); i++) {
                String line = sundays.get(i);
                int number = line.length() > 1 ? Integer.parseInt(line.substring(1)) : 0;
                boolean done = line.charAt(0) == 'w' ? doWrite(s, number) : line.charAt(0) == 'b' ? doBurn(s, number) : doPass(s);
                if (!done && first[0] < 0) {
                    first[0] = i;
                }
                if (done && line.charAt(0) == 'w' && s.strip.isEmpty() && first[1] < 0) {
                    List<Integer> last = s.spike.get(s.spike.size() - 1);
                    for (List<Integer> other : s.spike) {
                        if (clash(last, other)) {
                            first[1] = i;
                        }
                    }
                }
            }
            return what == 2 ? s.good : first[what];
        }

        /** All rows of the folds to come, those without a chance too. */
        List<Row> rows(State s) {
            List<Row> rows = new ArrayList<>();
            rows.add(new Row(List.of(), BigInteger.ONE, BigInteger.ONE));
            for (int fold = s.strip.size(); fold < told.folds; fold++) {
                List<Row> longer = new ArrayList<>();
                for (Row r : rows) {
                    int ahead = r.words().isEmpty() ? aheadNow(s) : told.words.get(r.words().get(r.words().size() - 1)).good();
                    int all = 0;
                    for (int w : ofFold(fold)) {
                        all += likely(s, s.seat, w, ahead);
                    }
                    for (int w : ofFold(fold)) {
                        List<Integer> words = new ArrayList<>(r.words());
                        words.add(w);
                        int l = likely(s, s.seat, w, ahead);
                        longer.add(new Row(words, r.top().multiply(BigInteger.valueOf(l)), r.bottom().multiply(BigInteger.valueOf(Math.max(1, all)))));
                    }
                }
                rows = longer;
            }
            return rows;
        }

        int comes(int bits) {
            for (Row r : rows(now)) {
                int b = 0;
                for (int w : r.words()) {
                    b |= 1 << w;
                }
                if (b == bits) {
                    return r.millionths();
                }
            }
            return -1;
        }

        Row bestRow(State s) {
            Row best = null;
            for (Row r : rows(s)) {
                if (r.top().signum() > 0 && (best == null || r.top().multiply(best.bottom()).compareTo(best.top().multiply(r.bottom())) > 0)) {
                    best = r;
                }
            }
            return best;
        }

        int best(int fold) {
            Row r = bestRow(now);
            if (r == null || fold < -1 || fold >= told.folds || (fold >= 0 && fold < now.strip.size())) {
                return -2;
            }
            return fold == -1 ? r.millionths() : r.words().get(fold - now.strip.size());
        }

        int doesBy(Row r) {
            List<Integer> whole = new ArrayList<>(now.strip);
            whole.addAll(r.words());
            return goodOf(whole, now.spike.size());
        }

        int worst() {
            return rows(now).stream().filter(r -> r.top().signum() > 0).mapToInt(this::doesBy).min().orElse(-1);
        }

        int mean() {
            return (int) (rows(now).stream().mapToLong(r -> (long) doesBy(r) * r.millionths()).sum() / 1000);
        }

        /** Shared out from what some words have (key -1: the beginning) through the folds. */
        Map<Integer, Long> share(Map<Integer, Long> has, int seat, int from, int aheadFirst, Set<Integer> must) {
            Map<Integer, Long> amounts = has;
            for (int fold = from; fold < told.folds; fold++) {
                Map<Integer, Long> next = new LinkedHashMap<>();
                for (Map.Entry<Integer, Long> e : amounts.entrySet()) {
                    int ahead = e.getKey() < 0 ? aheadFirst : told.words.get(e.getKey()).good();
                    long all = 0;
                    for (int w : ofFold(fold)) {
                        all += likely(now, seat, w, ahead);
                    }
                    for (int w : ofFold(fold)) {
                        boolean barred = false;
                        for (int m : must) {
                            barred |= told.words.get(m).fold() == fold && m != w;
                        }
                        if (all > 0 && !barred) {
                            next.merge(w, e.getValue() * likely(now, seat, w, ahead) / all, Long::sum);
                        }
                    }
                }
                amounts = next;
            }
            return amounts;
        }

        int aim(int target, int what) {
            if (!isWord(target) || told.words.get(target).fold() != told.folds - 1 || what < 0 || what > 1) {
                return -1;
            }
            long most = -1;
            int which = -1;
            for (int w : ofFold(now.strip.size())) {
                if (now.left[w] > 0) {
                    long much = share(Map.of(w, 1000000L), now.seat, now.strip.size() + 1, 0, Set.of()).getOrDefault(target, 0L);
                    if (much > most) {
                        most = much;
                        which = w;
                    }
                }
            }
            return what == 0 ? which : (int) most;
        }

        long begunBy(int seat, Set<Integer> must) {
            return share(Map.of(-1, 1000000L), seat, 0, 0, must).values().stream().mapToLong(x -> x).sum();
        }

        int meet(int a, int b, int wholes) {
            if (!isWord(a) || !isWord(b) || wholes < 1 || wholes > 9) {
                return -1;
            }
            int fa = told.words.get(a).fold();
            int fb = told.words.get(b).fold();
            if (fa == fb || fa >= told.folds || fb >= told.folds) {
                return -1;
            }
            long q = 1000000;
            for (int i = 0; i < wholes; i++) {
                q = q * (1000000 - begunBy(n() == 0 ? 0 : (now.seat + i) % n(), Set.of(a, b))) / 1000000;
            }
            return (int) (1000000 - q);
        }

        int clashes(State s, int burnt) {
            int c = 0;
            for (int i = 0; i < s.spike.size(); i++) {
                for (int j = i; j < s.spike.size(); j++) {
                    if ((burnt >> i & 1) == 0 && (burnt >> j & 1) == 0 && clash(s.spike.get(i), s.spike.get(j))) {
                        c++;
                    }
                }
            }
            return c;
        }

        int fire() {
            int best = -1;
            for (int set = 0; set < 1 << now.spike.size(); set++) {
                if (clashes(now, set) == 0 && (best < 0 || Integer.bitCount(set) < Integer.bitCount(best))) {
                    best = set;
                }
            }
            return best;
        }

        boolean read(int w) {
            if (!isWord(w) || told.words.get(w).fold() >= told.folds || read.size() == 8) {
                return false;
            }
            read.add(w);
            return true;
        }

        int began() {
            int bits = 0;
            for (int seat = 0; seat < n(); seat++) {
                bits |= begunBy(seat, new HashSet<>(read)) > 0 ? 1 << seat : 0;
            }
            return bits;
        }

        int sure() {
            int which = -1;
            long most = 0;
            for (int seat = 0; seat < n(); seat++) {
                long much = begunBy(seat, new HashSet<>(read));
                if (much > most) {
                    most = much;
                    which = seat;
                }
            }
            return which;
        }

        int ask() {
            int which = -1;
            int most = 1;
            for (int fold = 0; fold < told.folds; fold++) {
                int f = fold;
                if (read.stream().anyMatch(w -> told.words.get(w).fold() == f)) {
                    continue;
                }
                Set<Integer> likeliest = new HashSet<>();
                for (int seat = 0; seat < n(); seat++) {
                    if (begunBy(seat, new HashSet<>(read)) > 0) {
                        int s = seat;
                        int top = ofFold(fold).stream().mapToInt(w -> likely(now, s, w, 0)).max().orElse(0);
                        if (top > 0) {
                            likeliest.add(ofFold(fold).stream().filter(w -> likely(now, s, w, 0) == top).findFirst().get());
                        }
                    }
                }
                if (likeliest.size() > most) {
                    most = likeliest.size();
                    which = fold;
                }
            }
            return which;
        }

        int spent() {
            State s = now.copy();
            int wholes = 0;
            for (Row r = bestRow(s); r != null; r = bestRow(s)) {
                for (int w : r.words()) {
                    doWrite(s, w);
                }
                wholes++;
            }
            return wholes;
        }

        int rests(int alone, int both, int none, int what) {
            for (int v : new int[] {alone, both, none}) {
                if (v < 0 || v > 9) {
                    return -9;
                }
            }
            int[][] first = {{none, 0}, {alone, both}};
            List<Integer> found = new ArrayList<>();
            for (int a = 0; a < 2; a++) {
                for (int b = 0; b < 2; b++) {
                    if (first[a][b] >= first[1 - a][b] && first[b][a] >= first[1 - b][a]) {
                        found.add(2 * a + b);
                    }
                }
            }
            if (what == -1) {
                return found.size();
            }
            return what >= 0 && what < found.size() ? found.get(what) : -9;
        }

        int generations(int seed, int words, int what) {
            if (seed < 0 || seed > 9999 || words < 1 || words > 99 || what < 0 || what > 2) {
                return -1;
            }
            State s = now.copy();
            BigInteger g = BigInteger.valueOf(seed);
            int came = 0;
            for (int i = 0; i < words; i++) {
                int all = 0;
                List<Integer> here = ofFold(s.strip.size());
                for (int w : here) {
                    all += likely(s, s.seat, w, aheadNow(s));
                }
                if (all == 0) {
                    doBurn(s, s.spike.size() - 1);
                    continue;
                }
                g = g.multiply(BigInteger.valueOf(1103515245)).add(BigInteger.valueOf(12345)).mod(BigInteger.ONE.shiftLeft(31));
                int draw = g.shiftRight(16).mod(BigInteger.valueOf(all)).intValue();
                int sum = 0;
                for (int w : here) {
                    sum += likely(s, s.seat, w, aheadNow(s));
                    if (sum > draw) {
                        doWrite(s, w);
                        break;
                    }
                }
                came += s.strip.isEmpty() ? 1 : 0;
            }
            return what == 0 ? came : what == 1 ? s.good - now.good : clashes(s, 0);
        }

        boolean mark(int mark, boolean back) {
            if (mark < 0 || mark > 3 || (back && !marks.containsKey(mark))) {
                return false;
            }
            if (back) {
                Held h = marks.get(mark);
                now = h.state.copy();
                sundays = h.sundays;
                read = new ArrayList<>(h.read);
                undo.clear();
            } else {
                Held h = new Held();
                h.state = now.copy();
                h.sundays = sundays;
                h.read = new ArrayList<>(read);
                marks.put(mark, h);
            }
            return true;
        }

        int count(int what) {
            int all = 0;
            for (int left : now.left) {
                all += left;
            }
            int[] counts = {n(), told.words.size(), told.folds, now.seat, now.strip.size(),
                n() == 0 ? -1 : (now.seat + now.strip.size()) % n(), now.spike.size(), now.good, all,
                told.clash.size(), sundays.size(), read.size(), undo.size(), tape.length()};
            return what >= 0 && what < counts.length ? counts[what] : -1;
        }
    }

    private static final Checks checks = new Checks();
    private static Random random = new Random(1);
    private static final Map<String, Integer> seen = new TreeMap<>();

    static int pick(int n) {
        return random.nextInt(n);
    }

    static String one(String... of) {
        return of[pick(of.length)];
    }

    static String expression(String[] facts, int depth) {
        int kind = pick(depth >= 3 ? 3 : 12);
        return switch (kind) {
            case 0 -> "" + (pick(8) == 0 ? pick(10000) : pick(7));
            case 1, 2 -> one(facts);
            case 3 -> "not " + (pick(2) == 0 ? one(facts) : "(" + expression(facts, depth + 1) + ")");
            case 4 -> "(" + expression(facts, depth + 1) + ")";
            case 5 -> expression(facts, depth + 1) + one("*", " * ") + one(facts);
            case 6 -> "(" + expression(facts, depth + 2) + one("<", "=") + expression(facts, depth + 2) + ")";
            case 7 -> expression(facts, depth + 1) + one(" and ", " or ") + expression(facts, depth + 1);
            case 8, 9 -> expression(facts, depth + 1) + one("-", "- ") + one(facts);
            default -> expression(facts, depth + 1) + "+" + expression(facts, depth + 1);
        };
    }

    static String realmText() {
        List<String> writers = new ArrayList<>();
        List<String> words = new ArrayList<>();
        List<String> lines = new ArrayList<>();
        int folds = pick(4) == 0 ? 3 : 2 + pick(3);
        if (folds != 3 || pick(2) == 0) {
            lines.add("folds " + folds);
        }
        int writerCount = pick(8) == 0 ? 0 : 1 + pick(5);
        for (int i = 0; i < writerCount; i++) {
            writers.add("" + (char) ('p' + i));
            lines.add("writer " + (char) ('p' + i) + " " + one("plain", "wise", "wild", "sly"));
        }
        int wordCount = pick(10) == 0 ? pick(13) : Math.min(12, folds + 1 + pick(8));
        boolean beyond = pick(5) == 0;
        for (int i = 0; i < wordCount; i++) {
            String name = "" + (char) ('a' + i);
            words.add(name);
            int fold = i < folds ? i : pick(beyond ? 4 : folds);
            int left = pick(5) == 0 ? pick(3) : 3 + pick(7);
            lines.add("word " + name + one(" ", "\n") + "fold " + fold + " weight " + pick(10) + " good " + pick(21) + " left " + left);
        }
        addPairs(lines, writers, words);
        if (pick(2) == 0) {
            lines.add(pick(lines.size() + 1), "writes " + expression(new String[] {"heavy", "fond", "small", "more", "ahead"}, 0));
        }
        if (pick(2) == 0) {
            lines.add(pick(lines.size() + 1), "does " + expression(new String[] {"sum", "most", "spiked"}, 0));
        }
        StringBuilder b = new StringBuilder();
        for (String line : lines) {
            b.append(line).append(one(";", ";", " ;", ";\n"));
        }
        return b.toString();
    }

    static void addPairs(List<String> lines, List<String> writers, List<String> words) {
        Set<String> told = new HashSet<>();
        int pairs = pick(10);
        for (int i = 0; i < pairs && words.size() > 1; i++) {
            if (pick(2) == 0 && !writers.isEmpty()) {
                String two = writers.get(pick(writers.size())) + " " + words.get(pick(words.size()));
                if (told.add(two)) {
                    lines.add("likes " + two + " " + (1 + pick(9)));
                }
            } else {
                int a = pick(words.size());
                int b = pick(words.size());
                if (a != b && told.add(Math.min(a, b) + "-" + Math.max(a, b))) {
                    lines.add("clash " + words.get(a) + " " + words.get(b));
                }
            }
        }
    }

    static String sundaysText(Oracle o, int lines) {
        StringBuilder b = new StringBuilder();
        int fold = 0;
        for (int i = 0; i < lines; i++) {
            List<Integer> here = o.ofFold(fold);
            int kind = pick(12);
            if (kind < 10 && !here.isEmpty()) {
                b.append("write ").append(o.told.words.get(here.get(pick(here.size()))).name()).append(';');
                fold = (fold + 1) % o.told.folds;
            } else {
                b.append(kind == 11 ? "burn " + pick(pick(3) + 1) : "pass").append(';');
            }
        }
        return b.toString();
    }

    static String spoilt(String text) {
        StringBuilder b = new StringBuilder(text);
        int times = 1 + pick(2);
        String[] pieces = {"(", ")", "<", "=", "+", "-", "*", ";", " not ", " and ", " or ", "7", "99999", "21", " writer ", " word ", " a ", " p ",
            " heavy ", " sum ", "abcdefghi", "$", "A", " folds 2;", " write ", " pass;", " burn 3;", "\n", " ", " plain ", "not not ", "((", "likes p a 3;", "clash a b;"};
        for (int i = 0; i < times; i++) {
            int at = pick(b.length() + 1);
            int kind = pick(4);
            if (kind == 0 && b.length() > 0) {
                b.delete(Math.min(at, b.length() - 1), Math.min(b.length(), at + 1 + pick(4)));
            } else if (kind == 1) {
                b.setLength(at);
            } else {
                b.insert(at, one(pieces));
            }
        }
        return b.toString();
    }

    static void feedBoth(FoldedRealm x, Oracle o, String text) {
        byte[] bytes = text.getBytes(java.nio.charset.StandardCharsets.ISO_8859_1);
        for (int from = 0; from < bytes.length; from += 24) {
            long[] t = Checks.signs(bytes, from);
            same("feed", x.feed(t[0], t[1], t[2]), o.feed(t[0], t[1], t[2]));
        }
    }

    private static String where = "";

    static void same(String call, long got, long want) {
        checks.due(where + call, got, want);
        seen.merge(call.replaceAll("\\(.*", "") + (want > 0 ? " more" : want == 0 ? " zero" : " none"), 1, Integer::sum);
    }

    static int rests(FoldedRealm x, int a, int b, int n, int what) {
        try {
            return x.rests(a, b, n, what);
        } catch (NoSuchElementException e) {
            return -9;
        }
    }

    static void act(FoldedRealm x, Oracle o) {
        int w = pick(30) == 0 ? pick(16) - 2 : pick(Math.max(1, o.told.words.size()));
        switch (pick(40)) {
            case 0 -> same("pass", x.pass(), o.pass());
            case 1, 5, 6, 7, 8 -> {
                int whole = pick(6) == 0 ? pick(13) - 1 : pick(Math.max(1, o.now.spike.size()));
                same("burn(" + whole, x.burn(whole), o.burn(whole));
            }
            case 2, 9, 10 -> same("undo", x.undo() ? 1 : 0, o.undo() ? 1 : 0);
            case 3, 11, 12 -> {
                int m = pick(6) - 1;
                boolean back = pick(2) == 0;
                if (m == 0 && !back) {
                    return;
                }
                same("mark(" + m + back, x.mark(m, back) ? 1 : 0, o.mark(m, back) ? 1 : 0);
            }
            case 4 -> same("read(" + w, x.read(w) ? 1 : 0, o.read(w) ? 1 : 0);
            default -> {
                List<Integer> here = o.ofFold(o.now.strip.size());
                int which = here.isEmpty() || pick(10) == 0 ? w : here.get(pick(here.size()));
                same("write(" + which, x.write(which), o.write(which));
            }
        }
    }

    static void ask(FoldedRealm x, Oracle o) {
        int a = pick(8) == 0 ? pick(15) - 1 : pick(Math.max(1, o.told.words.size()));
        int b = pick(8) == 0 ? pick(15) - 1 : pick(Math.max(1, o.told.words.size()));
        int f = pick(6) - 1;
        switch (pick(22)) {
            case 0 -> same("writer(" + f + "," + a, x.writer(f, a), o.writer(f, a));
            case 1 -> same("word(" + a + "," + f, x.word(a, f), o.word(a, f));
            case 2 -> same("word(" + a + ",4", x.word(a, 4), o.word(a, 4));
            case 3 -> same("strip(" + f, x.strip(f), o.strip(f));
            case 4 -> same("spike(" + a + "," + f, x.spike(a, f), o.spike(a, f));
            case 5 -> same("judged(" + f, x.judged(f % 4), o.judged(f % 4));
            case 6, 7 -> {
                int bits = 0;
                for (int fold = o.now.strip.size(); fold < o.told.folds; fold++) {
                    List<Integer> here = o.ofFold(fold);
                    bits |= here.isEmpty() ? 0 : 1 << here.get(pick(here.size()));
                }
                if (pick(4) == 0) {
                    bits ^= 1 << pick(32);
                }
                same("comes(" + bits, x.comes(bits), o.comes(bits));
            }
            case 8 -> same("best(" + f, x.best(f), o.best(f));
            case 9 -> same("worst", x.worst(), o.worst());
            case 10 -> same("mean", x.mean(), o.mean());
            case 11 -> {
                List<Integer> last = o.ofFold(o.told.folds - 1);
                int target = last.isEmpty() || pick(5) == 0 ? a : last.get(pick(last.size()));
                int what = pick(10) == 0 ? pick(5) - 2 : pick(2);
                same("aim(" + target + "," + what, x.aim(target, what), o.aim(target, what));
            }
            case 12 -> same("meet(" + a + "," + b, x.meet(a, b, 1 + f * 2), o.meet(a, b, 1 + f * 2));
            case 13 -> same("clashes", x.clashes(), o.clashes(o.now, 0));
            case 14 -> same("fire", x.fire(), o.fire());
            case 15 -> same("began", x.began(), o.began());
            case 16 -> same("sure", x.sure(), o.sure());
            case 17 -> same("ask", x.ask(), o.ask());
            case 18 -> same("spent", x.spent(), o.spent());
            case 19 -> {
                int p = pick(12) - 1;
                int q = pick(12) - 1;
                int r = pick(12) - 1;
                int i = pick(6) - 2;
                same("rests(" + p + "," + q + "," + r + "," + i, rests(x, p, q, r, i), o.rests(p, q, r, i));
            }
            case 20 -> {
                int seed = pick(10) == 0 ? pick(3) * 5000 - 1 : pick(10000);
                int words = pick(10) == 0 ? pick(2) * 100 : 1 + pick(99);
                int what = pick(20) == 0 ? pick(5) - 1 : pick(3);
                same("generations(" + seed + "," + words + "," + what, x.generations(seed, words, what), o.generations(seed, words, what));
            }
            default -> {
                for (int i = -1; i < 15; i++) {
                    same("count(" + i, x.count(i), o.count(i));
                }
            }
        }
    }

    static void run(int number) {
        random = new Random(number);
        where = "run " + number + ": ";
        FoldedRealm x = new FoldedRealm();
        Oracle o = new Oracle();
        if (pick(4) == 0) {
            feedBoth(x, o, spoilt(realmText()));
            same("realm", x.realm(), o.realm());
        }
        feedBoth(x, o, realmText());
        same("realm", x.realm(), o.realm());
        // Going back to the mark 0, which is laid here alone, takes what was read away again.
        same("mark(0", x.mark(0, false) ? 1 : 0, o.mark(0, false) ? 1 : 0);
        int steps = 60;
        for (int i = 0; i < steps; i++) {
            if (pick(30) == 0) {
                String text = sundaysText(o, pick(43));
                feedBoth(x, o, pick(3) == 0 ? spoilt(text) : text);
                same("sundays", x.sundays(), o.sundays());
            }
            if (pick(200) == 0) {
                feedBoth(x, o, pick(2) == 0 ? spoilt(realmText()) : realmText());
                same("realm", x.realm(), o.realm());
            }
            int acts = pick(4);
            for (int j = 0; j < acts; j++) {
                act(x, o);
            }
            ask(x, o);
            ask(x, o);
        }
    }

    static void faults(int number) {
        random = new Random(1000000 + number);
        where = "faults " + number + ": ";
        FoldedRealm x = new FoldedRealm();
        Oracle o = new Oracle();
        for (int i = 0; i < 8; i++) {
            feedBoth(x, o, spoilt(realmText()));
            same("realm", x.realm(), o.realm());
        }
        feedBoth(x, o, realmText());
        same("realm", x.realm(), o.realm());
        for (int i = 0; i < 4; i++) {
            feedBoth(x, o, spoilt(sundaysText(o, pick(42))));
            same("sundays", x.sundays(), o.sundays());
            same("count(10", x.count(10), o.count(10));
        }
    }

    public static void main(String[] args) {
        int runs = args.length > 0 ? Integer.parseInt(args[0]) : 1500;
        for (int i = 0; i < runs && checks.wrongOnes() < 40; i++) {
            run(i);
            faults(i);
        }
        if (args.length > 1) {
            System.out.println(seen);
        }
        checks.end();
    }
}
