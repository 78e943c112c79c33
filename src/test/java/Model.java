import java.math.BigInteger;
import java.util.ArrayList;
import java.util.Arrays;
import java.util.Collections;
import java.util.LinkedHashMap;
import java.util.List;
import java.util.Map;
import java.util.NoSuchElementException;
import java.util.Set;
import java.util.TreeMap;
import java.util.regex.Matcher;
import java.util.regex.Pattern;

/** A second reading of the document, slow and plain, that ModelTest holds the program against. */
final class Model {
    private static final Set<String> FIXED = Set.of("scale", "wine", "year", "angels", "most", "draw", "run", "top", "tip",
        "years", "or", "and", "not", "full", "empty", "mixed", "in", "has", "litres", "age", "drawn", "number");

    // ---- the state ----
    static final class Cask {
        int scale;
        int number;
        int holds;
        int drawn;
        TreeMap<Integer, Integer> wine = new TreeMap<>();

        int litres() {
            return sum(wine);
        }

        int lack() {
            return holds - litres();
        }

        Cask copy() {
            Cask c = new Cask();
            c.scale = scale;
            c.number = number;
            c.holds = holds;
            c.drawn = drawn;
            c.wine = new TreeMap<>(wine);
            return c;
        }
    }

    static final class State {
        List<String> names = new ArrayList<>();
        List<Integer> holds = new ArrayList<>();
        List<Cask> casks = new ArrayList<>();
        int angels = 2;
        int most = 400;
        int first = 10;
        int year = 10;
        int drawnEver;
        int angelsEver;
        TreeMap<Integer, Integer> bottle = new TreeMap<>();

        State copy() {
            State s = new State();
            s.names = new ArrayList<>(names);
            s.holds = new ArrayList<>(holds);
            for (Cask c : casks) {
                s.casks.add(c.copy());
            }
            s.angels = angels;
            s.most = most;
            s.first = first;
            s.year = year;
            s.drawnEver = drawnEver;
            s.angelsEver = angelsEver;
            s.bottle = new TreeMap<>(bottle);
            return s;
        }

        List<Cask> of(int scale) {
            List<Cask> some = new ArrayList<>();
            for (Cask c : casks) {
                if (c.scale == scale) {
                    some.add(c);
                }
            }
            return some;
        }

        int litres() {
            int n = 0;
            for (Cask c : casks) {
                n += c.litres();
            }
            return n;
        }

        int ages(Map<Integer, Integer> wine) {
            int n = 0;
            for (Map.Entry<Integer, Integer> e : wine.entrySet()) {
                n += e.getValue() * (year - e.getKey());
            }
            return n;
        }
    }

    private State now = new State();
    private Cond saying;
    private byte[] tape = new byte[0];
    private int fault;
    private final ArrayList<State> undo = new ArrayList<>();
    private final State[] keptStates = new State[2];
    private final Cond[] keptSayings = new Cond[2];
    private int[] blended;
    private int asked = -1;
    private int stored = -1;
    private byte[] tag = new byte[0];
    private int[] told;

    // ---- wine ----
    static int sum(Map<Integer, Integer> wine) {
        int n = 0;
        for (int litres : wine.values()) {
            n += litres;
        }
        return n;
    }

    static int[] shares(int n, int[] own) {
        int sum = Arrays.stream(own).sum();
        int[] out = new int[own.length];
        List<int[]> rests = new ArrayList<>();
        int rest = n;
        for (int i = 0; i < own.length; i++) {
            BigInteger[] q = BigInteger.valueOf(own[i]).multiply(BigInteger.valueOf(n)).divideAndRemainder(BigInteger.valueOf(sum));
            out[i] = q[0].intValue();
            rest -= out[i];
            rests.add(new int[] {q[1].intValue(), i});
        }
        rests.sort((a, b) -> a[0] != b[0] ? b[0] - a[0] : a[1] - b[1]);
        for (int i = 0; i < rest; i++) {
            out[rests.get(i)[1]]++;
        }
        return out;
    }

    static TreeMap<Integer, Integer> portion(TreeMap<Integer, Integer> wine, int n) {
        TreeMap<Integer, Integer> out = new TreeMap<>();
        if (n == 0) {
            return out;
        }
        List<Integer> vintages = new ArrayList<>(wine.keySet());
        int[] own = new int[vintages.size()];
        for (int i = 0; i < own.length; i++) {
            own[i] = wine.get(vintages.get(i));
        }
        int[] part = shares(n, own);
        for (int i = 0; i < own.length; i++) {
            add(out, vintages.get(i), part[i]);
        }
        return out;
    }

    static void add(TreeMap<Integer, Integer> wine, int vintage, int n) {
        int then = wine.getOrDefault(vintage, 0) + n;
        if (then == 0) {
            wine.remove(vintage);
        } else {
            wine.put(vintage, then);
        }
    }

    static TreeMap<Integer, Integer> out(TreeMap<Integer, Integer> wine, int n) {
        TreeMap<Integer, Integer> p = portion(wine, n);
        for (Map.Entry<Integer, Integer> e : p.entrySet()) {
            add(wine, e.getKey(), -e.getValue());
        }
        return p;
    }

    static void in(TreeMap<Integer, Integer> wine, TreeMap<Integer, Integer> more) {
        for (Map.Entry<Integer, Integer> e : more.entrySet()) {
            add(wine, e.getKey(), e.getValue());
        }
    }

    // ---- acts ----
    static int drawIt(State s, Cask c, int n) {
        if (c.litres() < n) {
            return 1;
        }
        if (c.drawn + n > s.most) {
            return 2;
        }
        s.bottle = out(c.wine, n);
        c.drawn += n;
        s.drawnEver += n;
        return 0;
    }

    static int runIt(State s, int scale) {
        int lack = 0;
        for (Cask c : s.of(scale)) {
            lack += c.lack();
        }
        if (lack == 0) {
            return 1;
        }
        if (scale == s.names.size() - 1) {
            return 2;
        }
        List<Cask> next = s.of(scale + 1);
        int[] have = new int[next.size()];
        for (int i = 0; i < have.length; i++) {
            have[i] = next.get(i).litres();
        }
        if (Arrays.stream(have).sum() < lack) {
            return 3;
        }
        int[] part = shares(lack, have);
        TreeMap<Integer, Integer> mix = new TreeMap<>();
        for (int i = 0; i < have.length; i++) {
            in(mix, out(next.get(i).wine, part[i]));
        }
        for (Cask c : s.of(scale)) {
            in(c.wine, out(mix, c.lack()));
        }
        return 0;
    }

    static int topIt(State s) {
        int why = 1;
        for (Cask c : s.of(s.names.size() - 1)) {
            if (c.lack() > 0) {
                add(c.wine, s.year, c.lack());
                why = 0;
            }
        }
        return why;
    }

    static int tipIt(Cask from, Cask into, int n) {
        if (from == into) {
            return 1;
        }
        if (from.litres() < n) {
            return 2;
        }
        if (into.lack() < n) {
            return 3;
        }
        in(into.wine, out(from.wine, n));
        return 0;
    }

    static boolean yearGoes(State s) {
        if (s.year == 39) {
            return false;
        }
        for (Cask c : s.casks) {
            int n = s.angels * c.litres() / 100;
            s.angelsEver += n;
            out(c.wine, n);
            c.drawn = 0;
        }
        s.year++;
        return true;
    }

    static int seed;

    static int dice(int n) {
        seed = seed * 1103515245 + 12345;
        return (seed >>> 8) % n;
    }

    static int drawnYears(State s, int n, int x) {
        seed = x;
        int gone = 0;
        for (int y = 0; y < n && s.year != 39; y++) {
            for (int i = 0; i < 4 && !s.names.isEmpty(); i++) {
                switch (dice(6)) {
                    case 0, 1 -> {
                        Cask c = s.casks.get(dice(s.casks.size()));
                        drawIt(s, c, dice(40) + 1);
                    }
                    case 2 -> runIt(s, dice(s.names.size()));
                    case 3 -> topIt(s);
                    case 4 -> {
                        Cask from = s.casks.get(dice(s.casks.size()));
                        Cask into = s.casks.get(dice(s.casks.size()));
                        tipIt(from, into, dice(20) + 1);
                    }
                    default -> { }
                }
            }
            yearGoes(s);
            gone++;
        }
        return gone;
    }

    private int done(int why, State before) {
        if (why == 0) {
            undo.add(before);
            if (undo.size() > 8) {
                undo.remove(0);
            }
        }
        return why;
    }

    // ---- texts ----
    static final class Fault extends Exception {
        private static final long serialVersionUID = 1;
        final int kind;
        final int place;

        Fault(int kind, int place) {
            this.kind = kind;
            this.place = place;
        }
    }

    record Token(String text, int place, char kind) { }

    static final class Tokens {
        final List<Token> all = new ArrayList<>();
        int at;

        Tokens(byte[] tape, int most) {
            StringBuilder b = new StringBuilder();
            for (byte x : tape) {
                b.append((char) (x & 255));
            }
            Matcher m = Pattern.compile("[a-z0-9]+|[^ \n]", Pattern.DOTALL).matcher(b);
            while (m.find()) {
                if (m.start() >= most) {
                    break;
                }
                String t = m.group();
                char kind = t.matches("[a-z]{1,7}") ? 'w' : t.matches("[0-9]{1,3}") ? 'n' : t.matches("[;<=>()]") ? 's' : '?';
                all.add(new Token(t, m.start(), kind));
            }
            all.add(tape.length > most ? new Token("", most, '?') : new Token("", tape.length, 'e'));
        }

        Token see() {
            return all.get(at);
        }

        boolean sees(String text) {
            return see().text.equals(text) && see().kind != 'e' && see().kind != '?';
        }

        boolean ended() {
            return see().kind == 'e';
        }

        Token take() {
            return all.get(at++);
        }

        Fault wrong(int kind) {
            return new Fault(kind, see().place);
        }

        void must(String text) throws Fault {
            if (!sees(text)) {
                throw wrong(1);
            }
            at++;
        }

        int number(int least, int most) throws Fault {
            if (see().kind != 'n') {
                throw wrong(1);
            }
            int n = Integer.parseInt(see().text);
            if (n < least || n > most) {
                throw wrong(2);
            }
            at++;
            return n;
        }

        String name() throws Fault {
            if (see().kind != 'w' || FIXED.contains(see().text)) {
                throw wrong(1);
            }
            return see().text;
        }

        int scale(List<String> names) throws Fault {
            int s = names.indexOf(name());
            if (s < 0) {
                throw wrong(3);
            }
            at++;
            return s;
        }
    }

    private static int readHouse(State s, Tokens t) throws Fault {
        List<String> toldOnce = new ArrayList<>();
        boolean wine = false;
        int lines = 0;
        while (!t.ended()) {
            if (t.sees("scale")) {
                if (s.names.size() == 5) {
                    throw t.wrong(4);
                }
                t.take();
                String name = t.name();
                if (s.names.contains(name)) {
                    throw t.wrong(3);
                }
                t.take();
                int many = t.number(1, 4);
                int holds = t.number(10, 400);
                for (int i = 0; i < many; i++) {
                    Cask c = new Cask();
                    c.scale = s.names.size();
                    c.number = i;
                    c.holds = holds;
                    s.casks.add(c);
                }
                s.names.add(name);
                s.holds.add(holds);
            } else if (t.sees("wine")) {
                wine = true;
                t.take();
                List<Cask> of = s.of(t.scale(s.names));
                Cask c = of.get(t.number(0, of.size() - 1));
                int vintage = t.number(0, s.first);
                add(c.wine, vintage, t.number(1, c.lack()));
            } else if (t.sees("year") || t.sees("angels") || t.sees("most")) {
                String word = t.see().text;
                if (toldOnce.contains(word) || word.equals("year") && wine) {
                    throw t.wrong(3);
                }
                toldOnce.add(word);
                t.take();
                if (word.equals("year")) {
                    s.first = t.number(0, 29);
                } else if (word.equals("angels")) {
                    s.angels = t.number(0, 9);
                } else {
                    s.most = t.number(1, 400);
                }
            } else {
                throw t.wrong(1);
            }
            t.must(";");
            lines++;
        }
        s.year = s.first;
        return lines;
    }

    record Line(String word, int s, int k, int s2, int k2, int n) { }

    private static List<Line> readBook(List<String> names, Tokens t) throws Fault {
        List<Line> lines = new ArrayList<>();
        while (!t.ended()) {
            if (!List.of("draw", "run", "top", "tip", "years").contains(t.see().text)) {
                throw t.wrong(1);
            }
            if (lines.size() == 40) {
                throw t.wrong(4);
            }
            String word = t.take().text;
            int s = 0;
            int k = 0;
            int s2 = 0;
            int k2 = 0;
            int n = 0;
            if (word.equals("draw") || word.equals("tip")) {
                s = t.scale(names);
                k = t.number(0, 3);
                if (word.equals("tip")) {
                    s2 = t.scale(names);
                    k2 = t.number(0, 3);
                }
                n = t.number(1, 400);
            } else if (word.equals("run")) {
                s = t.scale(names);
            } else if (word.equals("years")) {
                n = t.number(1, 39);
            }
            t.must(";");
            lines.add(new Line(word, s, k, s2, k2, n));
        }
        return lines;
    }

    private static int live(State s, Line l) {
        Cask c = l.k < s.of(l.s).size() ? s.of(l.s).get(l.k) : null;
        Cask d = l.k2 < s.of(l.s2).size() ? s.of(l.s2).get(l.k2) : null;
        int why;
        switch (l.word) {
            case "draw":
                return c == null ? 9 : drawIt(s, c, l.n);
            case "run":
                why = runIt(s, l.s);
                return why == 0 ? 0 : 10 + why;
            case "top":
                why = topIt(s);
                return why == 0 ? 0 : 20 + why;
            case "tip":
                if (c == null || d == null) {
                    return 39;
                }
                why = tipIt(c, d, l.n);
                return why == 0 ? 0 : 30 + why;
            default:
                if (s.year + l.n > 39) {
                    return 41;
                }
                for (int i = 0; i < l.n; i++) {
                    yearGoes(s);
                }
                return 0;
        }
    }

    interface Cond {
        boolean of(State s, int k);
    }

    private static final class Sayings {
        final Tokens t;
        final List<String> names;
        int ones;

        Sayings(Tokens t, List<String> names) {
            this.t = t;
            this.names = names;
        }

        Cond cond(int within) throws Fault {
            Cond left = all(within);
            while (t.sees("or")) {
                t.take();
                Cond a = left;
                Cond b = all(within);
                left = (s, k) -> a.of(s, k) || b.of(s, k);
            }
            return left;
        }

        Cond all(int within) throws Fault {
            Cond left = one(within);
            while (t.sees("and")) {
                t.take();
                Cond a = left;
                Cond b = one(within);
                left = (s, k) -> a.of(s, k) && b.of(s, k);
            }
            return left;
        }

        Cond one(int within) throws Fault {
            if (!List.of("not", "(", "full", "empty", "mixed", "in", "has", "litres", "age", "drawn", "number")
                .contains(t.see().text)) {
                throw t.wrong(1);
            }
            if (ones == 20 || within == 9) {
                throw t.wrong(4);
            }
            ones++;
            String word = t.take().text;
            switch (word) {
                case "not":
                    Cond a = one(within + 1);
                    return (s, k) -> !a.of(s, k);
                case "(":
                    Cond b = cond(within + 1);
                    t.must(")");
                    return b;
                case "full":
                    return (s, k) -> s.casks.get(k).lack() == 0;
                case "empty":
                    return (s, k) -> s.casks.get(k).litres() == 0;
                case "mixed":
                    return (s, k) -> s.casks.get(k).wine.size() >= 2;
                case "in":
                    int scale = t.scale(names);
                    return (s, k) -> s.casks.get(k).scale == scale;
                case "has":
                    int vintage = t.number(0, 39);
                    return (s, k) -> s.casks.get(k).wine.containsKey(vintage);
                default:
                    return compare(word);
            }
        }

        Cond compare(String word) throws Fault {
            if (!t.sees("<") && !t.sees("=") && !t.sees(">")) {
                throw t.wrong(1);
            }
            String sign = t.take().text;
            int n = t.number(0, 999);
            return (s, k) -> {
                Cask c = s.casks.get(k);
                int value = switch (word) {
                    case "litres" -> c.litres();
                    case "age" -> c.wine.isEmpty() ? 0 : s.ages(c.wine) / c.litres();
                    case "drawn" -> c.drawn;
                    default -> k;
                };
                return sign.equals("<") ? value < n : sign.equals(">") ? value > n : value == n;
            };
        }
    }

    // ---- the face ----
    int feed(int a, int b, int c, int d, int e) {
        if (tape.length + 20 > 940) {
            return -1;
        }
        byte[] then = Arrays.copyOf(tape, tape.length + 20);
        java.nio.ByteBuffer.wrap(then, tape.length, 20).putInt(a).putInt(b).putInt(c).putInt(d).putInt(e);
        tape = then;
        return tape.length;
    }

    boolean end(int n) {
        if (n < 0 || n > tape.length) {
            return false;
        }
        tape = Arrays.copyOf(tape, n);
        return true;
    }

    private byte[] takeTape() {
        byte[] had = tape;
        tape = new byte[0];
        return had;
    }

    int house() {
        State s = new State();
        try {
            int lines = readHouse(s, new Tokens(takeTape(), 900));
            fault = 0;
            now = s;
            saying = null;
            undo.clear();
            return lines;
        } catch (Fault f) {
            fault = f.kind;
            return -1 - f.place;
        }
    }

    int fault() {
        return fault;
    }

    private Cask caskAt(int k) {
        return k < 0 || k >= now.casks.size() ? null : now.casks.get(k);
    }

    private boolean isScale(int s) {
        return s >= 0 && s < now.names.size();
    }

    static boolean upTo39(int a) {
        return a >= 0 && a <= 39;
    }

    int cask(int k, int what) {
        Cask c = caskAt(k);
        if (c == null || what < 0 || what > 6) {
            return -1;
        }
        int oldest = c.wine.isEmpty() ? -1 : c.wine.firstKey();
        int youngest = c.wine.isEmpty() ? -1 : c.wine.lastKey();
        return new int[] {c.scale, c.number, c.litres(), c.lack(), c.drawn, oldest, youngest}[what];
    }

    int litres(int k, int v) {
        if (caskAt(k) == null || !upTo39(v)) {
            throw new NoSuchElementException();
        }
        return caskAt(k).wine.getOrDefault(v, 0);
    }

    static int half(int above, int below, int what) {
        if (below == 0 || what != 0 && what != 1) {
            throw new NoSuchElementException();
        }
        int g = BigInteger.valueOf(above).gcd(BigInteger.valueOf(below)).intValue();
        return (what == 0 ? above : below) / g;
    }

    int age(int k, int what) {
        Cask c = caskAt(k);
        if (c == null) {
            throw new NoSuchElementException();
        }
        return half(now.ages(c.wine), c.litres(), what);
    }

    private static TreeMap<Integer, Integer> together(List<Cask> casks) {
        TreeMap<Integer, Integer> all = new TreeMap<>();
        for (Cask c : casks) {
            in(all, c.wine);
        }
        return all;
    }

    int old(int s, int what) {
        if (!isScale(s)) {
            throw new NoSuchElementException();
        }
        TreeMap<Integer, Integer> all = together(now.of(s));
        return half(now.ages(all), sum(all), what);
    }

    int now(int what) {
        int full = 0;
        int empty = 0;
        for (int k = 0; k < now.casks.size(); k++) {
            full += caskAt(k).lack() == 0 ? 1 << k : 0;
            empty += caskAt(k).litres() == 0 ? 1 << k : 0;
        }
        int[] all = {now.year, now.litres(), full, empty, now.drawnEver, now.angelsEver, sum(now.bottle)};
        return what < 0 || what > 6 ? -1 : all[what];
    }

    int bottle(int v) {
        return upTo39(v) ? now.bottle.getOrDefault(v, 0) : -1;
    }

    int draw(int k, int n) {
        if (caskAt(k) == null || n < 1 || n > 400) {
            return -1;
        }
        State before = now.copy();
        return done(drawIt(now, caskAt(k), n), before);
    }

    int run(int s) {
        if (!isScale(s)) {
            return -1;
        }
        State before = now.copy();
        return done(runIt(now, s), before);
    }

    int top() {
        State before = now.copy();
        return done(topIt(now), before);
    }

    int tip(int k, int j, int n) {
        if (caskAt(k) == null || caskAt(j) == null || n < 1 || n > 400) {
            return -1;
        }
        State before = now.copy();
        return done(tipIt(caskAt(k), caskAt(j), n), before);
    }

    int years(int n) {
        if (n < 1 || n > 39) {
            return -1;
        }
        State before = now.copy();
        int gone = 0;
        for (int i = 0; i < n; i++) {
            gone += yearGoes(now) ? 1 : 0;
        }
        done(gone > 0 ? 0 : 1, before);
        return gone;
    }

    int undo() {
        if (undo.isEmpty()) {
            return -1;
        }
        now = undo.remove(undo.size() - 1);
        return undo.size();
    }

    int blend(int s, int n, int a) {
        if (!isScale(s) || n < 1 || n > 20 || !upTo39(a) || sum(together(now.of(s))) < n) {
            return -1;
        }
        List<Cask> of = now.of(s);
        List<int[]> ways = new ArrayList<>();
        ways(of, new int[of.size()], 0, n, ways);
        int best = Integer.MAX_VALUE;
        for (int[] way : ways) {
            int ages = 0;
            for (int i = 0; i < way.length; i++) {
                ages += now.ages(portion(of.get(i).wine, way[i]));
            }
            if (Math.abs(ages - n * a) < best) {
                best = Math.abs(ages - n * a);
                blended = way;
            }
        }
        return best;
    }

    /** All ways, those with the fewest litres of the first CASKS first. */
    private static void ways(List<Cask> of, int[] way, int i, int n, List<int[]> into) {
        if (i == way.length) {
            if (n == 0) {
                into.add(way.clone());
            }
            return;
        }
        for (int x = 0; x <= n && x <= of.get(i).litres(); x++) {
            way[i] = x;
            ways(of, way, i + 1, n - x, into);
        }
        way[i] = 0;
    }

    int blendAt(int i) {
        return blended == null || i < 0 || i >= blended.length ? -1 : blended[i];
    }

    int ripe(int k, int a) {
        if (caskAt(k) == null || !upTo39(a)) {
            return -1;
        }
        State s = now.copy();
        for (int y = 0; ; y++) {
            Cask c = s.casks.get(k);
            if (c.litres() > 0 && s.ages(c.wine) >= a * c.litres()) {
                return y;
            }
            if (!yearGoes(s)) {
                return -1;
            }
        }
    }

    int plan(int n, int a) {
        if (n < 0 || n > 400 || !upTo39(a)) {
            return -1;
        }
        State s = now.copy();
        for (int y = 0; ; y++) {
            TreeMap<Integer, Integer> solera = together(s.of(0));
            if (sum(solera) > 0 && s.ages(solera) >= a * sum(solera)) {
                return y;
            }
            for (Cask c : s.of(0)) {
                out(c.wine, Math.min(n, c.litres()));
            }
            for (int i = 0; i < s.names.size(); i++) {
                runIt(s, i);
            }
            topIt(s);
            if (!yearGoes(s)) {
                return -1;
            }
        }
    }

    int which() {
        byte[] had = takeTape();
        if (had.length == 0 || had.length > 40 || had.length % 2 == 1) {
            return -1;
        }
        TreeMap<Integer, Integer> told = new TreeMap<>();
        for (int i = 0; i < had.length; i += 2) {
            if (!upTo39(had[i] & 255)) {
                return -1;
            }
            add(told, had[i], had[i + 1] & 255);
        }
        if (sum(told) == 0) {
            return -1;
        }
        List<Integer> found = new ArrayList<>();
        int bits = 0;
        for (int k = 0; k < now.casks.size(); k++) {
            if (caskAt(k).litres() >= sum(told) && portion(caskAt(k).wine, sum(told)).equals(told)) {
                found.add(k);
                bits |= 1 << k;
            }
        }
        if (bits > 0) {
            int least = 99;
            for (int v = 0; v < 40; v++) {
                Map<Integer, Integer> by = new LinkedHashMap<>();
                for (int k : found) {
                    by.merge(litres(k, v), 1, Integer::sum);
                }
                int most = Collections.max(by.values());
                if (most < least) {
                    least = most;
                    asked = v;
                }
            }
        }
        return bits;
    }

    int ask() {
        return asked;
    }

    private int olderIn(Cask c, int a) {
        return sum(c.wine.headMap(now.year - a, true));
    }

    int store(int n, int a) {
        if (n < 1 || n > 999 || !upTo39(a)) {
            return -1;
        }
        int casks = now.casks.size();
        int[] old = new int[casks];
        for (int k = 0; k < casks; k++) {
            old[k] = olderIn(caskAt(k), a);
        }
        int best = -1;
        for (int bits = 1; bits < 1 << casks; bits++) {
            if (best >= 0 && Integer.bitCount(bits) >= Integer.bitCount(best)) {
                continue;
            }
            int have = 0;
            for (int k = 0; k < casks; k++) {
                have += (bits >> k & 1) * old[k];
            }
            if (have >= n) {
                best = bits;
            }
        }
        if (best < 0) {
            return -1;
        }
        stored = best;
        return Integer.bitCount(best);
    }

    int stored() {
        return stored;
    }

    int older(int a) {
        int n = 0;
        for (Cask c : now.casks) {
            n += upTo39(a) ? olderIn(c, a) : 0;
        }
        return upTo39(a) ? n : -1;
    }

    int where(int v) {
        int bits = 0;
        for (int k = 0; k < now.casks.size(); k++) {
            bits |= caskAt(k).wine.containsKey(v) ? 1 << k : 0;
        }
        return upTo39(v) ? bits : -1;
    }

    int mean(int s, int what) {
        if (!isScale(s)) {
            throw new NoSuchElementException();
        }
        return half(sum(together(now.of(s))), now.of(s).size(), what);
    }

    int part(int s, int what) {
        if (!isScale(s)) {
            throw new NoSuchElementException();
        }
        return half(sum(together(now.of(s))), now.litres(), what);
    }

    int tag(int k) {
        Cask c = caskAt(k);
        if (c == null) {
            return -1;
        }
        tag = Check.bytes(now.names.get(c.scale) + " cask " + c.number + " " + c.litres() + " of " + c.holds);
        return tag.length;
    }

    int byteAt(int i) {
        return i < 0 || i >= tag.length ? -1 : tag[i];
    }

    int drawn(int n, int x) {
        if (n < 1 || n > 39) {
            return -1;
        }
        State before = now.copy();
        int gone = drawnYears(now, n, x);
        done(gone > 0 ? 0 : 1, before);
        return gone;
    }

    int odds(int k, int n, int x) {
        if (caskAt(k) == null || n < 1 || n > 20) {
            return -1;
        }
        int full = 0;
        for (int i = 0; i < n; i++) {
            State s = now.copy();
            drawnYears(s, 3, x + i);
            full += s.casks.get(k).lack() == 0 ? 1 : 0;
        }
        return full;
    }

    int book(int lives) {
        if (lives != 0 && lives != 1) {
            return -1000;
        }
        List<Line> lines;
        try {
            lines = readBook(now.names, new Tokens(takeTape(), 400));
            fault = 0;
        } catch (Fault f) {
            fault = f.kind;
            return -2 - f.place;
        }
        State s = now.copy();
        int at = 0;
        int why = 0;
        while (at < lines.size() && why == 0) {
            why = live(s, lines.get(at));
            at += why == 0 ? 1 : 0;
        }
        told = new int[] {why, at, s.year, s.litres()};
        if (lives == 1 && at > 0) {
            done(0, now);
            now = s;
        }
        return why == 0 ? -1 : at;
    }

    int told(int what) {
        return told == null || what < 0 || what > 3 ? -1 : told[what];
    }

    int sentence() {
        Sayings s = new Sayings(new Tokens(takeTape(), 200), now.names);
        try {
            Cond c = s.cond(1);
            if (!s.t.ended()) {
                throw s.t.wrong(1);
            }
            saying = c;
            fault = 0;
            return s.ones;
        } catch (Fault f) {
            fault = f.kind;
            return -1 - f.place;
        }
    }

    int said(int k) {
        if (saying == null) {
            return -1;
        }
        List<Integer> found = new ArrayList<>();
        for (int i = 0; i < now.casks.size(); i++) {
            if (saying.of(now, i)) {
                found.add(i);
            }
        }
        return k == -1 ? found.size() : k < 0 || k >= found.size() ? -1 : found.get(k);
    }

    boolean image(int k) {
        if (k != 0 && k != 1) {
            return false;
        }
        keptStates[k] = now.copy();
        keptSayings[k] = saying;
        return true;
    }

    boolean restore(int k) {
        if (k != 0 && k != 1 || keptStates[k] == null) {
            return false;
        }
        now = keptStates[k].copy();
        saying = keptSayings[k];
        undo.clear();
        return true;
    }

    int count(int what) {
        int[] all = {now.names.size(), now.casks.size(), now.angels, now.most, now.first, tape.length};
        return what < 0 || what > 5 ? -1 : all[what];
    }

    int scale(int s, int what) {
        if (!isScale(s) || what < 0 || what > 3) {
            return -1;
        }
        List<Cask> of = now.of(s);
        int have = sum(together(of));
        return new int[] {of.size(), now.holds.get(s), have, of.size() * now.holds.get(s) - have}[what];
    }
}
