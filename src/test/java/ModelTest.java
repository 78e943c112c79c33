import java.util.ArrayList;
import java.util.List;
import java.util.Random;

/** Random runs of at most 512 calls, each answer held against the Model's; the seeds are fixed. */
public final class ModelTest {
    private static final String[] NAMES = {"sol", "cria", "sobre", "a", "abcdefg", "cask", "zz"};
    private static final String[] ODD_WORDS = {"scale", "wine", "year", "angels", "most", "draw", "run", "top", "tip", "years",
        "or", "and", "not", "full", "empty", "mixed", "in", "has", "litres", "age", "drawn", "number", "nobody", "abcdefgh",
        "0", "1", "3", "4", "9", "10", "29", "30", "39", "40", "400", "401", "999", "1000", "007", "a1", "1a", ";", "<", "=",
        ">", "(", ")", ".", "A", "\t", "" + (char) 233};
    private static final String[] CALLS = {"cask", "litres", "age", "old", "now", "bottle", "draw", "draw", "run", "run", "top",
        "tip", "tip", "years", "undo", "blend", "blendAt", "ripe", "plan", "which", "ask", "store", "stored", "older", "where",
        "mean", "part", "tag", "byteAt", "drawn", "odds", "book", "book", "told", "sentence", "said", "said", "image", "restore",
        "count", "scale", "house", "fault", "feed", "end", "bottle", "litres", "blendAt", "said", "told", "now", "undo"};

    private final Check check = new Check();
    private Random random;
    private SoleraHouse x;
    private Model m;
    private int calls;
    private List<String> names = new ArrayList<>();
    private int year;

    public static void main(String[] args) {
        new ModelTest().all(args.length > 0 ? Integer.parseInt(args[0]) : 1500);
    }

    private void all(int runs) {
        for (int run = 0; run < runs; run++) {
            random = new Random(run);
            x = new SoleraHouse();
            m = new Model();
            calls = 0;
            names.clear();
            while (calls < 440) {
                if (calls == 0 || random.nextInt(150) == 0) {
                    house(run);
                } else {
                    step(run);
                }
            }
            look(run);
        }
        check.close("ModelTest");
    }

    private void same(int run, String what, Check.Call want, Check.Call got) {
        calls++;
        check.same("run " + run + ", call " + calls + ": " + what, Check.answerOf(want), Check.answerOf(got));
    }

    private int any(int from, int to) {
        return from + random.nextInt(to - from + 1);
    }

    private boolean one(int of) {
        return random.nextInt(of) == 0;
    }

    private int odd(int from, int to) {
        if (one(14)) {
            return new int[] {from - 1, to + 1, Integer.MIN_VALUE, Integer.MAX_VALUE, -1}[random.nextInt(5)];
        }
        return any(from, to);
    }

    private String name() {
        return names.isEmpty() || one(40) ? NAMES[random.nextInt(NAMES.length)] : names.get(random.nextInt(names.size()));
    }

    // ---- texts ----
    private List<String> houseText() {
        List<String> t = new ArrayList<>();
        names.clear();
        year = 10;
        if (!one(3)) {
            year = one(4) ? any(0, 3) : any(0, 29);
            line(t, "year", year);
        }
        if (!one(3)) {
            line(t, "angels", any(0, 9));
        }
        if (one(3)) {
            line(t, "most", one(2) ? any(1, 60) : any(1, 400));
        }
        boolean greatest = one(10);
        int scales = greatest ? 5 : one(10) ? 6 : any(0, 5);
        int[] sizes = new int[scales];
        int[] holds = new int[scales];
        for (int s = 0; s < scales; s++) {
            String name = NAMES[(s + random.nextInt(one(9) ? 3 : 1)) % NAMES.length];
            names.add(name);
            sizes[s] = greatest ? 4 : any(1, 4);
            holds[s] = one(2) ? any(10, 40) : any(10, 400);
            line(t, "scale", name, sizes[s], holds[s]);
            wines(t, s, sizes[s], holds[s], one(3) ? 6 : 2);
        }
        return t;
    }

    private void wines(List<String> t, int s, int size, int holds, int most) {
        for (int k = 0; k < size; k++) {
            int room = holds;
            int many = any(0, most);
            for (int i = 0; i < many && room > 0; i++) {
                int n = one(5) ? room : any(1, Math.max(1, Math.min(room, holds / 2)));
                room -= n;
                line(t, "wine", names.get(s), k, any(0, year), n);
            }
        }
    }

    private static void line(List<String> t, Object... parts) {
        for (Object part : parts) {
            t.add("" + part);
        }
        t.add(";");
    }

    private List<String> bookText() {
        List<String> t = new ArrayList<>();
        int lines = one(6) ? any(30, 45) : any(0, 12);
        for (int i = 0; i < lines; i++) {
            switch (one(5) ? 9 : random.nextInt(5)) {
                case 0 -> line(t, "draw", name(), any(0, one(3) ? 3 : 1), any(1, one(5) ? 400 : 9));
                case 1 -> line(t, "run", name());
                case 2 -> line(t, "tip", name(), any(0, 1), name(), any(0, one(4) ? 3 : 1), any(1, one(5) ? 400 : 9));
                case 3 -> line(t, "years", any(1, one(6) ? 39 : 3));
                default -> line(t, "top");
            }
        }
        return t;
    }

    private void cond(List<String> t, int depth) {
        int alls = one(3) ? any(1, 3) : 1;
        for (int i = 0; i < alls; i++) {
            if (i > 0) {
                t.add("or");
            }
            int ones = one(3) ? any(1, 3) : 1;
            for (int j = 0; j < ones; j++) {
                if (j > 0) {
                    t.add("and");
                }
                condOne(t, depth);
            }
        }
    }

    private void condOne(List<String> t, int depth) {
        int kind = depth > 9 ? any(2, 9) : random.nextInt(10);
        String[] signs = {"<", "=", ">"};
        switch (kind) {
            case 0 -> {
                t.add("not");
                condOne(t, depth + 1);
            }
            case 1 -> {
                t.add("(");
                cond(t, depth + 1);
                t.add(")");
            }
            case 2 -> t.add("full");
            case 3 -> t.add("empty");
            case 4 -> t.add("mixed");
            case 5 -> {
                t.add("in");
                t.add(name());
            }
            case 6 -> {
                t.add("has");
                t.add("" + any(0, one(10) ? 45 : 15));
            }
            default -> {
                int which = random.nextInt(4);
                t.add(new String[] {"litres", "age", "drawn", "number"}[which]);
                t.add(signs[random.nextInt(3)]);
                t.add("" + any(0, new int[] {60, 12, 10, 12}[which]));
            }
        }
    }

    private void deep(List<String> t) {
        int depth = any(6, 10);
        int brackets = 0;
        for (int i = 0; i < depth - 1; i++) {
            if (one(2)) {
                t.add("not");
            } else {
                t.add("(");
                brackets++;
            }
        }
        condOne(t, 10);
        for (int i = 0; i < brackets; i++) {
            t.add(")");
        }
    }

    private String join(List<String> t, int most) {
        if (one(4) && !t.isEmpty()) {
            int at = random.nextInt(t.size());
            switch (random.nextInt(4)) {
                case 0 -> t.remove(at);
                case 1 -> t.add(at, t.get(random.nextInt(t.size())));
                default -> t.set(at, ODD_WORDS[random.nextInt(ODD_WORDS.length)]);
            }
        }
        boolean wide = one(5);
        StringBuilder b = new StringBuilder();
        for (String token : t) {
            boolean touching = b.length() > 0 && !token.isEmpty() && run(b.charAt(b.length() - 1)) && run(token.charAt(0));
            if (touching || one(wide ? 1 : 4)) {
                b.append(one(6) ? "\n" : " ");
            }
            while (wide && one(2)) {
                b.append(' ');
            }
            b.append(token);
        }
        if (one(12)) {
            while (b.length() < most + any(-2, 2)) {
                b.insert(one(2) ? b.length() : 0, ' ');
            }
        }
        if (b.length() > 0 && one(12)) {
            b.setLength(random.nextInt(b.length()));
        }
        if (b.length() > 0 && one(20)) {
            b.setCharAt(random.nextInt(b.length()), (char) random.nextInt(256));
        }
        return b.length() > 940 ? b.substring(0, 940) : b.toString();
    }

    private static boolean run(char c) {
        return c >= 'a' && c <= 'z' || c >= '0' && c <= '9';
    }

    private void put(int run, String text) {
        byte[] all = Check.bytes(text);
        same(run, "end(0)", () -> m.end(0) ? 1 : 0, () -> x.end(0) ? 1 : 0);
        for (int at = 0; at < all.length; at += 20) {
            int a = Check.number(all, at);
            int b = Check.number(all, at + 4);
            int c = Check.number(all, at + 8);
            int d = Check.number(all, at + 12);
            int e = Check.number(all, at + 16);
            same(run, "feed", () -> m.feed(a, b, c, d, e), () -> x.feed(a, b, c, d, e));
        }
        same(run, "end(" + all.length + ")", () -> m.end(all.length) ? 1 : 0, () -> x.end(all.length) ? 1 : 0);
    }

    private void house(int run) {
        String text = join(houseText(), 900);
        put(run, text);
        same(run, "house(): " + text, () -> m.house(), () -> x.house());
        same(run, "fault() of " + text, () -> m.fault(), () -> x.fault());
    }

    private void which(int run) {
        StringBuilder b = new StringBuilder();
        int k = any(0, 5);
        if (!one(4) && m.cask(k, 2) > 0) {
            int n = any(1, Math.min(one(2) ? 3 : 30, m.cask(k, 2)));
            if (m.draw(k, n) == 0) {
                for (int v = 0; v < 40; v++) {
                    if (m.bottle(v) > 0 || one(30)) {
                        b.append((char) v).append((char) Math.min(m.bottle(v), 255));
                    }
                }
                m.undo();
                same(run, "draw(k, n)", () -> m.draw(k, n), () -> x.draw(k, n));
                same(run, "undo()", () -> m.undo(), () -> x.undo());
            }
        }
        int more = one(6) ? any(0, 40) : one(5) ? 1 : 0;
        for (int i = 0; i < more; i++) {
            b.append((char) odd(0, 39)).append((char) any(0, one(2) ? 2 : 255));
        }
        if (one(20)) {
            b.append('a');
        }
        put(run, b.toString());
        same(run, "which()", () -> m.which(), () -> x.which());
        same(run, "ask()", () -> m.ask(), () -> x.ask());
    }

    // ---- calls ----
    private void step(int run) {
        String call = CALLS[random.nextInt(CALLS.length)];
        int k = odd(0, one(3) ? 19 : 5);
        int s = odd(0, one(3) ? 4 : 2);
        int v = odd(0, one(3) ? 39 : 15);
        int n = one(3) ? odd(1, 400) : odd(1, 20);
        String told = call + " k " + k + " s " + s + " v " + v + " n " + n;
        switch (call) {
            case "cask", "now", "count", "scale", "told", "fault", "litres", "age", "old", "mean", "part" ->
                numbers(run, call, told, k, s, v);
            case "bottle" -> same(run, told, () -> m.bottle(v), () -> x.bottle(v));
            case "draw" -> same(run, told, () -> m.draw(k, n), () -> x.draw(k, n));
            case "run" -> same(run, told, () -> m.run(s), () -> x.run(s));
            case "top" -> same(run, told, () -> m.top(), () -> x.top());
            case "tip" -> {
                int j = odd(0, 5);
                same(run, told, () -> m.tip(k, j, n), () -> x.tip(k, j, n));
            }
            case "years" -> {
                int y = odd(1, one(4) ? 39 : 3);
                same(run, told, () -> m.years(y), () -> x.years(y));
            }
            case "undo" -> same(run, told, () -> m.undo(), () -> x.undo());
            case "which" -> which(run);
            case "ask" -> same(run, told, () -> m.ask(), () -> x.ask());
            case "older" -> same(run, told, () -> m.older(v), () -> x.older(v));
            case "where" -> same(run, told, () -> m.where(v), () -> x.where(v));
            case "tag" -> same(run, told, () -> m.tag(k), () -> x.tag(k));
            case "byteAt" -> same(run, told, () -> m.byteAt(v), () -> x.byteAt(v));
            case "drawn" -> {
                int seed = random.nextInt();
                int y = odd(1, one(4) ? 39 : 3);
                same(run, told, () -> m.drawn(y, seed), () -> x.drawn(y, seed));
            }
            case "odds" -> {
                int seed = one(9) ? Integer.MAX_VALUE - 3 : random.nextInt();
                int many = odd(1, 20);
                same(run, told, () -> m.odds(k, many, seed), () -> x.odds(k, many, seed));
            }
            case "image" -> same(run, told, () -> m.image(s) ? 1 : 0, () -> x.image(s) ? 1 : 0);
            case "restore" -> same(run, told, () -> m.restore(s) ? 1 : 0, () -> x.restore(s) ? 1 : 0);
            case "house" -> {
                if (one(8)) {
                    house(run);
                }
            }
            case "feed" -> same(run, told, () -> m.feed(k, s, v, n, 7), () -> x.feed(k, s, v, n, 7));
            case "end" -> same(run, told, () -> m.end(n) ? 1 : 0, () -> x.end(n) ? 1 : 0);
            default -> forecasts(run, call, told, k, s, v);
        }
    }

    private void numbers(int run, String call, String told, int k, int s, int v) {
        int what = odd(0, 6);
        int half = odd(0, 1);
        switch (call) {
            case "cask" -> same(run, told, () -> m.cask(k, what), () -> x.cask(k, what));
            case "now" -> same(run, told, () -> m.now(what), () -> x.now(what));
            case "count" -> same(run, told, () -> m.count(what), () -> x.count(what));
            case "scale" -> same(run, told, () -> m.scale(s, what), () -> x.scale(s, what));
            case "told" -> same(run, told, () -> m.told(what), () -> x.told(what));
            case "fault" -> same(run, told, () -> m.fault(), () -> x.fault());
            case "litres" -> same(run, told, () -> m.litres(k, v), () -> x.litres(k, v));
            case "age" -> same(run, told, () -> m.age(k, half), () -> x.age(k, half));
            case "old" -> same(run, told, () -> m.old(s, half), () -> x.old(s, half));
            case "mean" -> same(run, told, () -> m.mean(s, half), () -> x.mean(s, half));
            default -> same(run, told, () -> m.part(s, half), () -> x.part(s, half));
        }
    }

    private void forecasts(int run, String call, String told, int k, int s, int v) {
        int many = odd(1, 20);
        int i = odd(0, 3);
        switch (call) {
            case "blend" -> same(run, told, () -> m.blend(s, many, v), () -> x.blend(s, many, v));
            case "blendAt" -> same(run, told, () -> m.blendAt(i), () -> x.blendAt(i));
            case "ripe" -> same(run, told, () -> m.ripe(k, v), () -> x.ripe(k, v));
            case "plan" -> {
                int n = odd(0, one(3) ? 400 : 30);
                same(run, told + " " + n, () -> m.plan(n, v), () -> x.plan(n, v));
            }
            case "store" -> {
                if (m.count(1) > 14 && !one(12)) {
                    return;
                }
                int n = one(2) ? odd(1, 999) : odd(1, 100);
                same(run, told + " " + n, () -> m.store(n, v), () -> x.store(n, v));
                same(run, told, () -> m.stored(), () -> x.stored());
            }
            case "stored" -> same(run, told, () -> m.stored(), () -> x.stored());
            case "book" -> {
                String text = join(bookText(), 400);
                put(run, text);
                int lives = odd(0, 1);
                same(run, "book(" + lives + "): " + text, () -> m.book(lives), () -> x.book(lives));
                same(run, "fault() of " + text, () -> m.fault(), () -> x.fault());
                same(run, "told(" + i + ") of " + text, () -> m.told(i), () -> x.told(i));
            }
            case "sentence" -> {
                List<String> t = new ArrayList<>();
                if (one(5)) {
                    deep(t);
                } else {
                    cond(t, one(3) ? 0 : 5);
                }
                String text = join(t, 200);
                put(run, text);
                same(run, "sentence(): " + text, () -> m.sentence(), () -> x.sentence());
                same(run, "fault() of " + text, () -> m.fault(), () -> x.fault());
                same(run, "said(-1) of " + text, () -> m.said(-1), () -> x.said(-1));
            }
            default -> same(run, told, () -> m.said(i), () -> x.said(i));
        }
    }

    /** All that can be seen at the end of a run, as far as the 512 calls go. */
    private void look(int run) {
        for (int what = 0; what <= 6 && calls < 512; what++) {
            int w = what;
            same(run, "now(" + w + ")", () -> m.now(w), () -> x.now(w));
        }
        for (int k = 0; k < m.count(1); k++) {
            int c = k;
            int oldest = Math.max(0, m.cask(k, 5));
            for (int v = oldest; v <= m.cask(k, 6) && calls < 512; v++) {
                int w = v;
                same(run, "litres(" + c + ", " + w + ")", () -> m.litres(c, w), () -> x.litres(c, w));
            }
        }
    }
}
