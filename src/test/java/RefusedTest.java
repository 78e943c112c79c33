import java.util.ArrayList;
import java.util.List;

/** What a refused call answers, and that it leaves all as it was; and what calls leave that only ask. */
public final class RefusedTest {
    private static final int MIN = Integer.MIN_VALUE;
    private static final int MAX = Integer.MAX_VALUE;
    // What can be seen of an object, in three parts: calls differ in which of them they leave.
    private static final int STATE = 1;
    private static final int TOLD = 2;
    private static final int TAPE = 4;
    private static final int ALL = STATE | TOLD | TAPE;
    private static final String[] PARTS = {"the state", "what was told last", "the tape"};

    private final Check t = new Check();
    private final List<List<Long>> due = seen(prepared());

    interface Asked {
        long answer(SoleraHouse x);
    }

    public static void main(String[] args) {
        RefusedTest all = new RefusedTest();
        all.tape();
        all.texts();
        all.askedOfCasks();
        all.askedOfScales();
        all.askedOfAll();
        all.acts();
        all.forecasts();
        all.toldLast();
        all.images();
        all.questions();
        all.toldOnly();
        all.aheadOfAny();
        all.withoutScales();
        all.t.close("RefusedTest");
    }

    /** YEAR 6, three acts to undo, an image, a SENTENCE, something told of each kind, a FAULT, 7 bytes on the tape. */
    private static SoleraHouse prepared() {
        SoleraHouse x = Check.houseOf("year 5;angels 9;most 8;scale old 2 20;scale mid 1 30;"
            + "wine old 0 1 10;wine old 0 3 5;wine old 1 2 20;wine mid 0 5 12;wine mid 0 4 9;");
        x.draw(0, 6);
        x.years(1);
        x.image(0);
        x.draw(1, 3);
        Check.put(x, "mixed");
        x.sentence();
        x.blend(0, 3, 3);
        x.store(20, 3);
        Check.put(x, "" + (char) 2 + (char) 5);
        x.which();
        x.tag(2);
        Check.put(x, "years 30;draw old 3 1;");
        x.book(0);
        Check.put(x, "year 30;");
        x.house();
        Check.put(x, "year 7;");
        return x;
    }

    /** All that can be seen of an object; it is used up by that. */
    private static List<List<Long>> seen(SoleraHouse x) {
        List<Long> told = new ArrayList<>();
        told.add((long) x.fault());
        told.add((long) x.ask());
        told.add((long) x.stored());
        for (int i = 0; i < 5; i++) {
            told.add((long) x.told(i));
            told.add((long) x.blendAt(i));
        }
        for (int i = 0; i < 20; i++) {
            told.add((long) x.byteAt(i));
        }
        List<Long> state = new ArrayList<>();
        addState(x, state);
        long bytes = x.count(5);
        for (int i = 0; i < 9; i++) {
            state.add((long) x.undo());
            state.add((long) x.now(0));
            state.add((long) x.now(1));
            state.add((long) x.now(6));
        }
        for (int k = 0; k < 2; k++) {
            state.add(x.restore(k) ? 1L : 0L);
            state.add((long) x.now(0));
            state.add((long) x.now(1));
            state.add((long) x.said(-1));
        }
        List<Long> tape = new ArrayList<>();
        tape.add(bytes);
        tape.add((long) x.house());
        tape.add((long) x.now(0));
        return List.of(state, told, tape);
    }

    private static void addState(SoleraHouse x, List<Long> state) {
        for (int i = 0; i < 5; i++) {
            state.add((long) x.count(i));
        }
        for (int i = 0; i < 7; i++) {
            state.add((long) x.now(i));
            state.add((long) x.bottle(i));
        }
        for (int k = 0; k < x.count(1); k++) {
            for (int i = 0; i < 7; i++) {
                state.add((long) x.cask(k, i));
                state.add((long) x.litres(k, i));
            }
        }
        for (int i = -1; i < 3; i++) {
            state.add((long) x.said(i));
        }
    }

    /** The call on a prepared object answers so, and leaves the parts told as they were. */
    private void leaves(int parts, long want, String what, Asked call) {
        SoleraHouse x = prepared();
        t.same(what, want, Check.answerOf(() -> call.answer(x)));
        List<List<Long>> after = seen(x);
        for (int i = 0; i < PARTS.length; i++) {
            if ((parts >> i & 1) == 1) {
                t.truth(PARTS[i] + " behind " + what + ": " + after.get(i), true, due.get(i).equals(after.get(i)));
            }
        }
    }

    private void none(String what, Asked call) {
        leaves(ALL, -1, what, call);
    }

    private void throwing(String what, Asked call) {
        leaves(ALL, Check.THROWN, what, call);
    }

    private void no(String what, Asked call) {
        leaves(ALL, 0, what, call);
    }

    private void tape() {
        no("end(8)", x -> x.end(8) ? 1 : 0);
        no("end(-1)", x -> x.end(-1) ? 1 : 0);
        no("end least", x -> x.end(MIN) ? 1 : 0);
        no("end greatest", x -> x.end(MAX) ? 1 : 0);
        leaves(ALL, 1, "end(7)", x -> x.end(7) ? 1 : 0);
        leaves(STATE | TOLD, 1, "end(6)", x -> x.end(6) ? 1 : 0);
        leaves(STATE | TOLD, 1, "end(0)", x -> x.end(0) ? 1 : 0);
        leaves(STATE | TOLD, 27, "feed", x -> x.feed(MIN, MAX, -1, 0, 1));
        SoleraHouse full = new SoleraHouse();
        Check.put(full, "year 7;");
        int blanks = 0x20202020;
        for (int bytes = 27; bytes <= 927; bytes += 20) {
            t.same("feed", bytes, full.feed(blanks, blanks, blanks, blanks, blanks));
        }
        t.same("947 bytes would be too many", -1, full.feed(-1, -1, -1, -1, -1));
        t.same("none of them came", 927, full.count(5));
        t.truth("end(928)", false, full.end(928));
        t.truth("end(900)", true, full.end(900));
        t.same("the bytes ahead are as they were", 1, full.house());
        t.same("YEAR 7", 7, full.now(0));
        SoleraHouse just = new SoleraHouse();
        for (int bytes = 20; bytes <= 940; bytes += 20) {
            t.same("feed to 940", bytes, just.feed(blanks, blanks, blanks, blanks, blanks));
        }
        t.same("960", -1, just.feed(blanks, blanks, blanks, blanks, blanks));
        t.truth("end(941)", false, just.end(941));
        t.truth("end(940)", true, just.end(940));
        t.truth("end(921)", true, just.end(921));
        t.same("941", -1, just.feed(blanks, blanks, blanks, blanks, blanks));
        t.truth("end(920)", true, just.end(920));
        t.same("940", 940, just.feed(blanks, blanks, blanks, blanks, blanks));
        bytesInOrder();
    }

    /** Each of the twenty bytes at its place, seen by WHICH: litres 1 to 10 of VINTAGES 1 to 10 are a CASK's whole wine. */
    private void bytesInOrder() {
        StringBuilder house = new StringBuilder("scale a 1 55;");
        for (int v = 1; v <= 10; v++) {
            house.append("wine a 0 ").append(v).append(' ').append(v).append(';');
        }
        SoleraHouse x = Check.houseOf(house.toString());
        t.same("20 bytes", 20, x.feed(0x01010202, 0x03030404, 0x05050606, 0x07070808, 0x09090a0a));
        t.same("all of the CASK", 1, x.which());
        x.feed(0x01010202, 0x03030404, 0x05050606, 0x07070808, 0x09090a0b);
        t.same("one litre more", 0, x.which());
        x.feed(0x80010202, 0x03030404, 0x05050606, 0x07070808, 0x09090a0a);
        t.same("a byte of 128 is no VINTAGE", -1, x.which());
        x.feed(0x01ff0000, 0, 0, 0, 0);
        t.same("255 litres", 0, x.which());
    }

    private void texts() {
        leaves(STATE, -1, "house() of ';'", x -> faulty(x) + x.house());
        leaves(STATE, -2, "book(1) of ';'", x -> faulty(x) + x.book(1));
        leaves(STATE, -1, "sentence() of ';'", x -> faulty(x) + x.sentence());
        SoleraHouse x = prepared();
        faulty(x);
        x.book(1);
        t.same("a FAULT empties the tape", 0, x.count(5));
        t.same("the BOOK ahead is told", 9, x.told(0));
        leaves(ALL, -1000, "book(2)", y -> y.book(2));
        leaves(ALL, -1000, "book(-1)", y -> y.book(-1));
        leaves(ALL, -1000, "book least", y -> y.book(MIN));
        leaves(ALL, -1000, "book greatest", y -> y.book(MAX));
        leaves(STATE | TOLD, -1, "which() of 7 bytes", y -> y.which());
    }

    private static int faulty(SoleraHouse x) {
        Check.put(x, ";");
        return 0;
    }

    private void askedOfCasks() {
        for (int k : new int[] {-1, 3, MIN, MAX}) {
            none("cask(" + k + ", 0)", x -> x.cask(k, 0));
            throwing("litres(" + k + ", 0)", x -> x.litres(k, 0));
            throwing("age(" + k + ", 0)", x -> x.age(k, 0));
            none("draw(" + k + ", 1)", x -> x.draw(k, 1));
            none("tip(" + k + ", 0, 1)", x -> x.tip(k, 0, 1));
            none("tip(0, " + k + ", 1)", x -> x.tip(0, k, 1));
            none("tip(" + k + ", " + k + ", 1)", x -> x.tip(k, k, 1));
            none("ripe(" + k + ", 0)", x -> x.ripe(k, 0));
            none("tag(" + k + ")", x -> x.tag(k));
            none("odds(" + k + ", 1, 1)", x -> x.odds(k, 1, 1));
        }
        for (int what : new int[] {-1, 7, MIN, MAX}) {
            none("cask(0, " + what + ")", x -> x.cask(0, what));
            none("now(" + what + ")", x -> x.now(what));
        }
        for (int v : new int[] {-1, 40, MIN, MAX}) {
            throwing("litres(0, " + v + ")", x -> x.litres(0, v));
            none("bottle(" + v + ")", x -> x.bottle(v));
            none("where(" + v + ")", x -> x.where(v));
        }
        leaves(ALL, 0, "litres(0, 39)", x -> x.litres(0, 39));
        leaves(ALL, 0, "litres(2, 0)", x -> x.litres(2, 0));
        leaves(ALL, 0, "bottle(39)", x -> x.bottle(39));
        leaves(ALL, 0, "where(39)", x -> x.where(39));
        leaves(ALL, 0, "where(0)", x -> x.where(0));
        for (int what : new int[] {-1, 2, MIN, MAX}) {
            throwing("age(0, " + what + ")", x -> x.age(0, what));
            throwing("old(0, " + what + ")", x -> x.old(0, what));
            throwing("mean(0, " + what + ")", x -> x.mean(0, what));
            throwing("part(0, " + what + ")", x -> x.part(0, what));
        }
    }

    private void askedOfScales() {
        for (int s : new int[] {-1, 2, MIN, MAX}) {
            throwing("old(" + s + ", 0)", x -> x.old(s, 0));
            throwing("mean(" + s + ", 0)", x -> x.mean(s, 0));
            throwing("part(" + s + ", 0)", x -> x.part(s, 0));
            none("run(" + s + ")", x -> x.run(s));
            none("blend(" + s + ", 1, 1)", x -> x.blend(s, 1, 1));
            none("scale(" + s + ", 0)", x -> x.scale(s, 0));
        }
        for (int what : new int[] {-1, 4, MIN, MAX}) {
            none("scale(0, " + what + ")", x -> x.scale(0, what));
        }
    }

    private void askedOfAll() {
        for (int a : new int[] {-1, 40, MIN, MAX}) {
            none("older(" + a + ")", x -> x.older(a));
            none("ripe(0, " + a + ")", x -> x.ripe(0, a));
            none("plan(0, " + a + ")", x -> x.plan(0, a));
            none("store(1, " + a + ")", x -> x.store(1, a));
            none("blend(0, 1, " + a + ")", x -> x.blend(0, 1, a));
        }
        leaves(ALL, 0, "older(39)", x -> x.older(39));
        for (int what : new int[] {-1, 6, MIN, MAX}) {
            none("count(" + what + ")", x -> x.count(what));
        }
    }

    private void acts() {
        for (int n : new int[] {0, -1, 401, MIN, MAX}) {
            none("draw(0, " + n + ")", x -> x.draw(0, n));
            none("tip(0, 1, " + n + ")", x -> x.tip(0, 1, n));
        }
        for (int n : new int[] {0, -1, 40, MIN, MAX}) {
            none("years(" + n + ")", x -> x.years(n));
            none("drawn(" + n + ", 1)", x -> x.drawn(n, 1));
        }
        // CASK 0 has 9 litres, 1 has 16 (3 are drawn of it), 2 has 20 and room for 10.
        leaves(ALL, 1, "draw(0, 10)", x -> x.draw(0, 10));
        leaves(ALL, 1, "draw(0, 400)", x -> x.draw(0, 400));
        leaves(ALL, 2, "draw(0, 9)", x -> x.draw(0, 9));
        leaves(ALL, 2, "draw(1, 6)", x -> x.draw(1, 6));
        leaves(ALL, 2, "run(1)", x -> x.run(1));
        leaves(ALL, 1, "tip(0, 0, 1)", x -> x.tip(0, 0, 1));
        leaves(ALL, 2, "tip(0, 1, 10)", x -> x.tip(0, 1, 10));
        leaves(ALL, 3, "tip(0, 1, 5)", x -> x.tip(0, 1, 5));
        leaves(ALL, 3, "tip(1, 2, 11)", x -> x.tip(1, 2, 11));
    }

    private void forecasts() {
        for (int n : new int[] {0, -1, 21, MIN, MAX}) {
            none("blend(0, " + n + ", 1)", x -> x.blend(0, n, 1));
            none("odds(0, " + n + ", 1)", x -> x.odds(0, n, 1));
        }
        for (int n : new int[] {-1, 401, MIN, MAX}) {
            none("plan(" + n + ", 1)", x -> x.plan(n, 1));
        }
        for (int n : new int[] {0, -1, 1000, MIN, MAX}) {
            none("store(" + n + ", 1)", x -> x.store(n, 1));
        }
        none("store() of more than there is", x -> x.store(46, 0));
        none("ripe() not by YEAR 39", x -> x.ripe(2, 39));
        none("plan() not by YEAR 39", x -> x.plan(0, 39));
    }

    private void toldLast() {
        for (int i : new int[] {-1, MIN, MAX}) {
            none("blendAt(" + i + ")", x -> x.blendAt(i));
            none("byteAt(" + i + ")", x -> x.byteAt(i));
            none("told(" + i + ")", x -> x.told(i));
        }
        none("blendAt(2)", x -> x.blendAt(2));
        leaves(ALL, 0, "blendAt(0)", x -> x.blendAt(0));
        leaves(ALL, 3, "blendAt(1)", x -> x.blendAt(1));
        none("byteAt(19)", x -> x.byteAt("mid cask 0 20 of 30".length()));
        leaves(ALL, '0', "byteAt(18)", x -> x.byteAt(18));
        none("told(4)", x -> x.told(4));
        // In 30 YEARS at 9 of 100 casks of 9, 16 and 20 come down to 9, 11 and 11: of those a whole litre is never due.
        leaves(ALL, 31, "told(3)", x -> x.told(3));
        leaves(ALL, 9, "told(0)", x -> x.told(0));
        none("said(2)", x -> x.said(2));
        leaves(ALL, 2, "said(1)", x -> x.said(1));
        leaves(ALL, 2, "said(-1)", x -> x.said(-1));
        none("said(-2)", x -> x.said(-2));
        none("said least", x -> x.said(MIN));
        none("said greatest", x -> x.said(MAX));
    }

    private void images() {
        for (int k : new int[] {-1, 2, MIN, MAX}) {
            no("image(" + k + ")", x -> x.image(k) ? 1 : 0);
            no("restore(" + k + ")", x -> x.restore(k) ? 1 : 0);
        }
        no("restore(1): nothing is kept there", x -> x.restore(1) ? 1 : 0);
        leaves(TOLD | TAPE, 1, "restore(0)", x -> x.restore(0) ? 1 : 0);
        leaves(TOLD | TAPE, 1, "image(1)", x -> x.image(1) ? 1 : 0);
        leaves(TOLD | TAPE, 1, "image(0)", x -> x.image(0) ? 1 : 0);
    }

    /** What only asks leaves all as it was. */
    private void questions() {
        leaves(ALL, 2, "fault()", x -> x.fault());
        // CASK 0: 6 litres of 5 years, 3 of 3; CASK 1: 16 of 4.
        leaves(ALL, 13, "age(0, 0)", x -> x.age(0, 0));
        leaves(ALL, 3, "age(0, 1)", x -> x.age(0, 1));
        leaves(ALL, 103, "old(0, 0)", x -> x.old(0, 0));
        leaves(ALL, 25, "old(0, 1)", x -> x.old(0, 1));
        leaves(ALL, 6, "now(0)", x -> x.now(0));
        leaves(ALL, 45, "older(0)", x -> x.older(0));
        leaves(ALL, 2, "where(2)", x -> x.where(2));
        leaves(ALL, 25, "mean(0, 0)", x -> x.mean(0, 0));
        leaves(ALL, 5, "part(0, 0)", x -> x.part(0, 0));
        leaves(ALL, 9, "part(0, 1)", x -> x.part(0, 1));
        leaves(ALL, 0, "ripe(0, 4)", x -> x.ripe(0, 4));
        leaves(ALL, 1, "ripe(0, 5)", x -> x.ripe(0, 5));
        leaves(ALL, 0, "plan(400, 0)", x -> x.plan(400, 0));
        leaves(ALL, 1, "odds", x -> x.odds(2, 20, 5) >= 0 ? 1 : 0);
        leaves(ALL, 15, "scale(0, 3)", x -> x.scale(0, 3));
    }

    /** What tells something leaves all but that. */
    private void toldOnly() {
        leaves(STATE | TAPE, 0, "blend(0, 1, 4)", x -> x.blend(0, 1, 4));
        leaves(STATE | TAPE, 1, "store(1, 0)", x -> x.store(1, 0));
        leaves(STATE | TAPE, "old cask 0 9 of 20".length(), "tag(0)", x -> x.tag(0));
        leaves(STATE, -1, "book(0)", x -> tapeOf(x, "draw old 0 1;tip old 0 mid 0 1;run old;top;years 3;") + x.book(0));
        leaves(STATE, 3, "book(0), WRONG", x -> tapeOf(x, "draw old 0 1;run old;top;top;years 3;") + x.book(0));
        leaves(STATE, 1, "which()", x -> tapeOf(x, "" + (char) 1 + (char) 1) + x.which());
        leaves(TOLD | TAPE, 0, "draw(0, 1)", x -> x.draw(0, 1));
        leaves(TOLD | TAPE, 0, "run(0)", x -> x.run(0));
        leaves(TOLD | TAPE, 0, "top()", x -> x.top());
        leaves(TOLD | TAPE, 0, "tip(0, 1, 1)", x -> x.tip(0, 1, 1));
        leaves(TOLD | TAPE, 1, "years(1)", x -> x.years(1));
        leaves(TOLD | TAPE, 3, "drawn(3, 4)", x -> x.drawn(3, 4));
        leaves(TOLD | TAPE, 2, "undo()", x -> x.undo());
    }

    private static int tapeOf(SoleraHouse x, String text) {
        Check.put(x, text);
        return 0;
    }

    private void aheadOfAny() {
        SoleraHouse x = new SoleraHouse();
        for (int round = 0; round < 2; round++) {
            t.same("fault()", 0, x.fault());
            for (int i = 0; i < 4; i++) {
                t.same("blendAt(" + i + ")", -1, x.blendAt(i));
                t.same("told(" + i + ")", -1, x.told(i));
                t.same("byteAt(" + i + ")", -1, x.byteAt(i));
            }
            t.same("ask()", -1, x.ask());
            t.same("stored()", -1, x.stored());
            t.same("said(-1)", -1, x.said(-1));
            t.same("said(0)", -1, x.said(0));
            t.same("undo()", -1, x.undo());
            t.truth("restore(0)", false, x.restore(0));
            t.truth("restore(1)", false, x.restore(1));
            // Refused ones are none of those that tell.
            x.blend(0, 1, 0);
            x.store(1, 0);
            x.which();
            x.tag(0);
            x.book(-1);
        }
        Check.put(x, "foo");
        t.same("a BOOK with a FAULT", -2, x.book(0));
        t.same("tells nothing", -1, x.told(0));
        t.same("but its kind", 1, x.fault());
        t.same("an empty BOOK", -1, x.book(0));
        t.same("is the first to tell", 0, x.told(0));
        t.same("and has no FAULT", 0, x.fault());
    }

    private void withoutScales() {
        SoleraHouse x = new SoleraHouse();
        t.same("cask", -1, x.cask(0, 0));
        t.same("scale", -1, x.scale(0, 0));
        t.throwing("litres", () -> x.litres(0, 0));
        t.throwing("age", () -> x.age(0, 0));
        t.throwing("old", () -> x.old(0, 0));
        t.throwing("mean", () -> x.mean(0, 0));
        t.throwing("part", () -> x.part(0, 0));
        t.same("draw", -1, x.draw(0, 1));
        t.same("run", -1, x.run(0));
        t.same("top", 1, x.top());
        t.same("tip", -1, x.tip(0, 0, 1));
        t.same("ripe", -1, x.ripe(0, 0));
        t.same("plan", -1, x.plan(0, 0));
        t.same("store", -1, x.store(1, 0));
        t.same("tag", -1, x.tag(0));
        t.same("odds", -1, x.odds(0, 1, 1));
        t.same("older", 0, x.older(0));
        t.same("where", 0, x.where(0));
        int[] now = {10, 0, 0, 0, 0, 0, 0};
        for (int i = 0; i < 7; i++) {
            t.same("now(" + i + ")", now[i], x.now(i));
        }
        t.same("which", 0, tapeOf(x, "" + (char) 0 + (char) 1) + x.which());
        t.same("no CASK to ask of", -1, x.ask());
        t.same("sentence", 1, tapeOf(x, "empty") + x.sentence());
        t.same("said of none", 0, x.said(-1));
        t.same("not of CASK 0", -1, x.said(0));
        t.same("a BOOK's top", 0, tapeOf(x, "top;") + x.book(1));
        t.same("is WRONG", 21, x.told(0));
        t.same("years", 2, x.years(2));
        t.same("drawn: the YEARS alone", 2, x.drawn(2, 7));
        t.same("YEAR 14", 14, x.now(0));
        t.same("undo drawn", 1, x.undo());
        t.same("undo years", 0, x.undo());
        t.same("YEAR 10", 10, x.now(0));
    }
}
