/** The boundaries of what is done: SHARES, every "why not", the YEAR 39, what is undone, BOOKS that are WRONG, images. */
public final class ActBoundsTest {
    private final Check t = new Check();

    public static void main(String[] args) {
        ActBoundsTest all = new ActBoundsTest();
        all.shares();
        all.portionsOfNothing();
        all.draws();
        all.mostOfAYear();
        all.bottles();
        all.runs();
        all.mixes();
        all.tops();
        all.tips();
        all.angels();
        all.yearsTo39();
        all.yearStays();
        all.eightActs();
        all.noActs();
        all.undoneWhole();
        all.bookWhy();
        all.bookYears();
        all.bookTold();
        all.bookLived();
        all.newHouse();
        all.faultLeavesHouse();
        all.images();
        all.vintages();
        all.t.close("ActBoundsTest");
    }

    private int house(SoleraHouse x, String text) {
        Check.put(x, text);
        return x.house();
    }

    private int book(SoleraHouse x, int lives, String text) {
        Check.put(x, text);
        return x.book(lives);
    }

    private int sentence(SoleraHouse x, String text) {
        Check.put(x, text);
        return x.sentence();
    }

    /** A CASK of so many litres of VINTAGES 0, 1, .. and nothing that angels would take. */
    private static SoleraHouse caskOf(int... litres) {
        StringBuilder b = new StringBuilder("angels 0;scale a 1 400;");
        for (int v = 0; v < litres.length; v++) {
            if (litres[v] > 0) {
                b.append("wine a 0 ").append(v).append(' ').append(litres[v]).append(';');
            }
        }
        return Check.houseOf(b.toString());
    }

    private void share(int[] own, int n, int... want) {
        SoleraHouse x = caskOf(own);
        t.same("draw " + n, 0, x.draw(0, n));
        int left = 0;
        for (int v = 0; v < own.length; v++) {
            t.same(n + " litres, of " + v, want[v], x.bottle(v));
            t.same(n + " litres, left of " + v, own[v] - want[v], x.litres(0, v));
            left += own[v] - want[v];
        }
        t.same("in the BOTTLE", n, x.now(6));
        t.same("left", left, x.cask(0, 2));
    }

    private void shares() {
        int[] three = {3, 3, 3};
        share(three, 1, 1, 0, 0);
        share(three, 2, 1, 1, 0);
        share(three, 3, 1, 1, 1);
        share(three, 4, 2, 1, 1);
        share(three, 8, 3, 3, 2);
        share(three, 9, 3, 3, 3);
        share(new int[] {1, 2}, 1, 0, 1);
        share(new int[] {2, 1}, 1, 1, 0);
        share(new int[] {1, 2}, 2, 1, 1);
        share(new int[] {1, 1, 4}, 3, 1, 0, 2);
        share(new int[] {1, 4, 1}, 3, 1, 2, 0);
        share(new int[] {4, 1, 1}, 3, 2, 1, 0);
        share(new int[] {5, 5, 6, 4}, 10, 3, 2, 3, 2);
        // 5/11 and 50/11: 5 and 6 are left off; 6/11 and 60/11: 6 and 5.
        share(new int[] {1, 10}, 5, 0, 5);
        share(new int[] {1, 10}, 6, 1, 5);
        share(new int[] {100, 200, 100}, 399, 100, 199, 100);
        share(new int[] {133, 133, 134}, 1, 0, 0, 1);
        share(new int[] {200, 200}, 399, 200, 199);
        share(new int[] {0, 5, 0, 5, 0}, 3, 0, 2, 0, 1, 0);
        share(new int[] {400}, 400, 400);
        share(new int[] {1}, 1, 1);
    }

    private void portionsOfNothing() {
        // One litre lacks: 10/11 and 1/11 of it, so the second gives nothing.
        SoleraHouse x = Check.houseOf("scale a 2 10;scale b 2 10;wine a 0 0 10;wine a 1 0 9;wine b 0 1 10;wine b 1 2 1;");
        t.same("run", 0, x.run(0));
        t.same("all of the first", 9, x.cask(2, 2));
        t.same("nothing of the second", 1, x.cask(3, 2));
        t.same("nothing into the full one", 10, x.litres(0, 0));
        t.same("a litre into the other", 1, x.litres(1, 1));
        SoleraHouse y = Check.houseOf("scale a 1 10;scale b 3 10;wine a 0 0 9;wine b 1 1 5;");
        t.same("of empty ones nothing", 0, y.run(0));
        t.same("the empty one ahead", 0, y.cask(1, 2));
        t.same("the one that has some", 4, y.cask(2, 2));
        t.same("the empty one behind", 0, y.cask(3, 2));
        // Angels of an empty CASK take nothing.
        t.same("a year", 1, y.years(1));
        t.same("empty still", 10, y.cask(1, 3));
    }

    private void draws() {
        for (int have : new int[] {1, 2, 399, 400}) {
            SoleraHouse x = caskOf(have);
            t.same("one more than it has", have == 400 ? -1 : 1, x.draw(0, have + 1));
            t.same("all it has", 0, x.draw(0, have));
            t.same("it is empty", 1, x.now(3));
            t.same("of an empty one", 1, x.draw(0, 1));
        }
        SoleraHouse one = caskOf(2);
        t.same("one less", 0, one.draw(0, 1));
        t.same("one is left", 1, one.cask(0, 2));
        SoleraHouse both = Check.houseOf("most 5;scale a 1 10;wine a 0 0 8;");
        t.same("1 and 2: the least", 1, both.draw(0, 9));
        t.same("2 alone", 2, both.draw(0, 8));
    }

    private void mostOfAYear() {
        SoleraHouse x = Check.houseOf("angels 0;most 5;scale a 2 20;wine a 0 0 20;wine a 1 0 20;");
        t.same("one above", 2, x.draw(0, 6));
        t.same("just so", 0, x.draw(0, 5));
        t.same("one more", 2, x.draw(0, 1));
        t.same("of another CASK", 0, x.draw(1, 4));
        t.same("two above 4", 2, x.draw(1, 2));
        t.same("and one", 0, x.draw(1, 1));
        t.same("drawn of it", 5, x.cask(1, 4));
        t.same("drawn in all", 10, x.now(4));
        x.years(1);
        t.same("none of it this YEAR", 0, x.cask(1, 4));
        t.same("nor of the first", 0, x.cask(0, 4));
        t.same("again", 0, x.draw(0, 5));
        t.same("drawn so far", 15, x.now(4));
        t.same("tipped is not drawn", 0, x.tip(0, 1, 5));
        t.same("as drawn", 5, x.cask(0, 4));
        SoleraHouse least = Check.houseOf("most 1;scale a 1 20;wine a 0 0 20;");
        t.same("two", 2, least.draw(0, 2));
        t.same("one", 0, least.draw(0, 1));
        SoleraHouse refilled = Check.houseOf("scale a 1 400;");
        refilled.top();
        t.same("400 without 'most'", 0, refilled.draw(0, 400));
        refilled.top();
        t.same("401 of a YEAR", 2, refilled.draw(0, 1));
    }

    private void bottles() {
        SoleraHouse x = caskOf(4, 0, 4);
        t.same("empty at first", 0, x.now(6));
        x.draw(0, 3);
        t.same("of 0", 2, x.bottle(0));
        t.same("of 2", 1, x.bottle(2));
        t.same("refused", 1, x.draw(0, 6));
        t.same("it stays", 3, x.now(6));
        x.years(2);
        t.same("years leave it", 3, x.now(6));
        x.draw(0, 1);
        // 2 and 3 are left: 2/5 and 3/5.
        t.same("the one ahead is away", 0, x.bottle(0));
        t.same("a new one", 1, x.bottle(2));
        t.same("a BOOK that is judged", -1, book(x, 0, "draw a 0 2;"));
        t.same("leaves it", 1, x.now(6));
        t.same("a BOOK that is lived", -1, book(x, 1, "draw a 0 2;draw a 0 1;"));
        t.same("leaves the last one", 1, x.now(6));
    }

    private void runs() {
        for (int next = 0; next <= 7; next++) {
            SoleraHouse x = Check.houseOf("scale a 2 10;scale b 2 10;wine a 0 0 8;wine a 1 0 7;"
                + (next > 3 ? "wine b 0 1 3;wine b 1 1 " + (next - 3) + ";" : next > 0 ? "wine b 0 1 " + next + ";" : ""));
            t.same("5 lack, the next has " + next, next < 5 ? 3 : 0, x.run(0));
            t.same("litres then", next < 5 ? 15 : 20, x.scale(0, 2));
            t.same("litres of the next", next < 5 ? next : next - 5, x.scale(1, 2));
            t.same("acts", next < 5 ? -1 : 0, x.undo());
        }
        SoleraHouse full = Check.houseOf("scale a 1 10;scale b 1 10;wine a 0 0 10;");
        t.same("1 ahead of 3", 1, full.run(0));
        t.same("the last one, empty", 2, full.run(1));
        full.top();
        t.same("1 ahead of 2", 1, full.run(1));
        full.draw(1, 1);
        t.same("a litre lacks in the last", 2, full.run(1));
        SoleraHouse single = Check.houseOf("scale a 1 10;wine a 0 0 9;");
        t.same("one SCALE is the last", 2, single.run(0));
        t.same("none behind it", -1, single.run(1));
        SoleraHouse two = Check.houseOf("scale a 2 10;scale b 1 10;wine a 0 0 10;wine a 1 0 9;wine b 0 1 1;");
        t.same("one of two lacks a litre", 0, two.run(0));
        t.same("both are full", 3, two.now(2));
        t.same("again", 1, two.run(0));
    }

    private void mixes() {
        // SHARES of 3 among 5 and 5: the first gives one more.
        SoleraHouse like = Check.houseOf("scale a 1 10;scale b 2 10;wine a 0 0 7;wine b 0 1 5;wine b 1 2 5;");
        like.run(0);
        t.same("of the first", 2, like.litres(0, 1));
        t.same("of the second", 1, like.litres(0, 2));
        // One litre of each: a PORTION of each CASK, not of both together.
        SoleraHouse each = Check.houseOf("scale a 1 10;scale b 2 10;wine a 0 0 8;"
            + "wine b 0 1 3;wine b 0 2 3;wine b 1 1 3;wine b 1 2 3;");
        each.run(0);
        t.same("the oldest of each", 2, each.litres(0, 1));
        t.same("none of the others", 0, each.litres(0, 2));
        // The mix of 1 and 1 goes CASK by CASK: the first gets the oldest, the second what is left.
        SoleraHouse left = Check.houseOf("scale a 3 10;scale b 2 10;wine a 0 0 9;wine a 1 0 10;wine a 2 0 9;wine b 0 2 1;wine b 1 1 1;");
        left.run(0);
        t.same("the first gets 1", 1, left.litres(0, 1));
        t.same("the full one nothing", 10, left.litres(1, 0));
        t.same("the third gets 2", 1, left.litres(2, 2));
        t.same("and not 1", 0, left.litres(2, 1));
        // The like with VINTAGE 0.
        SoleraHouse first = Check.houseOf("scale a 2 10;scale b 1 10;wine a 0 5 9;wine a 1 5 9;wine b 0 0 1;wine b 0 1 1;");
        first.run(0);
        t.same("the first gets 0", 1, first.litres(0, 0));
        t.same("the second gets 1", 1, first.litres(1, 1));
        t.same("and not 0", 0, first.litres(1, 0));
        // Mix: 4 of 1, 2 of 2. The first lacks 1: 4/6 and 2/6; then 3 and 2 are left, the second lacks 3: 9/5 and 6/5.
        SoleraHouse more = Check.houseOf("scale a 3 10;scale b 1 10;wine a 0 0 9;wine a 1 0 7;wine a 2 0 8;wine b 0 1 4;wine b 0 2 2;");
        more.run(0);
        int[][] want = {{1, 0}, {2, 1}, {1, 1}};
        for (int k = 0; k < 3; k++) {
            t.same("of 1 in " + k, want[k][0], more.litres(k, 1));
            t.same("of 2 in " + k, want[k][1], more.litres(k, 2));
        }
        t.same("nothing is lost", 30, more.now(1));
    }

    private void tops() {
        SoleraHouse none = new SoleraHouse();
        t.same("no SCALES", 1, none.top());
        SoleraHouse x = Check.houseOf("scale a 1 10;scale b 2 10;wine b 0 0 10;wine b 1 0 9;");
        t.same("a litre lacks in one", 0, x.top());
        t.same("of this YEAR", 1, x.litres(2, 10));
        t.same("the full one has none", 0, x.litres(1, 10));
        t.same("another SCALE gets none", 0, x.cask(0, 2));
        t.same("all are full", 1, x.top());
        t.same("one act", 0, x.undo());
        t.same("as it was", 1, x.scale(1, 3));
        SoleraHouse empty = Check.houseOf("scale a 2 400;");
        t.same("empty ones", 0, empty.top());
        t.same("to the brim", 800, empty.now(1));
        SoleraHouse last = Check.houseOf("year 29;scale a 1 10;");
        last.years(10);
        t.same("at YEAR 39", 0, last.top());
        t.same("of 39", 10, last.litres(0, 39));
        t.same("its oldest", 39, last.cask(0, 5));
        t.same("AGE 0", 0, last.age(0, 0));
    }

    private void tips() {
        String two = "scale a 3 10;wine a 0 0 4;wine a 1 1 7;wine a 2 2 10;";
        SoleraHouse x = Check.houseOf(two);
        t.same("not so many and no room: the least", 2, x.tip(0, 1, 5));
        t.same("alike and not so many: the least", 1, x.tip(0, 0, 5));
        t.same("alike and no room", 1, x.tip(1, 1, 4));
        t.same("alike and right", 1, x.tip(0, 0, 1));
        t.same("one more than there is room for", 3, x.tip(0, 1, 4));
        t.same("into a full one", 3, x.tip(0, 2, 1));
        t.same("out of nothing done", -1, x.undo());
        t.same("just the room", 0, x.tip(0, 1, 3));
        t.same("full then", 6, x.now(2));
        t.same("one more than it has", 2, x.tip(0, 1, 2));
        t.same("one is left", 1, x.cask(0, 2));
        t.same("back", 0, x.tip(1, 0, 9));
        t.same("full", 0, x.cask(0, 3));
        t.same("one is left there", 1, x.cask(1, 2));
        t.same("no room for that", 3, x.tip(1, 0, 1));
        SoleraHouse all = Check.houseOf(two);
        t.same("all it has", 0, all.tip(1, 0, 6));
        t.same("and the last", 2, all.tip(1, 0, 2));
        t.same("no room for it", 3, all.tip(1, 0, 1));
        SoleraHouse whole = Check.houseOf("scale a 1 400;scale b 1 400;");
        whole.top();
        t.same("400 litres", 0, whole.tip(1, 0, 400));
        t.same("empty", 2, whole.now(3));
        t.same("full", 1, whole.now(2));
        t.same("of an empty one", 2, whole.tip(1, 0, 1));
        // A PORTION: 3 and 3, of 1 litre the oldest.
        SoleraHouse portion = Check.houseOf("scale a 2 10;wine a 0 3 3;wine a 0 7 3;");
        portion.tip(0, 1, 1);
        t.same("the oldest", 1, portion.litres(1, 3));
        t.same("left of it", 2, portion.litres(0, 3));
        t.same("all of the other", 3, portion.litres(0, 7));
    }

    private void angelsTake(int angels, int litres, int want) {
        SoleraHouse x = Check.houseOf((angels == 2 ? "" : "angels " + angels + ";") + "scale a 1 400;wine a 0 0 " + litres + ";");
        x.years(1);
        t.same(angels + " of 100 of " + litres, want, x.now(5));
        t.same("so many are left", litres - want, x.cask(0, 2));
    }

    private void angels() {
        angelsTake(0, 400, 0);
        angelsTake(1, 99, 0);
        angelsTake(1, 100, 1);
        angelsTake(1, 199, 1);
        angelsTake(1, 200, 2);
        angelsTake(1, 400, 4);
        angelsTake(2, 49, 0);
        angelsTake(2, 50, 1);
        angelsTake(2, 99, 1);
        angelsTake(9, 11, 0);
        angelsTake(9, 12, 1);
        angelsTake(9, 22, 1);
        angelsTake(9, 23, 2);
        angelsTake(9, 400, 36);
        // A PORTION of 1: like ones, the oldest; then of 49 and 50 the other.
        SoleraHouse x = Check.houseOf("angels 1;scale a 1 400;wine a 0 2 50;wine a 0 9 51;");
        x.draw(0, 1);
        t.same("drawn of the greater", 1, x.bottle(9));
        x.years(1);
        t.same("the oldest", 49, x.litres(0, 2));
        t.same("not the other", 50, x.litres(0, 9));
        t.same("the BOTTLE is no matter of theirs", 1, x.now(6));
        // Of each CASK by itself: 2 CASKS of 60 litres at 1 of 100 lose nothing.
        SoleraHouse two = Check.houseOf("angels 1;scale a 2 60;wine a 0 0 60;wine a 1 0 60;");
        two.years(1);
        t.same("each by itself", 0, two.now(5));
        SoleraHouse sum = Check.houseOf("angels 9;scale a 2 20;wine a 0 0 20;wine a 1 0 12;");
        sum.years(2);
        // 20, 19, 18 and 12, 11, 11.
        t.same("so far", 3, sum.now(5));
    }

    private void yearsTo39() {
        SoleraHouse x = Check.houseOf("year 0;scale a 1 10;");
        t.same("39 YEARS", 39, x.years(39));
        t.same("YEAR 39", 39, x.now(0));
        SoleraHouse one = Check.houseOf("year 1;");
        t.same("38 of 39", 38, one.years(39));
        SoleraHouse ten = new SoleraHouse();
        t.same("28", 28, ten.years(28));
        t.same("YEAR 38", 38, ten.now(0));
        t.same("one of two", 1, ten.years(2));
        t.same("YEAR 39 stays", 0, ten.years(1));
        t.same("and stays", 0, ten.years(39));
        t.same("undo", 1, ten.undo());
        t.same("YEAR 38 again", 38, ten.now(0));
        t.same("just one", 1, ten.years(1));
        SoleraHouse late = Check.houseOf("year 29;");
        t.same("ten of ten", 10, late.years(10));
        late.undo();
        t.same("ten of eleven", 10, late.years(11));
    }

    private void yearStays() {
        SoleraHouse x = Check.houseOf("year 29;angels 9;most 5;scale a 1 100;wine a 0 0 100;");
        x.years(10);
        int had = x.now(1);
        int taken = x.now(5);
        x.draw(0, 5);
        t.same("it stays", 0, x.years(5));
        t.same("drawn() too", 0, x.drawn(5, 1));
        t.same("a BOOK's years are WRONG", 0, book(x, 1, "years 1;"));
        t.same("why", 41, x.told(0));
        t.same("angels take nothing", taken, x.now(5));
        t.same("litres", had - 5, x.now(1));
        t.same("still drawn this YEAR", 5, x.cask(0, 4));
        t.same("so no more", 2, x.draw(0, 1));
        t.same("the BOTTLE is there", 5, x.now(6));
        t.same("the draw is the latest act", 1, x.undo());
        t.same("litres again", had, x.now(1));
        t.same("and then the years", 0, x.undo());
        t.same("YEAR 29", 29, x.now(0));
    }

    private void eightActs() {
        for (int acts = 0; acts <= 20; acts++) {
            SoleraHouse x = caskOf(100);
            for (int i = 0; i < acts; i++) {
                x.draw(0, 1);
            }
            int kept = Math.min(acts, 8);
            for (int i = kept - 1; i >= 0; i--) {
                t.same("of " + acts + " acts", i, x.undo());
                t.same("litres", 100 - acts + kept - i, x.cask(0, 2));
            }
            t.same("none is", -1, x.undo());
            t.same("and nothing changes", 100 - acts + kept, x.cask(0, 2));
        }
        SoleraHouse y = caskOf(100);
        for (int i = 1; i <= 12; i++) {
            y.draw(0, i);
        }
        t.same("undo 12", 7, y.undo());
        t.same("undo 11", 6, y.undo());
        t.same("undo 10", 5, y.undo());
        t.same("45 are drawn", 55, y.cask(0, 2));
        y.draw(0, 2);
        y.years(1);
        t.same("seven are kept: undo the YEAR", 6, y.undo());
        t.same("undo the new one", 5, y.undo());
        for (int i = 9; i >= 5; i--) {
            t.same("undo " + i, i - 5, y.undo());
        }
        t.same("10 stay drawn", 90, y.cask(0, 2));
        t.same("no more", -1, y.undo());
    }

    private void noActs() {
        SoleraHouse x = Check.houseOf("scale a 2 10;scale b 1 10;wine a 0 0 10;wine a 1 0 10;wine b 0 0 10;");
        x.draw(0, 11);
        x.run(0);
        x.run(1);
        x.top();
        x.tip(0, 1, 1);
        x.tip(0, 0, 1);
        x.years(0);
        x.drawn(0, 1);
        book(x, 1, "");
        book(x, 1, "top;");
        book(x, 0, "years 5;");
        book(x, 1, "years 5");
        sentence(x, "full");
        house(x, "foo");
        x.image(0);
        x.plan(5, 5);
        x.odds(0, 5, 5);
        t.same("none of these is undone", -1, x.undo());
        t.same("some LINE was lived", 1, book(x, 1, "years 5;top;"));
        t.same("that is one", 0, x.undo());
    }

    private void undoneWhole() {
        SoleraHouse x = Check.houseOf("angels 9;scale a 2 20;scale b 1 30;wine a 0 0 20;wine a 1 2 12;wine b 0 9 30;");
        x.draw(0, 4);
        x.years(3);
        int[] was = {x.now(0), x.now(1), x.now(4), x.now(5), x.now(6), x.litres(0, 0), x.litres(1, 2), x.litres(2, 9), x.cask(0, 4)};
        sentence(x, "drawn > 0");
        t.same("a BOOK of all", -1, book(x, 1, "draw a 0 2;run a;tip a 0 b 0 1;top;years 2;"));
        t.same("undone as one", 2, x.undo());
        int[] is = {x.now(0), x.now(1), x.now(4), x.now(5), x.now(6), x.litres(0, 0), x.litres(1, 2), x.litres(2, 9), x.cask(0, 4)};
        for (int i = 0; i < was.length; i++) {
            t.same("as it was, " + i, was[i], is[i]);
        }
        t.same("the SENTENCE stays", 0, x.said(-1));
        t.same("the BOOK is told still", 15, x.told(2));
        t.same("the years", 1, x.undo());
        t.same("drawn this YEAR again", 4, x.cask(0, 4));
        t.same("said of it", 1, x.said(-1));
        t.same("the draw", 0, x.undo());
        t.same("no BOTTLE", 0, x.now(6));
        t.same("none ever drawn", 0, x.now(4));
    }

    private void wrong(SoleraHouse x, String text, int line, int why) {
        for (int lives = 0; lives < 2; lives++) {
            t.same("book(" + lives + ") of '" + text + "'", line, book(x, lives, text));
            t.same("why '" + text + "'", why, x.told(0));
            t.same("LINES ahead in '" + text + "'", line, x.told(1));
        }
        if (line > 0) {
            x.undo();
        }
    }

    private void bookWhy() {
        SoleraHouse x = Check.houseOf("angels 0;most 6;scale a 2 10;scale b 1 10;scale c 1 10;wine a 0 0 7;wine a 1 1 10;wine b 0 2 2;");
        wrong(x, "draw a 0 8;", 0, 1);
        wrong(x, "draw a 0 7;", 0, 2);
        wrong(x, "draw a 0 6;draw a 0 1;", 1, 2);
        wrong(x, "draw a 2 1;", 0, 9);
        wrong(x, "draw b 1 400;", 0, 9);
        wrong(x, "draw b 3 1;", 0, 9);
        wrong(x, "tip a 1 a 0 3;run a;", 1, 13);
        wrong(x, "run c;", 0, 12);
        wrong(x, "top;run c;", 1, 11);
        wrong(x, "run a;", 0, 13);
        wrong(x, "run b;", 0, 13);
        wrong(x, "top;run b;run a;run a;", 3, 11);
        wrong(x, "top;top;", 1, 21);
        wrong(x, "tip a 0 a 0 400;", 0, 31);
        wrong(x, "tip a 0 a 1 8;", 0, 32);
        wrong(x, "tip a 0 a 1 1;", 0, 33);
        wrong(x, "tip a 2 a 0 1;", 0, 39);
        wrong(x, "tip a 0 b 1 1;", 0, 39);
        wrong(x, "tip a 2 b 1 400;", 0, 39);
        wrong(x, "tip a 2 a 2 400;", 0, 39);
        wrong(x, "years 29;years 1;", 1, 41);
        wrong(x, "years 30;", 0, 41);
        t.same("the YEAR is as it was", 10, x.now(0));
        t.same("nothing is left to undo", -1, x.undo());
    }

    private void bookYears() {
        SoleraHouse x = new SoleraHouse();
        t.same("29 are left", -1, book(x, 0, "years 29;"));
        t.same("YEAR 39 then", 39, x.told(2));
        t.same("30 are not", 0, book(x, 1, "years 30;"));
        t.same("none is lived", 10, x.now(0));
        t.same("nor told", 10, x.told(2));
        t.same("28 and 2", 1, book(x, 1, "years 28;years 2;"));
        t.same("28 are lived", 38, x.now(0));
        t.same("the last", -1, book(x, 1, "years 1;"));
        t.same("none more", 0, book(x, 1, "years 1;"));
        SoleraHouse first = Check.houseOf("year 0;");
        t.same("39", -1, book(first, 1, "years 39;"));
    }

    private void bookTold() {
        SoleraHouse x = Check.houseOf("angels 9;scale a 1 100;wine a 0 0 100;");
        t.same("right", -1, book(x, 0, "draw a 0 10;years 1;top;"));
        int[] right = {0, 3, 11, 100};
        for (int i = 0; i < 4; i++) {
            t.same("told(" + i + ")", right[i], x.told(i));
        }
        t.same("WRONG", 2, book(x, 0, "draw a 0 10;years 1;draw a 0 83;top;"));
        // 90 litres lose 8.
        int[] wrong = {1, 2, 11, 82};
        for (int i = 0; i < 4; i++) {
            t.same("told(" + i + ")", wrong[i], x.told(i));
        }
        t.same("a FAULT", -6, book(x, 1, "top;foo;"));
        t.same("leaves what was told", 2, x.told(1));
        t.same("another lives", -1000, x.book(2));
        t.same("does, too", 82, x.told(3));
        x.years(5);
        t.same("what was told is of then", 11, x.told(2));
        StringBuilder forty = new StringBuilder();
        for (int i = 0; i < 39; i++) {
            forty.append(i % 2 == 0 ? "draw a 0 1;" : "top;");
        }
        SoleraHouse y = Check.houseOf("angels 0;scale a 1 10;wine a 0 0 10;");
        t.same("39 LINES", -1, book(y, 0, forty.toString()));
        t.same("39 of them", 39, y.told(1));
        t.same("40 LINES", -1, book(y, 0, forty + "top;"));
        t.same("40 of them", 40, y.told(1));
        t.same("the 40th is WRONG", 39, book(y, 0, forty + "years 30;"));
        t.same("39 are not", 39, y.told(1));
    }

    private void bookLived() {
        String text = "draw a 0 3;top;years 4;draw a 0 11;years 1;";
        SoleraHouse x = Check.houseOf("angels 0;scale a 1 10;wine a 0 0 10;");
        t.same("judged", 3, book(x, 0, text));
        t.same("no act", -1, x.undo());
        t.same("all as it was", 10, x.litres(0, 0));
        t.same("lived", 3, book(x, 1, text));
        t.same("as far as it is not WRONG", 14, x.now(0));
        t.same("7 of 0", 7, x.litres(0, 0));
        t.same("3 of 10", 3, x.litres(0, 10));
        t.same("in the BOTTLE", 3, x.now(6));
        t.same("one act", 0, x.undo());
        t.same("10 of 0", 10, x.litres(0, 0));
    }

    private void newHouse() {
        SoleraHouse x = Check.houseOf("year 20;angels 9;most 50;scale a 4 100;scale b 1 100;wine a 0 0 100;wine b 0 3 100;");
        x.draw(0, 50);
        x.years(4);
        x.draw(0, 10);
        sentence(x, "full");
        // Tried and refused ahead of the HOUSE: nothing of that may be left in it either.
        t.same("refused", 1, x.draw(0, 400));
        t.same("another HOUSE", 1, house(x, "scale a 1 10;"));
        int[] now = {10, 0, 0, 1, 0, 0, 0};
        for (int i = 0; i < 7; i++) {
            t.same("now(" + i + ")", now[i], x.now(i));
        }
        for (int v = 0; v < 40; v++) {
            t.same("BOTTLE of " + v, 0, x.bottle(v));
            t.same("litres of " + v, 0, x.litres(0, v));
        }
        t.same("nothing DRAWN", 0, x.cask(0, 4));
        t.same("no SENTENCE", -1, x.said(-1));
        t.same("nothing of the old one is undone", -1, x.undo());
        int[] count = {1, 1, 2, 400, 10, 0};
        for (int i = 0; i < 6; i++) {
            t.same("count(" + i + ")", count[i], x.count(i));
        }
    }

    private void faultLeavesHouse() {
        SoleraHouse x = Check.houseOf("year 20;scale a 1 100;wine a 0 3 100;");
        x.draw(0, 50);
        x.years(4);
        sentence(x, "litres < 50");
        t.same("a FAULT at the very end", -33, house(x, "year 7;scale b 4 10;wine b 0 1 1"));
        t.same("the YEAR", 24, x.now(0));
        t.same("the SCALE", 1, x.count(1));
        t.same("its litres", 49, x.cask(0, 2));
        t.same("the BOTTLE", 50, x.bottle(3));
        t.same("the SENTENCE", 1, x.said(-1));
        t.same("the YEAR at first", 20, x.count(4));
        t.same("the acts", 1, x.undo());
        t.same("YEAR 20", 20, x.now(0));
    }

    private void images() {
        SoleraHouse x = Check.houseOf("year 20;angels 9;most 60;scale a 1 100;wine a 0 3 100;");
        t.truth("nothing in 0", false, x.restore(0));
        x.draw(0, 50);
        sentence(x, "full");
        t.truth("image 0", true, x.image(0));
        t.truth("nothing in 1", false, x.restore(1));
        t.same("an image leaves what can be undone", 0, x.undo());
        sentence(x, "not full");
        t.truth("image 1", true, x.image(1));
        house(x, "scale b 2 10;");
        t.truth("restore 0", true, x.restore(0));
        t.same("litres", 50, x.cask(0, 2));
        t.same("drawn this YEAR", 50, x.cask(0, 4));
        t.same("so most is near", 2, x.draw(0, 11));
        t.same("the BOTTLE", 50, x.bottle(3));
        t.same("the SENTENCE of then", 0, x.said(-1));
        t.same("'most'", 60, x.count(3));
        t.same("nothing can be undone", -1, x.undo());
        t.same("what is done now can be", 0, x.draw(0, 10));
        t.same("undone", 0, x.undo());
        t.same("up to the image", 50, x.cask(0, 2));
        x.years(1);
        t.truth("restore 1", true, x.restore(1));
        t.same("full", 100, x.cask(0, 2));
        t.same("YEAR 20", 20, x.now(0));
        t.same("not full", 0, x.said(-1));
        t.same("angels took nothing", 0, x.now(5));
        x.draw(0, 1);
        t.same("said of it now", 1, x.said(-1));
        t.truth("0 is kept still", true, x.restore(0));
        t.same("as it was", 50, x.cask(0, 2));
        x.draw(0, 1);
        x.image(0);
        x.draw(0, 1);
        x.restore(0);
        t.same("the later image is kept alone", 49, x.cask(0, 2));
        t.truth("a FAULT's kind stays", true, faultStays(x));
        SoleraHouse acts = caskOf(100);
        acts.draw(0, 1);
        acts.image(0);
        acts.draw(0, 2);
        acts.years(1);
        t.truth("restore", true, acts.restore(0));
        t.same("nothing can be undone, not even what the image has", -1, acts.undo());
        t.same("99", 99, acts.cask(0, 2));
        acts.draw(0, 3);
        t.same("a later act can", 0, acts.undo());
        t.same("and no more", -1, acts.undo());
        t.same("99 again", 99, acts.cask(0, 2));
        acts.draw(0, 4);
        t.truth("no such image", false, acts.restore(1));
        t.same("leaves what can be undone", 0, acts.undo());
    }

    private boolean faultStays(SoleraHouse x) {
        house(x, "year 30;");
        x.restore(1);
        return x.fault() == 2;
    }

    private void vintages() {
        SoleraHouse x = Check.houseOf("year 29;angels 0;scale a 3 10;wine a 0 0 1;wine a 0 29 1;wine a 1 29 2;");
        t.same("oldest 0", 0, x.cask(0, 5));
        t.same("youngest 29", 29, x.cask(0, 6));
        t.same("one alone is both", 29, x.cask(1, 5));
        t.same("and both", 29, x.cask(1, 6));
        t.same("empty: no oldest", -1, x.cask(2, 5));
        t.same("empty: no youngest", -1, x.cask(2, 6));
        x.years(10);
        x.top();
        t.same("youngest 39", 39, x.cask(0, 6));
        t.same("where", 7, x.where(39));
        t.same("where 29", 3, x.where(29));
        t.same("where 0", 1, x.where(0));
        t.same("AGE 39 at most", 1, x.older(39));
        t.same("AGE 10", 4, x.older(10));
        t.same("AGE 11", 1, x.older(11));
        t.same("all", 30, x.older(0));
        t.same("AGE 1", 4, x.older(1));
    }
}
