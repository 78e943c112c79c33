/** The boundaries of what is reckoned: BLEND, RIPE, PLAN, WHICH and ASK, STORE, fractions, TAGS, YEARS by a seed. */
public final class ForecastBoundsTest {
    private static final int MIN = Integer.MIN_VALUE;
    private static final int MAX = Integer.MAX_VALUE;

    private final Check t = new Check();

    public static void main(String[] args) {
        ForecastBoundsTest all = new ForecastBoundsTest();
        all.likeBlends();
        all.nearBlends();
        all.blendLitres();
        all.blendPortions();
        all.blendKept();
        all.ripeBy39();
        all.ripeWithAngels();
        all.planBy39();
        all.planDraws();
        all.planEmpty();
        all.planInOrder();
        all.whichPairs();
        all.whichLitres();
        all.likeAsks();
        all.askOfThen();
        all.likeStores();
        all.storeLitres();
        all.storeKept();
        all.fractions();
        all.tags();
        all.seeds();
        all.seedsTo39();
        all.odds();
        all.t.close("ForecastBoundsTest");
    }

    private void blendIs(SoleraHouse x, int n, int a, int off, int... litres) {
        t.same("blend(0, " + n + ", " + a + ")", off, x.blend(0, n, a));
        for (int i = 0; i < litres.length; i++) {
            t.same("blendAt(" + i + ") of " + n + ", " + a, litres[i], x.blendAt(i));
        }
        t.same("no such CASK", -1, x.blendAt(litres.length));
        t.same("none ahead of the first", -1, x.blendAt(-1));
    }

    private void likeBlends() {
        // All of AGE 5, so every BLEND is like: the fewest litres CASK by CASK.
        SoleraHouse x = Check.houseOf("scale a 3 10;wine a 0 5 10;wine a 1 5 2;wine a 2 5 1;");
        blendIs(x, 1, 5, 0, 0, 0, 1);
        blendIs(x, 2, 5, 0, 0, 1, 1);
        blendIs(x, 3, 5, 0, 0, 2, 1);
        blendIs(x, 4, 5, 0, 1, 2, 1);
        blendIs(x, 13, 5, 0, 10, 2, 1);
        blendIs(x, 2, 4, 2, 0, 1, 1);
        blendIs(x, 2, 6, 2, 0, 1, 1);
    }

    private void nearBlends() {
        // AGE 4 and AGE 6: as near below as above.
        SoleraHouse x = Check.houseOf("scale a 2 20;wine a 0 6 10;wine a 1 4 10;");
        blendIs(x, 1, 5, 1, 0, 1);
        blendIs(x, 2, 5, 0, 1, 1);
        blendIs(x, 3, 5, 1, 1, 2);
        blendIs(x, 1, 4, 0, 1, 0);
        blendIs(x, 1, 6, 0, 0, 1);
        blendIs(x, 2, 4, 0, 2, 0);
        blendIs(x, 20, 5, 0, 10, 10);
        // AGE 6 and AGE 4: the fewest of the first is the younger one then.
        SoleraHouse y = Check.houseOf("scale a 2 20;wine a 0 4 10;wine a 1 6 10;");
        blendIs(y, 1, 5, 1, 0, 1);
        blendIs(y, 3, 5, 1, 1, 2);
        blendIs(y, 1, 0, 4, 0, 1);
        blendIs(y, 1, 39, 33, 1, 0);
        blendIs(y, 11, 39, 11 * 39 - 64, 10, 1);
    }

    private void blendLitres() {
        SoleraHouse x = Check.houseOf("scale a 4 10;wine a 0 10 5;wine a 1 10 5;wine a 2 10 5;wine a 3 10 4;");
        t.same("20 of 19", -1, x.blend(0, 20, 0));
        blendIs(x, 19, 0, 0, 5, 5, 5, 4);
        blendIs(x, 18, 0, 0, 4, 5, 5, 4);
        t.same("a litre more", 0, x.tip(0, 3, 1));
        blendIs(x, 19, 0, 0, 4, 5, 5, 5);
        SoleraHouse more = Check.houseOf("scale a 4 10;wine a 0 10 5;wine a 1 10 5;wine a 2 10 5;wine a 3 10 6;");
        blendIs(more, 20, 0, 0, 4, 5, 5, 6);
        t.same("21 are not told", -1, more.blend(0, 21, 0));
        t.same("0 neither", -1, more.blend(0, 0, 0));
        blendIs(more, 20, 39, 780, 4, 5, 5, 6);
        SoleraHouse one = Check.houseOf("scale a 2 10;wine a 1 3 1;");
        blendIs(one, 1, 7, 0, 0, 1);
        t.same("two of one", -1, one.blend(0, 2, 7));
        SoleraHouse none = Check.houseOf("scale a 1 10;scale b 1 10;wine b 0 3 1;");
        t.same("of an empty SCALE", -1, none.blend(0, 1, 0));
        t.same("of another one", 0, none.blend(1, 1, 7));
    }

    private void blendPortions() {
        // CASK 0: a litre of AGE 10 and one of AGE 0: of 1 litre the oldest. CASK 1: 2 of AGE 5.
        SoleraHouse x = Check.houseOf("scale a 2 10;wine a 0 0 1;wine a 0 10 1;wine a 1 5 2;");
        blendIs(x, 1, 5, 0, 0, 1);
        blendIs(x, 1, 10, 0, 1, 0);
        blendIs(x, 1, 0, 5, 0, 1);
        blendIs(x, 2, 5, 0, 0, 2);
        blendIs(x, 3, 5, 0, 2, 1);
        blendIs(x, 3, 7, 1, 1, 2);
        blendIs(x, 4, 5, 0, 2, 2);
    }

    private void blendKept() {
        SoleraHouse x = Check.houseOf("scale a 2 20;scale b 3 20;wine a 0 6 10;wine a 1 4 10;wine b 0 0 1;");
        t.same("ahead of any", -1, x.blendAt(0));
        t.same("NONE", -1, x.blend(0, 21, 4));
        t.same("is none", -1, x.blendAt(0));
        blendIs(x, 2, 4, 0, 2, 0);
        t.same("not so many litres", -1, x.blend(1, 2, 4));
        t.same("leaves it", 2, x.blendAt(0));
        t.same("two CASKS still", -1, x.blendAt(2));
        x.draw(0, 10);
        t.same("as it was then", 2, x.blendAt(0));
        Check.put(x, "");
        x.house();
        t.same("and in another HOUSE", 2, x.blendAt(0));
        t.same("two CASKS then", 0, x.blendAt(1));
    }

    private void ripeBy39() {
        SoleraHouse x = Check.houseOf("angels 0;scale a 2 10;wine a 0 10 10;");
        t.same("it is", 0, x.ripe(0, 0));
        t.same("in a YEAR", 1, x.ripe(0, 1));
        t.same("by YEAR 39", 29, x.ripe(0, 29));
        t.same("not by YEAR 39", -1, x.ripe(0, 30));
        t.same("greatest a", -1, x.ripe(0, 39));
        t.same("an empty one", -1, x.ripe(1, 0));
        t.same("an empty one later", -1, x.ripe(1, 5));
        x.years(28);
        t.same("one YEAR is left", 1, x.ripe(0, 29));
        t.same("not two", -1, x.ripe(0, 30));
        x.years(1);
        t.same("YEAR 39", 0, x.ripe(0, 29));
        t.same("none is left", -1, x.ripe(0, 30));
        SoleraHouse old = Check.houseOf("year 29;angels 0;scale a 1 10;wine a 0 0 10;");
        t.same("AGE 29", 0, old.ripe(0, 29));
        t.same("AGE 39", 10, old.ripe(0, 39));
        SoleraHouse parts = Check.houseOf("angels 0;scale a 3 10;wine a 0 10 9;wine a 0 9 1;wine a 1 10 1;wine a 1 9 9;wine a 2 9 10;");
        t.same("a tenth of a YEAR", 1, parts.ripe(0, 1));
        t.same("nine tenths", 1, parts.ripe(1, 1));
        t.same("one YEAR", 0, parts.ripe(2, 1));
        t.same("29 and a tenth", 29, parts.ripe(0, 29));
        t.same("29 and nine tenths", -1, parts.ripe(1, 30));
        t.same("30", 29, parts.ripe(2, 30));
    }

    private void ripeWithAngels() {
        // 6 of 0 and 6 of 10: angels take one of 0, then 11 litres have 61, 72, .. years, and lose no more.
        SoleraHouse x = Check.houseOf("angels 9;scale a 1 20;wine a 0 0 6;wine a 0 10 6;");
        t.same("AGE 5", 0, x.ripe(0, 5));
        t.same("6: 61 of 11 is less", 2, x.ripe(0, 6));
        SoleraHouse y = Check.houseOf("angels 0;scale a 1 20;wine a 0 0 6;wine a 0 10 6;");
        t.same("6 without angels", 1, y.ripe(0, 6));
        t.same("all as it was", 12, x.now(1));
        t.same("no angels yet", 0, x.now(5));
        t.same("YEAR 10", 10, x.now(0));
    }

    private void planBy39() {
        SoleraHouse x = Check.houseOf("angels 0;scale a 1 10;wine a 0 10 10;");
        t.same("it is", 0, x.plan(0, 0));
        t.same("one", 1, x.plan(0, 1));
        t.same("by YEAR 39", 29, x.plan(0, 29));
        t.same("not by YEAR 39", -1, x.plan(0, 30));
        x.years(28);
        t.same("one YEAR is left", 1, x.plan(0, 29));
        x.years(1);
        t.same("YEAR 39", 0, x.plan(0, 29));
        t.same("none is left", -1, x.plan(0, 30));
        t.same("nothing is drawn at YEAR 39", 0, x.plan(400, 29));
        SoleraHouse parts = Check.houseOf("angels 0;scale a 2 10;wine a 0 0 10;wine a 1 1 10;");
        t.same("9 1/2 of all wine", 0, parts.plan(0, 9));
        t.same("is not 10", 1, parts.plan(0, 10));
    }

    private void planDraws() {
        SoleraHouse x = Check.houseOf("most 1;angels 0;scale a 1 10;wine a 0 10 10;");
        t.same("all is drawn, 'most' no matter", -1, x.plan(400, 2));
        t.same("all it has", -1, x.plan(10, 2));
        t.same("a YEAR old", 1, x.plan(400, 1));
        t.same("nothing drawn", 2, x.plan(0, 2));
        // One litre a YEAR: 9 of 10, 1 of 11: 18 + 1 in YEAR 12, 8 of 10: 24 + 2 + 1 in YEAR 13.
        t.same("one litre", 3, x.plan(1, 2));
        t.same("n 400 is as told", 0, x.plan(400, 0));
        t.same("n 401 is not", -1, x.plan(401, 0));
        t.same("n -1 is not", -1, x.plan(-1, 0));
        // One that has less gives all it has; 13 of AGE 11 and 7 of 1 are 7 1/2, a YEAR more each YEAR.
        SoleraHouse y = Check.houseOf("angels 0;scale a 2 10;wine a 0 0 3;wine a 1 0 10;");
        t.same("AGE 10", 0, y.plan(4, 10));
        t.same("4 of each, 3 of the first", -1, y.plan(4, 11));
        t.same("topped alone", 5, y.plan(0, 11));
    }

    private void planEmpty() {
        SoleraHouse never = Check.houseOf("scale a 4 400;scale b 1 10;");
        t.same("never filled", -1, never.plan(0, 0));
        SoleraHouse x = Check.houseOf("scale a 1 10;scale b 1 10;wine a 0 10 10;");
        t.same("it is", 0, x.plan(400, 0));
        // Emptied in YEAR 10, filled from b in YEAR 11 with wine of 10: two years old in 12.
        t.same("while it is empty it is not", 2, x.plan(400, 1));
        t.same("two years old", 2, x.plan(400, 2));
        t.same("never more", -1, x.plan(400, 3));
        SoleraHouse litre = Check.houseOf("scale a 2 10;scale b 1 10;wine a 1 4 1;");
        t.same("a litre is enough", 0, litre.plan(0, 6));
        SoleraHouse empty = Check.houseOf("scale a 1 10;");
        t.same("empty now, topped", 1, empty.plan(0, 0));
        t.same("and a YEAR old then", 1, empty.plan(0, 1));
        SoleraHouse at39 = Check.houseOf("year 29;scale a 1 10;");
        at39.years(10);
        t.same("empty in YEAR 39", -1, at39.plan(0, 0));
        t.same("no SCALES", -1, new SoleraHouse().plan(0, 0));
    }

    private void planInOrder() {
        SoleraHouse x = Check.houseOf("angels 0;scale a 1 10;scale b 1 10;scale c 1 10;wine a 0 10 10;wine b 0 5 10;wine c 0 0 10;");
        t.same("b's wine in a YEAR", 1, x.plan(10, 6));
        t.same("c's in two", 2, x.plan(10, 7));
        t.same("12 years old", 2, x.plan(10, 12));
        t.same("then this YEAR's", -1, x.plan(10, 13));
        // Angels come behind the work: a full CASK loses 9, and is topped in the YEAR behind only, so none is of AGE 0 in between.
        SoleraHouse y = Check.houseOf("angels 9;scale a 1 100;wine a 0 0 100;");
        t.same("AGE 11 of 91 in a YEAR", 1, y.plan(0, 11));
        // Topped with 9 of 11, of which angels take 1, and 8 of 0: 83 litres of 12 years, 8 of 1.
        t.truth("AGE 12 not in two", false, y.plan(0, 12) == 2);
    }

    private int which(SoleraHouse x, int... bytes) {
        StringBuilder b = new StringBuilder();
        for (int one : bytes) {
            b.append((char) one);
        }
        Check.put(x, b.toString());
        return x.which();
    }

    private static int[] pairs(int many, int vintage, int litres) {
        int[] all = new int[2 * many];
        for (int i = 0; i < many; i++) {
            all[2 * i] = vintage;
            all[2 * i + 1] = litres;
        }
        return all;
    }

    private void whichPairs() {
        SoleraHouse x = Check.houseOf("scale a 1 400;wine a 0 3 400;");
        t.same("no pair", -1, which(x));
        t.same("half a pair", -1, which(x, 3));
        t.same("1 pair", 1, which(x, 3, 1));
        t.same("1 1/2", -1, which(x, 3, 1, 3));
        t.same("19 pairs", 1, which(x, pairs(19, 3, 1)));
        t.same("20 pairs", 1, which(x, pairs(20, 3, 1)));
        t.same("20 1/2", -1, which(x, (new String(new char[41]).replace('\0', (char) 3)).chars().toArray()));
        t.same("21 pairs", -1, which(x, pairs(21, 3, 1)));
        t.same("21 pairs, one of nothing", -1, which(x, pairs(21, 3, 0)));
        t.same("VINTAGE 39", 0, which(x, 39, 1));
        t.same("VINTAGE 40", -1, which(x, 40, 1));
        t.same("VINTAGE 0", 0, which(x, 0, 1));
        t.same("40 with no litres", -1, which(x, 40, 0, 3, 1));
        t.same("40 in the last pair", -1, which(x, 3, 1, 40, 1));
        t.same("255", -1, which(x, 255, 1));
        t.same("no litres", -1, which(x, 3, 0));
        t.same("no litres of 20", -1, which(x, pairs(20, 3, 0)));
        t.same("no litres of one", 1, which(x, 3, 0, 3, 1));
        t.same("no litres of another", 1, which(x, 5, 0, 3, 1));
        t.same("each empties the tape", 0, x.count(5));
    }

    private void whichLitres() {
        SoleraHouse x = Check.houseOf("scale a 2 400;wine a 0 3 400;wine a 1 3 5;");
        t.same("255 litres", 1, which(x, 3, 255));
        t.same("told twice: 399", 1, which(x, 3, 255, 3, 144));
        t.same("told twice: 400", 1, which(x, 3, 255, 3, 145));
        t.same("401", 0, which(x, 3, 255, 3, 146));
        t.same("5100", 0, which(x, pairs(20, 3, 255)));
        t.same("5", 3, which(x, 3, 5));
        t.same("6: one has not so many", 1, which(x, 3, 6));
        t.same("4", 3, which(x, 3, 4));
        // 3, 3 and 3: of 4 litres 2, 1 and 1.
        SoleraHouse y = Check.houseOf("scale a 2 20;wine a 0 1 3;wine a 0 2 3;wine a 0 4 3;wine a 1 2 9;");
        t.same("just so", 1, which(y, 4, 1, 1, 2, 2, 1));
        t.same("not the like", 0, which(y, 4, 2, 1, 1, 2, 1));
        t.same("told in pieces", 1, which(y, 1, 1, 2, 1, 4, 1, 1, 1));
        t.same("all nine", 1, which(y, 1, 3, 2, 3, 4, 3));
        t.same("ten", 0, which(y, 1, 4, 2, 3, 4, 3));
        t.same("a litre of the oldest", 1, which(y, 1, 1));
        t.same("a litre of 2", 2, which(y, 2, 1));
    }

    private void likeAsks() {
        SoleraHouse x = Check.houseOf("scale a 4 200;wine a 0 0 100;wine a 1 0 100;wine a 2 0 100;wine a 3 0 100;");
        t.same("all alike", 15, which(x, 0, 1));
        t.same("the first VINTAGE", 0, x.ask());
        // By 1 three may be left, by 2 two, by 3 two: the first of the like ones.
        String four = "scale a 4 200;wine a 0 0 100;wine a 1 0 100;wine a 2 0 100;wine a 3 0 100;wine a 3 1 1;"
            + "wine a 2 2 1;wine a 3 2 1;wine a 1 3 1;wine a 2 3 2;wine a 3 3 2;";
        SoleraHouse y = Check.houseOf(four);
        t.same("four", 15, which(y, 0, 1));
        t.same("the first that leaves two", 2, y.ask());
        // By 4 one is left of any answer.
        SoleraHouse z = Check.houseOf(four + "wine a 1 4 1;wine a 2 4 2;wine a 3 4 3;");
        t.same("four", 15, which(z, 0, 1));
        t.same("4 leaves one", 4, z.ask());
        StringBuilder twenty = new StringBuilder();
        for (String name : new String[] {"a", "b", "c", "d", "e"}) {
            twenty.append("scale ").append(name).append(" 4 50;");
            for (int i = 0; i < 4; i++) {
                twenty.append("wine ").append(name).append(' ').append(i).append(" 0 40;");
            }
        }
        SoleraHouse great = Check.houseOf(twenty.toString());
        t.same("twenty", 0xfffff, which(great, 0, 1));
        t.same("all alike", 0, great.ask());
        SoleraHouse but = Check.houseOf(twenty + "wine e 3 5 1;");
        t.same("twenty", 0xfffff, which(but, 0, 1));
        t.same("5 leaves nineteen", 5, but.ask());
        SoleraHouse last = Check.houseOf("year 29;angels 0;scale a 2 100;scale b 1 10;wine a 0 0 50;wine a 1 0 50;");
        last.years(10);
        last.top();
        last.tip(2, 0, 1);
        t.same("two", 3, which(last, 0, 1));
        t.same("only 39 tells them apart", 39, last.ask());
        t.same("one alone", 4, which(last, 39, 1));
        t.same("is told by any", 0, last.ask());
    }

    private void askOfThen() {
        SoleraHouse x = Check.houseOf("scale a 2 200;wine a 0 0 100;wine a 1 0 100;wine a 1 7 1;");
        t.same("ahead of any", -1, x.ask());
        t.same("none", 0, which(x, 5, 1));
        t.same("still ahead of any", -1, x.ask());
        t.same("NONE", -1, which(x, 5));
        t.same("still", -1, x.ask());
        t.same("two", 3, which(x, 0, 1));
        x.tip(1, 0, 101);
        x.draw(0, 1);
        t.same("by what was so then", 7, x.ask());
        t.same("NONE leaves it", -1, which(x, 5));
        t.same("7", 7, x.ask());
        t.same("none leaves it", 0, which(x, 5, 1));
        t.same("7", 7, x.ask());
        Check.put(x, "");
        x.house();
        t.same("in another HOUSE, too", 7, x.ask());
    }

    private void storeIs(SoleraHouse x, int n, int a, int casks, int bits) {
        t.same("store(" + n + ", " + a + ")", casks, x.store(n, a));
        t.same("stored() of " + n + ", " + a, bits, x.stored());
    }

    private void likeStores() {
        SoleraHouse x = Check.houseOf("scale a 4 10;wine a 0 0 5;wine a 1 0 5;wine a 2 0 5;wine a 3 0 5;");
        storeIs(x, 1, 0, 1, 1);
        storeIs(x, 5, 0, 1, 1);
        storeIs(x, 6, 0, 2, 3);
        storeIs(x, 10, 0, 2, 3);
        storeIs(x, 11, 0, 3, 7);
        storeIs(x, 15, 10, 3, 7);
        storeIs(x, 16, 10, 4, 15);
        storeIs(x, 20, 10, 4, 15);
        t.same("21", -1, x.store(21, 0));
        t.same("the latest stays", 15, x.stored());
        SoleraHouse y = Check.houseOf("scale a 4 10;wine a 0 0 4;wine a 1 0 5;wine a 2 0 5;wine a 3 0 6;");
        storeIs(y, 4, 0, 1, 1);
        storeIs(y, 5, 0, 1, 2);
        storeIs(y, 6, 0, 1, 8);
        storeIs(y, 9, 0, 2, 3);
        storeIs(y, 10, 0, 2, 6);
        storeIs(y, 11, 0, 2, 10);
        storeIs(y, 12, 0, 3, 7);
        storeIs(y, 15, 0, 3, 11);
        storeIs(y, 16, 0, 3, 14);
        storeIs(y, 17, 0, 4, 15);
        // 10 by the third and one of the first two, or by the last two: the least as bits has no fourth.
        SoleraHouse z = Check.houseOf("scale a 4 10;wine a 0 0 1;wine a 1 0 1;wine a 2 0 9;wine a 3 0 9;");
        storeIs(z, 10, 0, 2, 5);
        storeIs(z, 11, 0, 2, 12);
        storeIs(z, 18, 0, 2, 12);
        storeIs(z, 19, 0, 3, 13);
    }

    private void storeLitres() {
        SoleraHouse x = Check.houseOf("scale a 3 400;wine a 0 0 400;wine a 1 0 400;wine a 2 0 198;wine a 2 10 1;");
        storeIs(x, 998, 10, 3, 7);
        t.same("999 of AGE 10", -1, x.store(999, 10));
        storeIs(x, 999, 0, 3, 7);
        t.same("1000 is not told", -1, x.store(1000, 0));
        storeIs(x, 800, 0, 2, 3);
        storeIs(x, 801, 0, 3, 7);
        t.same("AGE 11", -1, x.store(1, 11));
        t.same("AGE 39", -1, x.store(1, 39));
        SoleraHouse great = Check.houseOf("scale a 3 400;wine a 0 0 400;wine a 1 0 400;wine a 2 0 400;");
        storeIs(great, 999, 0, 3, 7);
        t.same("1000 are there, but not told", -1, great.store(1000, 0));
        SoleraHouse ages = Check.houseOf("scale a 2 10;wine a 0 4 5;wine a 1 3 5;");
        storeIs(ages, 1, 6, 1, 1);
        storeIs(ages, 1, 7, 1, 2);
        t.same("8", -1, ages.store(1, 8));
        t.same("older than 5", 10, ages.older(6));
        t.same("than 6", 5, ages.older(7));
        t.same("than 7", 0, ages.older(8));
    }

    private void storeKept() {
        SoleraHouse x = Check.houseOf("scale a 2 10;wine a 1 3 5;");
        t.same("ahead of any", -1, x.stored());
        t.same("not in all", -1, x.store(6, 0));
        t.same("still", -1, x.stored());
        storeIs(x, 5, 0, 1, 2);
        x.draw(1, 5);
        t.same("as it was then", 2, x.stored());
        t.same("no wine", -1, x.store(1, 0));
        t.same("the latest that was not NONE", 2, x.stored());
    }

    private void meanIs(SoleraHouse x, int s, int above, int below) {
        t.same("mean(" + s + ", 0)", above, x.mean(s, 0));
        t.same("mean(" + s + ", 1)", below, x.mean(s, 1));
    }

    private void partIs(SoleraHouse x, int s, int above, int below) {
        t.same("part(" + s + ", 0)", above, x.part(s, 0));
        t.same("part(" + s + ", 1)", below, x.part(s, 1));
    }

    private void fractions() {
        SoleraHouse x = Check.houseOf("scale a 3 10;scale b 4 10;scale c 1 10;wine a 0 0 9;wine b 0 0 5;wine b 1 0 1;");
        meanIs(x, 0, 3, 1);
        meanIs(x, 1, 3, 2);
        meanIs(x, 2, 0, 1);
        partIs(x, 0, 3, 5);
        partIs(x, 1, 2, 5);
        partIs(x, 2, 0, 1);
        x.tip(0, 1, 1);
        meanIs(x, 0, 3, 1);
        x.draw(0, 2);
        meanIs(x, 0, 7, 3);
        partIs(x, 0, 7, 13);
        t.same("AGE in whole YEARS, above", 10, x.age(0, 0));
        t.same("below", 1, x.age(0, 1));
        SoleraHouse all = Check.houseOf("scale a 4 400;wine a 0 10 400;");
        partIs(all, 0, 1, 1);
        meanIs(all, 0, 100, 1);
        t.same("AGE 0 above", 0, all.age(0, 0));
        t.same("AGE 0 below", 1, all.age(0, 1));
        t.same("of the SCALE above", 0, all.old(0, 0));
        t.same("of the SCALE below", 1, all.old(0, 1));
        t.throwing("AGE of an empty CASK", () -> all.age(1, 0));
        all.draw(0, 399);
        t.same("a litre is enough", 0, all.age(0, 0));
        all.draw(0, 1);
        all.years(1);
        t.throwing("AGE of an emptied CASK", () -> all.age(0, 1));
        t.throwing("AGE of an empty SCALE", () -> all.old(0, 0));
        t.throwing("PART of no wine", () -> all.part(0, 1));
        meanIs(all, 0, 0, 1);
        // 3 of AGE 10 and 3 of AGE 4: 42 of 6.
        SoleraHouse y = Check.houseOf("scale a 2 10;wine a 0 0 3;wine a 0 6 3;wine a 1 9 4;");
        t.same("AGE 7", 7, y.age(0, 0));
        t.same("by 1", 1, y.age(0, 1));
        t.same("46 of 10, above", 23, y.old(0, 0));
        t.same("46 of 10, below", 5, y.old(0, 1));
    }

    private void tagIs(String house, int k, String text) {
        SoleraHouse x = Check.houseOf(house);
        t.same("tag " + text, text.length(), x.tag(k));
        for (int i = 0; i < text.length(); i++) {
            t.same("byte " + i + " of " + text, text.charAt(i), x.byteAt(i));
        }
        t.same("behind " + text, -1, x.byteAt(text.length()));
        t.same("ahead of " + text, -1, x.byteAt(-1));
        t.same("no TAG", -1, x.tag(x.count(1)));
        t.same("the latest stays", text.charAt(0), x.byteAt(0));
    }

    private void tags() {
        tagIs("scale a 1 10;", 0, "a cask 0 0 of 10");
        tagIs("scale abcdefg 4 400;wine abcdefg 3 0 400;", 3, "abcdefg cask 3 400 of 400");
        tagIs("scale zzzzzzz 2 99;wine zzzzzzz 1 0 9;", 1, "zzzzzzz cask 1 9 of 99");
        tagIs("scale z 3 100;wine z 2 0 10;", 2, "z cask 2 10 of 100");
        tagIs("scale az 1 101;wine az 0 0 99;", 0, "az cask 0 99 of 101");
        tagIs("scale za 1 309;wine za 0 0 100;", 0, "za cask 0 100 of 309");
        tagIs("scale za 1 309;wine za 0 0 207;", 0, "za cask 0 207 of 309");
        tagIs("scale a 1 399;wine a 0 0 198;", 0, "a cask 0 198 of 399");
        tagIs("scale a 1 299;wine a 0 0 199;", 0, "a cask 0 199 of 299");
        tagIs("scale ab 4 10;scale ba 2 20;wine ba 1 0 11;", 5, "ba cask 1 11 of 20");
        SoleraHouse x = Check.houseOf("scale long 1 100;wine long 0 0 100;scale s 1 10;");
        x.tag(0);
        t.same("a shorter one", 16, x.tag(1));
        t.same("has no bytes of the longer", -1, x.byteAt(16));
        x.draw(0, 100);
        x.years(1);
        t.same("told then", 's', x.byteAt(0));
    }

    private long seed;

    /** The document's draw, in whole numbers that do not wrap: cut to 32 bits by hand. */
    private int dice(int n) {
        seed = (seed * 1103515245L + 12345L) & 0xffffffffL;
        return (int) ((seed >> 8) % n);
    }

    /** A YEAR DRAWN as the document tells it, through the acts of the face. */
    private void replayYear(SoleraHouse x, int casks, int scales) {
        for (int i = 0; i < 4; i++) {
            int what = dice(6);
            if (what == 0 || what == 1) {
                int k = dice(casks);
                x.draw(k, dice(40) + 1);
            } else if (what == 2) {
                x.run(dice(scales));
            } else if (what == 3) {
                x.top();
            } else if (what == 4) {
                int k = dice(casks);
                int j = dice(casks);
                x.tip(k, j, dice(20) + 1);
            }
        }
        x.years(1);
    }

    private static final String DICED = "year 3;angels 5;most 35;scale a 2 60;scale b 1 50;scale c 2 70;wine a 0 0 50;wine a 1 1 20;"
        + "wine b 0 2 40;wine c 0 0 30;wine c 0 3 30;wine c 1 1 60;";

    private void seedIs(int first, int n) {
        seedOf(DICED, first, n);
        seedOf("year 3;scale a 3 90;wine a 0 0 90;wine a 1 1 60;wine a 2 2 80;", first, n);
        seedOf("year 3;scale a 1 300;wine a 0 0 100;wine a 0 2 130;", first, n);
    }

    private void seedOf(String house, int first, int n) {
        SoleraHouse x = Check.houseOf(house);
        SoleraHouse hand = Check.houseOf(house);
        t.same("drawn(" + n + ", " + first + ")", n, x.drawn(n, first));
        int casks = x.count(1);
        int scales = x.count(0);
        seed = first & 0xffffffffL;
        for (int i = 0; i < n; i++) {
            replayYear(hand, casks, scales);
        }
        for (int what = 0; what < 7; what++) {
            t.same("now(" + what + ") by seed " + first, hand.now(what), x.now(what));
        }
        for (int v = 0; v <= 3 + n && v < 40; v++) {
            t.same("BOTTLE by seed " + first, hand.bottle(v), x.bottle(v));
            for (int k = 0; k < casks; k++) {
                t.same("litres by seed " + first, hand.litres(k, v), x.litres(k, v));
            }
        }
        t.same("one act", 0, x.undo());
        t.same("undone", 3, x.now(0));
        t.same("litres again", 230, x.now(1));
    }

    private void seeds() {
        for (int first : new int[] {0, 1, -1, 2, MIN, MIN + 1, MAX, MAX - 1, 12345, -12345, 1103515245, 0x00ffffff, 0xff000000}) {
            seedIs(first, 1);
            seedIs(first, 7);
        }
        seedIs(99, 36);
    }

    private void seedsTo39() {
        SoleraHouse x = Check.houseOf("year 29;scale a 1 10;");
        t.same("10 YEARS", 10, x.drawn(39, 5));
        t.same("none", 0, x.drawn(1, 5));
        t.same("an act", 0, x.undo());
        t.same("just 10", 10, x.drawn(10, 5));
        t.same("undone", 0, x.undo());
        t.same("9", 9, x.drawn(9, 5));
        t.same("YEAR 38", 38, x.now(0));
        t.same("one of two", 1, x.drawn(2, 5));
        t.same("YEAR 39", 39, x.now(0));
        int had = x.now(1);
        int bottle = x.now(6);
        t.same("none of 39", 0, x.drawn(39, 6));
        t.same("nothing is done then", had, x.now(1));
        t.same("nor drawn", bottle, x.now(6));
        SoleraHouse first = Check.houseOf("year 0;scale a 1 10;");
        t.same("all 39", 39, first.drawn(39, 5));
        SoleraHouse none = Check.houseOf("year 29;");
        t.same("no SCALES: the YEARS alone", 10, none.drawn(11, 5));
        t.same("YEAR 39", 39, none.now(0));
        t.same("undone", 0, none.undo());
    }

    // Without angels, as they would leave few CASKS full at a YEAR's end.
    private static final String STILL = DICED.replace("angels 5", "angels 0");

    private int fullBehind(int years, int k, int first) {
        SoleraHouse x = Check.houseOf(STILL);
        if (years > 0) {
            x.years(years);
        }
        x.drawn(3, first);
        return x.now(2) >> k & 1;
    }

    private int oddsAre(int years, int k, int n, int first) {
        int want = 0;
        for (int i = 0; i < n; i++) {
            want += fullBehind(years, k, first + i);
        }
        SoleraHouse x = Check.houseOf(STILL);
        if (years > 0) {
            x.years(years);
        }
        t.same("odds(" + k + ", " + n + ", " + first + ") behind " + years, want, x.odds(k, n, first));
        t.same("the YEAR stays", 3 + years, x.now(0));
        t.same("litres stay", x.older(0), x.now(1));
        t.same("no act", years > 0 ? 0 : -1, x.undo());
        return want;
    }

    private void odds() {
        int some = 0;
        for (int k = 0; k < 5; k++) {
            some += oddsAre(0, k, 20, 1);
            oddsAre(0, k, 1, 7);
            oddsAre(0, k, 20, MAX - 9);
            oddsAre(0, k, 2, MAX);
            oddsAre(0, k, 20, -10);
            oddsAre(34, k, 20, 3);
            oddsAre(35, k, 20, 3);
            oddsAre(36, k, 20, 3);
        }
        t.truth("some are full, not all: " + some, true, some > 5 && some < 95);
        SoleraHouse full = Check.houseOf("year 29;scale a 2 10;wine a 0 0 10;wine a 1 0 9;");
        full.years(10);
        t.same("full in YEAR 39, by all", 20, full.odds(0, 20, 5));
        t.same("by one", 1, full.odds(0, 1, 5));
        t.same("not full, by none", 0, full.odds(1, 20, 5));
    }
}
