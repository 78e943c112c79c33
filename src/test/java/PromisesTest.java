/** The promises one by one, with answers reckoned by hand from the document. */
public final class PromisesTest {
    // CASK 0: 10 of vintage 1, 5 of 3; CASK 1: 20 of 2, full; CASK 2: 9 of 4, 12 of 5.
    private static final String BODEGA = "year 5;angels 9;most 30;scale old 2 20;scale mid 1 30;"
        + "wine old 0 1 10;wine old 0 3 5;wine old 1 2 20;wine mid 0 5 12;wine mid 0 4 9;";
    private static final int MIN = Integer.MIN_VALUE;
    private static final int MAX = Integer.MAX_VALUE;

    private final Check t = new Check();

    public static void main(String[] args) {
        PromisesTest all = new PromisesTest();
        all.newObject();
        all.tape();
        all.houses();
        all.houseFaults();
        all.longTexts();
        all.casks();
        all.ages();
        all.nows();
        all.draws();
        all.runs();
        all.tops();
        all.tips();
        all.yearsGo();
        all.undone();
        all.blends();
        all.ripes();
        all.plans();
        all.whiches();
        all.stores();
        all.wheres();
        all.fractions();
        all.tags();
        all.drawnBySeed();
        all.books();
        all.bookFaults();
        all.sentences();
        all.sentenceFaults();
        all.images();
        all.counts();
        all.greatest();
        all.usedFor512Calls();
        all.t.close("PromisesTest");
    }

    private void same(String what, long want, long got) {
        t.same(what, want, got);
    }

    private int house(SoleraHouse x, String text) {
        Check.put(x, text);
        return x.house();
    }

    private int book(SoleraHouse x, int lives, String text) {
        Check.put(x, text);
        return x.book(lives);
    }

    private int sentence(SoleraHouse x, String text) {
        Check.put(x, text);
        return x.sentence();
    }

    private int which(SoleraHouse x, int... bytes) {
        StringBuilder b = new StringBuilder();
        for (int one : bytes) {
            b.append((char) one);
        }
        Check.put(x, b.toString());
        return x.which();
    }

    private void newObject() {
        SoleraHouse x = new SoleraHouse();
        same("NONE", -1, SoleraHouse.NONE);
        same("new SCALES", 0, x.count(0));
        same("new CASKS", 0, x.count(1));
        same("new angels", 2, x.count(2));
        same("new most", 400, x.count(3));
        same("new first YEAR", 10, x.count(4));
        same("new tape", 0, x.count(5));
        same("new YEAR", 10, x.now(0));
        same("new fault", 0, x.fault());
        same("new top", 1, x.top());
        same("new undo", -1, x.undo());
        same("new blendAt", -1, x.blendAt(0));
        same("new ask", -1, x.ask());
        same("new stored", -1, x.stored());
        same("new byteAt", -1, x.byteAt(0));
        same("new told", -1, x.told(0));
        same("new said", -1, x.said(-1));
        same("new plan", -1, x.plan(0, 0));
        t.truth("new restore", false, x.restore(0));
    }

    private void tape() {
        SoleraHouse x = new SoleraHouse();
        for (int i = 1; i <= 47; i++) {
            same("feed", 20 * i, x.feed(0x20202020, 0x20202020, 0x20202020, 0x20202020, 0x20202020));
        }
        same("feed beyond 940", -1, x.feed(1, 2, 3, 4, 5));
        same("tape stays", 940, x.count(5));
        t.truth("end beyond", false, x.end(941));
        t.truth("end below 0", false, x.end(-1));
        t.truth("end at least", false, x.end(MIN));
        t.truth("end 921", true, x.end(921));
        same("feed that would have 941", -1, x.feed(1, 2, 3, 4, 5));
        t.truth("end 920", true, x.end(920));
        same("feed to 940", 940, x.feed(1, 2, 3, 4, 5));
        t.truth("end 0", true, x.end(0));
        same("count", 0, x.count(5));
        x.feed(0x79656172, 0x20373b00, 0, 0, 0);
        x.end(7);
        same("the highest byte first", 1, x.house());
        same("year 7", 7, x.now(0));
    }

    private void houses() {
        SoleraHouse x = new SoleraHouse();
        same("LINES", 10, house(x, BODEGA));
        same("no fault", 0, x.fault());
        same("tape is empty then", 0, x.count(5));
        same("an empty HOUSE", 0, house(x, ""));
        same("without SCALES", 0, x.count(0));
        same("blanks", 1, house(x, " \n year\n7 ;\n"));
        same("no blanks but between", 2, house(x, "scale a 1 10;wine a 0 7 10;"));
        same("zeros ahead", 1, house(x, "year 007;"));
        same("scale behind a wine", 3, house(x, "scale a 1 10;wine a 0 7 10;scale b 4 400;"));
        same("casks", 5, x.count(1));
        same("angels behind a wine", 4, house(x, "scale a 1 10;wine a 0 7 10;angels 0;most 1;"));
        same("names like ours", 5, house(x, "scale cask 1 10;scale lives 1 10;scale of 1 10;scale none 1 10;scale abcdefg 1 10;"));
        same("more of one vintage", 3, house(x, "scale a 1 10;wine a 0 7 4;wine a 0 7 6;"));
        same("in one", 10, x.litres(0, 7));
    }

    private void fault(SoleraHouse x, String text, int kind, int place) {
        same("house() of '" + text + "'", -1 - place, house(x, text));
        same("fault() of '" + text + "'", kind, x.fault());
        same("the HOUSE stays, '" + text + "'", 3, x.count(1));
        same("the tape is empty, '" + text + "'", 0, x.count(5));
    }

    private void houseFaults() {
        SoleraHouse x = Check.houseOf(BODEGA);
        fault(x, "scale a 2 30", 1, 12);
        fault(x, "scale a 2 30  ", 1, 14);
        fault(x, "scale", 1, 5);
        fault(x, "foo 3;", 1, 0);
        fault(x, "draw a 0 1;", 1, 0);
        fault(x, ";", 1, 0);
        fault(x, "year 5;;", 1, 7);
        fault(x, "year 1000;", 1, 5);
        fault(x, "year 5a;", 1, 5);
        fault(x, "year5;", 1, 0);
        fault(x, "Year 5;", 1, 0);
        fault(x, "year\t5;", 1, 4);
        fault(x, "year 5" + (char) 233, 1, 6);
        fault(x, "year x;", 1, 5);
        fault(x, "scale abcdefgh 1 10;", 1, 6);
        fault(x, "scale number 1 10;", 1, 6);
        fault(x, "scale top 1 10;", 1, 6);
        fault(x, "scale 1 1 10;", 1, 6);
        fault(x, "scale a b 10;", 1, 8);
        fault(x, "scale a 1 10 10;", 1, 13);
        fault(x, "scale a 0 10;", 2, 8);
        fault(x, "scale a 5 10;", 2, 8);
        fault(x, "scale a 1 9;", 2, 10);
        fault(x, "scale a 1 401;", 2, 10);
        fault(x, "year 30;", 2, 5);
        fault(x, "angels 10;", 2, 7);
        fault(x, "most 0;", 2, 5);
        fault(x, "most 401;", 2, 5);
        fault(x, "scale a 2 30;wine a 2 1 1;", 2, 20);
        fault(x, "scale a 2 30;wine a 1 11 1;", 2, 22);
        fault(x, "year 4;scale a 2 30;wine a 1 5 1;", 2, 29);
        fault(x, "scale a 2 30;wine a 1 1 0;", 2, 24);
        fault(x, "scale a 2 30;wine a 1 1 31;", 2, 24);
        fault(x, "scale a 2 30;wine a 1 1 30;wine a 1 2 1;", 2, 38);
        fault(x, "scale a 1 10;scale a 1 10;", 3, 19);
        fault(x, "wine a 0 1 1;scale a 1 10;", 3, 5);
        fault(x, "scale a 1 10;wine b 0 1 1;", 3, 18);
        fault(x, "scale a 1 10;wine year 0 1 1;", 1, 18);
        fault(x, "year 5;year 5;", 3, 7);
        fault(x, "angels 5;angels 5;", 3, 9);
        fault(x, "most 5;most 5;", 3, 7);
        fault(x, "scale a 1 10;wine a 0 1 1;year 5;", 3, 26);
        fault(x, "scale a 1 10;scale b 1 10;scale c 1 10;scale d 1 10;scale e 1 10;scale f 1 10;", 4, 65);
        same("a right one again", 0, house(x, ""));
        same("no FAULT then", 0, x.fault());
    }

    private static String padded(String text, int bytes) {
        StringBuilder b = new StringBuilder(text);
        while (b.length() < bytes) {
            b.insert(0, ' ');
        }
        return b.toString();
    }

    private void longTexts() {
        fault(Check.houseOf(BODEGA), padded("", 901), 1, 900);
        fault(Check.houseOf(BODEGA), padded("year 5;", 901), 1, 900);
        fault(Check.houseOf(BODEGA), padded("year 5; ", 901), 1, 900);
        fault(Check.houseOf(BODEGA), padded("", 890) + "year 5;" + padded("", 20), 1, 900);
        fault(Check.houseOf(BODEGA), padded("year 30;", 901), 2, 898);
        fault(Check.houseOf(BODEGA), padded("", 898) + "angelsxyz", 1, 898);
        fault(Check.houseOf(BODEGA), padded("", 898) + "angels 10;", 1, 900);
        fault(Check.houseOf(BODEGA), padded("", 899) + "foo", 1, 899);
        fault(Check.houseOf(BODEGA), padded("", 894) + "year 300;", 2, 899);
        fault(Check.houseOf(BODEGA), padded("", 894) + "year 3000;", 1, 899);
        SoleraHouse x = Check.houseOf(BODEGA);
        same("900 bytes", 1, house(x, padded("year 5;", 900)));
        same("fits", 5, x.now(0));
        same("400 bytes", -1, book(x, 0, padded("years 1;", 400)));
        same("401 bytes of a BOOK", -402, book(x, 0, padded("years 1;", 401)));
        same("its kind", 1, x.fault());
        same("blanks behind 400", -402, book(x, 0, padded("years 1;", 399) + "  "));
        same("a FAULT ahead", -401, book(x, 0, padded("years 40;", 402)));
        same("its kind", 2, x.fault());
        same("200 bytes", 1, sentence(x, padded("full", 200)));
        same("201 bytes, a TOKEN read whole", -201, sentence(x, padded("full", 201)));
        same("a wrong TOKEN read whole", -200, sentence(x, padded("", 199) + "fulll"));
        same("blanks behind 200", -201, sentence(x, padded("full", 199) + "  "));
        same("its kind", 1, x.fault());
    }

    private void casks() {
        SoleraHouse x = Check.houseOf(BODEGA);
        int[][] want = {{0, 0, 15, 5, 0, 1, 3}, {0, 1, 20, 0, 0, 2, 2}, {1, 0, 21, 9, 0, 4, 5}};
        for (int k = 0; k < 3; k++) {
            for (int what = 0; what < 7; what++) {
                same("cask(" + k + ", " + what + ")", want[k][what], x.cask(k, what));
            }
        }
        same("cask 3", -1, x.cask(3, 0));
        same("cask -1", -1, x.cask(-1, 0));
        same("what 7", -1, x.cask(0, 7));
        same("what -1", -1, x.cask(0, -1));
        same("litres", 10, x.litres(0, 1));
        same("no litres", 0, x.litres(0, 39));
        t.throwing("litres of no vintage", () -> x.litres(0, 40));
        t.throwing("litres of vintage -1", () -> x.litres(0, -1));
        t.throwing("litres of no cask", () -> x.litres(3, 0));
        t.throwing("litres of cask -1", () -> x.litres(-1, 0));
        x.draw(1, 20);
        same("drawn of it", 20, x.cask(1, 4));
        same("oldest of an empty one", -1, x.cask(1, 5));
        same("youngest of an empty one", -1, x.cask(1, 6));
        int[] mid = {1, 30, 21, 9};
        for (int what = 0; what < 4; what++) {
            same("scale(1, " + what + ")", mid[what], x.scale(1, what));
        }
        same("scale what 4", -1, x.scale(1, 4));
        same("scale what -1", -1, x.scale(1, -1));
        same("scale 2", -1, x.scale(2, 0));
        same("scale -1", -1, x.scale(-1, 0));
    }

    private void ages() {
        SoleraHouse x = Check.houseOf(BODEGA);
        same("age above", 10, x.age(0, 0));
        same("age below", 3, x.age(0, 1));
        same("whole age above", 3, x.age(1, 0));
        same("whole age below", 1, x.age(1, 1));
        same("age of mid above", 3, x.age(2, 0));
        same("age of mid below", 7, x.age(2, 1));
        same("old above", 22, x.old(0, 0));
        same("old below", 7, x.old(0, 1));
        t.throwing("age what 2", () -> x.age(0, 2));
        t.throwing("age what -1", () -> x.age(0, -1));
        t.throwing("age of no cask", () -> x.age(3, 0));
        t.throwing("age of cask -1", () -> x.age(-1, 0));
        t.throwing("old what 2", () -> x.old(0, 2));
        t.throwing("old of no scale", () -> x.old(2, 0));
        t.throwing("old of scale -1", () -> x.old(-1, 0));
        x.draw(1, 20);
        t.throwing("age of an empty cask", () -> x.age(1, 0));
        x.draw(0, 15);
        t.throwing("old of an empty scale", () -> x.old(0, 1));
        SoleraHouse young = Check.houseOf("scale a 1 10;wine a 0 10 7;");
        same("age 0 above", 0, young.age(0, 0));
        same("age 0 below", 1, young.age(0, 1));
    }

    private void nows() {
        SoleraHouse x = Check.houseOf(BODEGA);
        int[] want = {5, 56, 2, 0, 0, 0, 0};
        for (int what = 0; what < 7; what++) {
            same("now(" + what + ")", want[what], x.now(what));
        }
        same("now(7)", -1, x.now(7));
        same("now(-1)", -1, x.now(-1));
        x.draw(1, 20);
        x.draw(0, 6);
        same("full", 0, x.now(2));
        same("empty", 2, x.now(3));
        same("drawn so far", 26, x.now(4));
        same("in the bottle", 6, x.now(6));
        x.years(1);
        // 9 litres lose nothing, 21 lose one.
        same("angels so far", 1, x.now(5));
        same("drawn in all years", 26, x.now(4));
        same("not of this year", 0, x.cask(0, 4));
        same("the year", 6, x.now(0));
        same("a new HOUSE", 0, house(x, ""));
        same("nothing drawn", 0, x.now(4));
        same("no angels", 0, x.now(5));
        same("an empty bottle", 0, x.now(6));
    }

    private void draws() {
        SoleraHouse x = Check.houseOf(BODEGA);
        same("not so many", 1, x.draw(0, 16));
        same("not so many and above most: the least", 1, x.draw(1, 31));
        same("draw", 0, x.draw(0, 6));
        same("bottle 1", 4, x.bottle(1));
        same("bottle 3", 2, x.bottle(3));
        same("bottle 2", 0, x.bottle(2));
        same("bottle 40", -1, x.bottle(40));
        same("bottle -1", -1, x.bottle(-1));
        same("left of 1", 6, x.litres(0, 1));
        same("left of 3", 3, x.litres(0, 3));
        same("n 0", -1, x.draw(0, 0));
        same("n 400", 1, x.draw(0, 400));
        same("n 401", -1, x.draw(0, 401));
        same("n least", -1, x.draw(0, MIN));
        same("no cask", -1, x.draw(3, 1));
        same("cask -1", -1, x.draw(-1, 1));
        same("the bottle ahead is away", 0, x.draw(1, 1));
        same("bottle 1 then", 0, x.bottle(1));
        same("bottle 2 then", 1, x.bottle(2));
        SoleraHouse y = Check.houseOf("most 10;scale a 1 400;wine a 0 10 400;");
        same("up to most", 0, y.draw(0, 7));
        same("above most", 2, y.draw(0, 4));
        same("just most", 0, y.draw(0, 3));
        same("above by one", 2, y.draw(0, 1));
        y.years(1);
        same("a new year", 0, y.draw(0, 10));
        same("400 is not most", 2, y.draw(0, 300));
        // 5 of each of three vintages: 4 litres are 1 1/3 each, the one left goes to the oldest.
        SoleraHouse z = Check.houseOf("scale a 1 20;wine a 0 9 5;wine a 0 2 5;wine a 0 4 5;");
        z.draw(0, 4);
        same("of like ones the first", 2, z.bottle(2));
        same("second", 1, z.bottle(4));
        same("third", 1, z.bottle(9));
    }

    private void runs() {
        SoleraHouse x = Check.houseOf(BODEGA);
        same("run", 0, x.run(0));
        // 5 litres of mid (9 of 4, 12 of 5): 2 1/7 and 2 6/7.
        same("of 4", 2, x.litres(0, 4));
        same("of 5", 3, x.litres(0, 5));
        same("left of 4", 7, x.litres(2, 4));
        same("left of 5", 9, x.litres(2, 5));
        same("all are full", 1, x.run(0));
        same("the last one", 2, x.run(1));
        same("no scale", -1, x.run(2));
        same("scale -1", -1, x.run(-1));
        x.draw(1, 17);
        same("too little in the next", 3, x.run(0));
        SoleraHouse full = Check.houseOf("scale a 1 10;wine a 0 1 10;");
        same("full and last: the least", 1, full.run(0));
        // 7 lack; the next has 10 and 4: 5 and 2; mixed 5 of 1, 2 of 2; CASK 0 gets 3: 2 1/7 and 6/7, CASK 1 the rest.
        SoleraHouse y = Check.houseOf("scale a 2 10;scale b 2 10;wine a 0 0 7;wine a 1 0 6;wine b 0 1 10;wine b 1 2 4;");
        same("run of two", 0, y.run(0));
        same("a 0 of 1", 2, y.litres(0, 1));
        same("a 0 of 2", 1, y.litres(0, 2));
        same("a 1 of 1", 3, y.litres(1, 1));
        same("a 1 of 2", 1, y.litres(1, 2));
        same("b 0", 5, y.cask(2, 2));
        same("b 1", 2, y.cask(3, 2));
        SoleraHouse just = Check.houseOf("scale a 1 10;scale b 1 10;wine a 0 0 5;wine b 0 1 5;");
        same("just enough", 0, just.run(0));
        same("all of it", 0, just.cask(1, 2));
    }

    private void tops() {
        SoleraHouse x = Check.houseOf(BODEGA);
        same("top", 0, x.top());
        same("this year's", 21, x.litres(2, 5));
        same("full", 30, x.cask(2, 2));
        same("again", 1, x.top());
        same("others stay", 15, x.cask(0, 2));
        x.draw(2, 10);
        x.years(2);
        same("top later", 0, x.top());
        // 20 lose one, 19 lose one.
        same("of YEAR 7", 12, x.litres(2, 7));
    }

    private void tips() {
        SoleraHouse x = Check.houseOf(BODEGA);
        same("alike", 1, x.tip(0, 0, 400));
        same("not so many", 2, x.tip(0, 1, 16));
        same("no room", 3, x.tip(0, 1, 1));
        same("tip", 0, x.tip(0, 2, 9));
        same("over of 1", 6, x.litres(2, 1));
        same("over of 3", 3, x.litres(2, 3));
        same("left", 6, x.cask(0, 2));
        same("nothing is drawn", 0, x.cask(0, 4));
        same("no bottle", 0, x.now(6));
        same("n 0", -1, x.tip(0, 1, 0));
        same("n 401", -1, x.tip(0, 1, 401));
        same("no cask", -1, x.tip(3, 0, 1));
        same("no other cask", -1, x.tip(0, 3, 1));
        same("cask -1", -1, x.tip(0, -1, 1));
    }

    private void yearsGo() {
        SoleraHouse x = Check.houseOf(BODEGA);
        same("n 0", -1, x.years(0));
        same("n 40", -1, x.years(40));
        same("n least", -1, x.years(MIN));
        same("one", 1, x.years(1));
        // 15 lose one (of 1), 20 one, 21 one (9 to 12: of 5).
        same("left of 1", 9, x.litres(0, 1));
        same("left of 3", 5, x.litres(0, 3));
        same("left of 2", 19, x.litres(1, 2));
        same("left of 5", 11, x.litres(2, 5));
        same("angels", 3, x.now(5));
        same("as many as there are", 33, x.years(39));
        same("YEAR 39", 39, x.now(0));
        int had = x.now(1);
        x.draw(1, 1);
        same("it stays", 0, x.years(1));
        same("nothing changes", had - 1, x.now(1));
        same("still drawn this YEAR", 1, x.cask(1, 4));
        same("years() of 0 is not undone: the draw is", 2, x.undo());
        same("so it has its litre again", had, x.now(1));
        SoleraHouse y = Check.houseOf("angels 0;scale a 1 400;wine a 0 0 400;");
        same("no angels", 29, y.years(29));
        same("all there", 400, y.now(1));
    }

    private void undone() {
        SoleraHouse x = Check.houseOf(BODEGA);
        x.draw(0, 6);
        x.draw(1, 20);
        same("undo", 1, x.undo());
        same("bottle as it was", 4, x.bottle(1));
        same("cask as it was", 20, x.cask(1, 2));
        same("drawn as it was", 0, x.cask(1, 4));
        same("drawn so far as it was", 6, x.now(4));
        same("undo the first", 0, x.undo());
        same("empty bottle", 0, x.now(6));
        same("no more", -1, x.undo());
        x.draw(0, 100);
        x.run(1);
        x.tip(0, 0, 1);
        same("what was not done is not undone", -1, x.undo());
        for (int i = 0; i < 12; i++) {
            x.draw(1, 1);
        }
        for (int i = 7; i >= 0; i--) {
            same("8 are kept", i, x.undo());
        }
        same("none left", -1, x.undo());
        same("four stay done", 16, x.cask(1, 2));
        same("tip", 0, x.tip(0, 1, 3));
        same("run", 0, x.run(0));
        same("top", 0, x.top());
        same("years", 3, x.years(3));
        x.drawn(2, 5);
        same("book lives", -1, book(x, 1, "years 1;years 1;"));
        same("undo book", 5, x.undo());
        same("undo drawn", 4, x.undo());
        same("YEAR 8", 8, x.now(0));
        same("undo years", 3, x.undo());
        same("no angels", 0, x.now(5));
        same("undo top", 2, x.undo());
        same("undo run", 1, x.undo());
        same("undo tip", 0, x.undo());
        same("as it was", 52, x.now(1));
        same("judged only", -1, book(x, 0, "years 1;"));
        same("no LINE lived", 0, book(x, 1, "draw old 3 1;years 1;"));
        same("nothing to undo", -1, x.undo());
        x.draw(1, 1);
        same("a new HOUSE", 10, house(x, BODEGA));
        same("is not undone", -1, x.undo());
    }

    private void blends() {
        SoleraHouse x = Check.houseOf(BODEGA);
        same("2 of 3", 0, x.blend(0, 2, 3));
        same("the first of like ones", 0, x.blendAt(0));
        same("all of the second", 2, x.blendAt(1));
        same("no third", -1, x.blendAt(2));
        same("no -1st", -1, x.blendAt(-1));
        same("1 of 4", 0, x.blend(0, 1, 4));
        same("of the first", 1, x.blendAt(0));
        same("3 of 2", 3, x.blend(0, 3, 2));
        same("none of the first", 0, x.blendAt(0));
        // All 12 of 5 would be 0: 20 litres of 9 and 12 are 8 4/7 and 11 3/7, so 9 of AGE 1.
        same("n 20", 9, x.blend(1, 20, 0));
        same("20 of one CASK", 20, x.blendAt(0));
        x.blend(0, 3, 2);
        same("n 21", -1, x.blend(1, 21, 0));
        same("n 0", -1, x.blend(1, 0, 0));
        same("a 40", -1, x.blend(1, 1, 40));
        same("a -1", -1, x.blend(1, 1, -1));
        same("no scale", -1, x.blend(2, 1, 1));
        same("scale -1", -1, x.blend(-1, 1, 1));
        same("the latest that was not NONE", 3, x.blendAt(1));
        x.draw(2, 10);
        same("not so many", -1, x.blend(1, 12, 1));
        // AGES 10, 7, 4, 1 with 2 litres each: 8 litres are 44; 5 litres: 1 1 2 1 is 26, so is 1 2 0 2, none is nearer to 25.
        SoleraHouse four = Check.houseOf("scale a 4 10;wine a 0 0 2;wine a 1 3 2;wine a 2 6 2;wine a 3 9 2;");
        same("all of four", 4, four.blend(0, 8, 6));
        same("5 of four", 1, four.blend(0, 5, 5));
        int[] best = {1, 1, 2, 1};
        for (int i = 0; i < 4; i++) {
            same("blendAt(" + i + ") of four", best[i], four.blendAt(i));
        }
        // 11 litres: 5 of 4, 6 of 5 are left.
        same("all it has", 5, x.blend(1, 11, 0));
        same("of one CASK", 11, x.blendAt(0));
        same("no second", -1, x.blendAt(1));
    }

    private void ripes() {
        SoleraHouse x = Check.houseOf(BODEGA);
        same("it is", 0, x.ripe(0, 3));
        // 14 litres at 60, 13 litres at 68.
        same("in two", 2, x.ripe(0, 5));
        same("AGE 3 in YEAR 5 is 37 in 39", 34, x.ripe(1, 37));
        same("not by 39", -1, x.ripe(1, 38));
        same("a 0", 0, x.ripe(2, 0));
        same("a 40", -1, x.ripe(0, 40));
        same("a -1", -1, x.ripe(0, -1));
        same("no cask", -1, x.ripe(3, 1));
        same("cask -1", -1, x.ripe(-1, 1));
        same("all stays", 5, x.now(0));
        x.draw(1, 20);
        same("empty", -1, x.ripe(1, 0));
    }

    private void plans() {
        SoleraHouse x = Check.houseOf(BODEGA);
        same("it is so old", 0, x.plan(0, 3));
        // YEAR 6: 67 and 76 over 38 litres, YEAR 7: 83 and 92 over 38.
        same("in two", 2, x.plan(0, 4));
        same("n 401", -1, x.plan(401, 1));
        same("n -1", -1, x.plan(-1, 1));
        same("a 40", -1, x.plan(1, 40));
        same("a -1", -1, x.plan(1, -1));
        same("all stays", 56, x.now(1));
        SoleraHouse y = Check.houseOf("angels 0;scale a 1 10;wine a 0 10 10;");
        same("one scale, nothing drawn", 7, y.plan(0, 7));
        same("by YEAR 39", 29, y.plan(0, 29));
        same("not by YEAR 39", -1, y.plan(0, 30));
        same("all drawn and topped", -1, y.plan(400, 2));
        same("one year old at most", 1, y.plan(400, 1));
        same("half drawn, and topped with the like", 1, y.plan(5, 1));
        SoleraHouse z = Check.houseOf("most 1;angels 0;scale a 1 10;scale b 1 10;");
        // Empty: YEAR 11: a can't be run (b is empty), b is topped; YEAR 12: a is run from b, of AGE 2.
        same("empty is not so old", 2, z.plan(0, 0));
        same("run from the topped one", 2, z.plan(0, 2));
    }

    private void whiches() {
        SoleraHouse x = Check.houseOf(BODEGA);
        same("not told yet", -1, x.ask());
        same("2 of 1 and 1 of 3", 1, which(x, 1, 2, 3, 1));
        same("tape is empty", 0, x.count(5));
        same("one CASK alone: the first VINTAGE", 0, x.ask());
        same("5 of 2", 2, which(x, 2, 5));
        same("1 of 1", 1, which(x, 1, 1));
        same("2 of 1: it would be one of each", 0, which(x, 1, 2));
        same("litres told twice are added", 1, which(x, 1, 1, 3, 1, 1, 1));
        same("0 litres of another", 1, which(x, 1, 1, 9, 0));
        same("more than it has", 0, which(x, 2, 21));
        same("all it has", 2, which(x, 2, 20));
        same("no VINTAGE", -1, which(x, 40, 1));
        same("no VINTAGE 255", -1, which(x, 255, 1));
        same("tape is empty then, too", 0, x.count(5));
        same("no litres", -1, which(x, 1, 0));
        same("no bytes", -1, which(x));
        same("odd", -1, which(x, 1, 1, 3));
        int[] many = new int[42];
        many[1] = 1;
        many[0] = 1;
        same("21 pairs", -1, which(x, many));
        same("20 pairs", 1, which(x, java.util.Arrays.copyOf(many, 40)));
        // Three CASKS of which one litre is of 3; of 3 they have 5, 5, 7; of 4: 0, 1, 1; of 6: 1, 2, 3.
        SoleraHouse y = Check.houseOf("scale a 4 20;wine a 0 3 5;wine a 0 6 1;wine a 1 3 5;wine a 1 4 1;wine a 1 6 2;"
            + "wine a 2 3 7;wine a 2 4 1;wine a 2 6 3;wine a 3 5 9;");
        same("three of them", 7, which(y, 3, 1));
        y.tip(2, 3, 11);
        same("6 tells best, by what was so then", 6, y.ask());
        same("none", 0, which(y, 9, 1));
        same("the latest above 0", 6, y.ask());
    }

    private void stores() {
        SoleraHouse x = Check.houseOf(BODEGA);
        same("two", 2, x.store(25, 3));
        same("which", 3, x.stored());
        same("one", 1, x.store(20, 3));
        same("which", 2, x.stored());
        same("not in all", -1, x.store(31, 3));
        same("the latest stays", 2, x.stored());
        same("all", 2, x.store(30, 3));
        same("the least as bits", 1, x.store(9, 1));
        same("which", 1, x.stored());
        same("n 0", -1, x.store(0, 1));
        same("n 1000", -1, x.store(1000, 1));
        same("n 1", 1, x.store(1, 4));
        SoleraHouse great = Check.houseOf("scale a 3 400;wine a 0 0 400;wine a 1 0 300;wine a 2 0 400;");
        same("n 999", 3, great.store(999, 10));
        same("a 40", -1, x.store(1, 40));
        same("a -1", -1, x.store(1, -1));
        // 5, 9, 3, 6: two for 11: 9 and 3 (6), 5 and 9 (3): the least as bits.
        SoleraHouse y = Check.houseOf("scale a 4 20;wine a 0 3 5;wine a 1 3 9;wine a 2 3 3;wine a 3 3 6;");
        same("11", 2, y.store(11, 0));
        same("as bits", 3, y.stored());
        same("15", 2, y.store(15, 0));
        same("the one way", 10, y.stored());
        same("17", 3, y.store(17, 7));
        same("first three", 7, y.stored());
        same("23", 4, y.store(23, 7));
        same("AGE 8", -1, y.store(1, 8));
    }

    private void wheres() {
        SoleraHouse x = Check.houseOf(BODEGA);
        same("older 3", 30, x.older(3));
        same("older 1", 44, x.older(1));
        same("older 0", 56, x.older(0));
        same("older 39", 0, x.older(39));
        same("older 40", -1, x.older(40));
        same("older -1", -1, x.older(-1));
        same("where 2", 2, x.where(2));
        same("where 5", 4, x.where(5));
        same("where 0", 0, x.where(0));
        same("where 40", -1, x.where(40));
        same("where -1", -1, x.where(-1));
    }

    private void fractions() {
        SoleraHouse x = Check.houseOf(BODEGA);
        same("mean above", 35, x.mean(0, 0));
        same("mean below", 2, x.mean(0, 1));
        same("part above", 5, x.part(0, 0));
        same("part below", 8, x.part(0, 1));
        t.throwing("mean what", () -> x.mean(0, 2));
        t.throwing("mean of no scale", () -> x.mean(2, 0));
        t.throwing("mean of scale -1", () -> x.mean(-1, 0));
        t.throwing("part what", () -> x.part(0, -1));
        t.throwing("part of no scale", () -> x.part(2, 0));
        SoleraHouse y = Check.houseOf("scale a 3 10;scale b 1 10;");
        same("mean 0 above", 0, y.mean(0, 0));
        same("mean 0 below", 1, y.mean(0, 1));
        t.throwing("part without wine", () -> y.part(0, 0));
        y.top();
        same("part 0 above", 0, y.part(0, 0));
        same("part 0 below", 1, y.part(0, 1));
        same("part 1 above", 1, y.part(1, 0));
    }

    private void tagIs(SoleraHouse x, int k, String text) {
        same("tag(" + k + ")", text.length(), x.tag(k));
        for (int i = 0; i < text.length(); i++) {
            same("byteAt(" + i + ")", text.charAt(i), x.byteAt(i));
        }
        same("behind it", -1, x.byteAt(text.length()));
        same("ahead of it", -1, x.byteAt(-1));
    }

    private void tags() {
        SoleraHouse x = Check.houseOf(BODEGA + "scale zyxwvut 4 400;wine zyxwvut 3 0 100;");
        tagIs(x, 6, "zyxwvut cask 3 100 of 400");
        tagIs(x, 5, "zyxwvut cask 2 0 of 400");
        tagIs(x, 0, "old cask 0 15 of 20");
        same("no cask", -1, x.tag(7));
        same("cask -1", -1, x.tag(-1));
        same("the latest stays", 'o', x.byteAt(0));
        same("great i", -1, x.byteAt(MAX));
    }

    private void drawnBySeed() {
        SoleraHouse x = Check.houseOf(BODEGA);
        same("n 0", -1, x.drawn(0, 1));
        same("n 40", -1, x.drawn(40, 1));
        same("odds n 0", -1, x.odds(0, 0, 1));
        same("odds n 21", -1, x.odds(0, 21, 1));
        same("odds of no cask", -1, x.odds(3, 1, 1));
        same("odds of cask -1", -1, x.odds(-1, 1, 1));
        int full = 0;
        for (int i = 0; i < 20; i++) {
            SoleraHouse y = Check.houseOf(BODEGA);
            same("3 years", 3, y.drawn(3, MAX - 5 + i));
            full += y.now(2) >> 1 & 1;
        }
        same("odds are by drawn()", full, x.odds(1, 20, MAX - 5));
        same("all stays", 5, x.now(0));
        // Seed 1: 1103527590, >>> 8 is 4310654, by 6: 2; 2524885223 (as an int below 0), >>> 8 is 9862832, by 2 SCALES: 0.
        SoleraHouse one = Check.houseOf(BODEGA);
        SoleraHouse hand = Check.houseOf(BODEGA);
        one.drawn(1, 1);
        replay(hand, 1);
        for (int k = 0; k < 3; k++) {
            same("litres by hand", hand.cask(k, 2), one.cask(k, 2));
            same("ages by hand", hand.age(k, 0), one.age(k, 0));
        }
        same("the rest of the years", 33, one.drawn(39, 7));
        same("none at 39", 0, one.drawn(1, 7));
        SoleraHouse long39 = Check.houseOf("year 0;scale a 1 10;");
        same("39 years", 39, long39.drawn(39, 7));
        same("none to undo at 39", 0, long39.drawn(1, 7));
        same("but the one", 0, long39.undo());
        SoleraHouse none = new SoleraHouse();
        same("no SCALES: the YEARS alone", 2, none.drawn(2, 9));
        same("YEAR 12", 12, none.now(0));
    }

    private int x;

    private int dice(int n) {
        x = x * 1103515245 + 12345;
        return (x >>> 8) % n;
    }

    /** A YEAR DRAWN by a seed, as the document tells it, through the face. */
    private void replay(SoleraHouse h, int seed) {
        x = seed;
        for (int i = 0; i < 4; i++) {
            int what = dice(6);
            if (what < 2) {
                int k = dice(3);
                h.draw(k, dice(40) + 1);
            } else if (what == 2) {
                h.run(dice(2));
            } else if (what == 3) {
                h.top();
            } else if (what == 4) {
                int k = dice(3);
                int j = dice(3);
                h.tip(k, j, dice(20) + 1);
            }
        }
        h.years(1);
    }

    private void toldIs(SoleraHouse x, int... want) {
        for (int what = 0; what < 4; what++) {
            same("told(" + what + ")", want[what], x.told(what));
        }
        same("told(4)", -1, x.told(4));
        same("told(-1)", -1, x.told(-1));
    }

    private void books() {
        SoleraHouse x = Check.houseOf(BODEGA);
        same("other lives", -1000, book(x, 2, "top;"));
        same("other lives", -1000, x.book(-1));
        same("the tape stays", 4, x.count(5));
        same("nothing told", -1, x.told(0));
        same("judged", -1, x.book(0));
        toldIs(x, 0, 1, 5, 65);
        same("all stays", 56, x.now(1));
        same("lived", 2, book(x, 1, "draw old 0 6;years 2;draw old 0 20;top;"));
        // Angels: 9 lose none, 20 one each year, 21 one, 20 one.
        toldIs(x, 1, 2, 7, 46);
        same("as far as it is not WRONG", 7, x.now(0));
        same("undone as one", 0, x.undo());
        same("YEAR 5", 5, x.now(0));
        same("empty", -1, book(x, 1, ""));
        toldIs(x, 0, 0, 5, 56);
        String[] wrong = {"draw old 0 16;", "draw old 2 400;", "run old;run old;", "run mid;",
            "draw old 1 20;run old;", "top;top;", "tip old 0 old 0 1;", "tip old 0 old 1 16;", "tip old 0 old 1 1;",
            "tip old 2 old 2 400;", "tip old 0 mid 1 1;", "years 35;", "years 34;years 1;"};
        int[] why = {1, 9, 11, 12, 13, 21, 31, 32, 33, 39, 39, 41, 41};
        int[] line = {0, 0, 1, 0, 1, 1, 0, 0, 0, 0, 0, 0, 1};
        for (int i = 0; i < wrong.length; i++) {
            same(wrong[i], line[i], book(x, 0, wrong[i]));
            same("why: " + wrong[i], why[i], x.told(0));
            same("LINES that are not", line[i], x.told(1));
        }
        same("just most", -1, book(x, 0, "top;draw mid 0 30;"));
        same("most 30", 2, book(x, 0, "draw mid 0 21;top;draw mid 0 10;"));
        same("why", 2, x.told(0));
        same("no such LINE's YEARS are lived", 5, x.now(0));
    }

    private void bookFault(SoleraHouse x, String text, int kind, int place) {
        same("book(1) of '" + text + "'", -2 - place, book(x, 1, text));
        same("fault() of '" + text + "'", kind, x.fault());
        same("told() stays, '" + text + "'", 7, x.told(2));
        same("all stays, '" + text + "'", 56, x.now(1));
    }

    private void bookFaults() {
        SoleraHouse x = Check.houseOf(BODEGA);
        book(x, 0, "years 2;");
        bookFault(x, "top", 1, 3);
        bookFault(x, "top;year 5;", 1, 4);
        bookFault(x, "old;", 1, 0);
        bookFault(x, "draw;", 1, 4);
        bookFault(x, "draw old;", 1, 8);
        bookFault(x, "draw old 0;", 1, 10);
        bookFault(x, "draw top 0 1;", 1, 5);
        bookFault(x, "draw old 4 1;", 2, 9);
        bookFault(x, "draw old 0 0;", 2, 11);
        bookFault(x, "draw old 0 401;", 2, 11);
        bookFault(x, "tip old 0 mid 0 401;", 2, 16);
        bookFault(x, "tip old 0 mid 4 1;", 2, 14);
        bookFault(x, "years 0;", 2, 6);
        bookFault(x, "years 40;", 2, 6);
        bookFault(x, "run new;", 3, 4);
        bookFault(x, "tip old 0 new 4 1;", 3, 10);
        StringBuilder b = new StringBuilder();
        for (int i = 0; i < 40; i++) {
            b.append("top;");
        }
        bookFault(x, b + "top;", 4, 160);
        bookFault(x, b + " top", 4, 161);
        bookFault(x, b + "foo;", 1, 160);
        same("a -1000 leaves the FAULT", -1000, x.book(5));
        same("the FAULT", 1, x.fault());
        same("40 LINES", 1, book(x, 0, b.toString()));
        same("no FAULT", 0, x.fault());
    }

    private void saidIs(SoleraHouse x, String text, int ones, int... casks) {
        same("sentence() of '" + text + "'", ones, sentence(x, text));
        same("no fault of '" + text + "'", 0, x.fault());
        same("how many, '" + text + "'", casks.length, x.said(-1));
        for (int k = 0; k < casks.length; k++) {
            same("the " + k + "-th, '" + text + "'", casks[k], x.said(k));
        }
        same("none such, '" + text + "'", -1, x.said(casks.length));
        same("none such -2, '" + text + "'", -1, x.said(-2));
    }

    private void sentences() {
        SoleraHouse x = Check.houseOf(BODEGA + "scale new 1 10;");
        saidIs(x, "full", 1, 1);
        saidIs(x, "empty", 1, 3);
        saidIs(x, "mixed", 1, 0, 2);
        saidIs(x, "in old", 1, 0, 1);
        saidIs(x, "has 4", 1, 2);
        saidIs(x, "has 39", 1);
        saidIs(x, "litres<20", 1, 0, 3);
        saidIs(x, "litres = 21", 1, 2);
        saidIs(x, "litres > 20", 1, 2);
        saidIs(x, "age = 3", 1, 0, 1);
        saidIs(x, "age = 0", 1, 2, 3);
        saidIs(x, "number > 0", 1, 1, 2, 3);
        saidIs(x, "number = 3", 1, 3);
        saidIs(x, "drawn < 999", 1, 0, 1, 2, 3);
        saidIs(x, "not full", 2, 0, 2, 3);
        saidIs(x, "not(full or mixed)", 4, 3);
        saidIs(x, "full or mixed and in old", 3, 0, 1);
        saidIs(x, "(full or mixed) and in old", 4, 0, 1);
        saidIs(x, "mixed and in mid or full", 3, 1, 2);
        saidIs(x, "in mid or not mixed and not full", 5, 2, 3);
        saidIs(x, "not in old and empty", 3, 3);
        saidIs(x, "not not full", 3, 1);
        saidIs(x, "full or empty or has 4", 3, 1, 2, 3);
        saidIs(x, "mixed and in old and has 1", 3, 0);
        sentence(x, "drawn > 5");
        same("none drawn", 0, x.said(-1));
        x.draw(1, 6);
        same("said as it is now", 1, x.said(-1));
        same("the first", 1, x.said(0));
        x.undo();
        same("the SENTENCE stays", 0, x.said(-1));
        same("a new HOUSE", 0, house(x, ""));
        same("no SENTENCE", -1, x.said(-1));
        same("of no CASKS", 1, sentence(x, "full"));
        same("none", 0, x.said(-1));
    }

    private void sentenceFault(SoleraHouse x, String text, int kind, int place) {
        same("sentence() of '" + text + "'", -1 - place, sentence(x, text));
        same("fault() of '" + text + "'", kind, x.fault());
        same("it stays, '" + text + "'", 2, x.said(-1));
    }

    private void sentenceFaults() {
        SoleraHouse x = Check.houseOf(BODEGA);
        sentence(x, "mixed");
        sentenceFault(x, "", 1, 0);
        sentenceFault(x, "  ", 1, 2);
        sentenceFault(x, "full empty", 1, 5);
        sentenceFault(x, "full;", 1, 4);
        sentenceFault(x, "full and", 1, 8);
        sentenceFault(x, "full or or", 1, 8);
        sentenceFault(x, "not", 1, 3);
        sentenceFault(x, "()", 1, 1);
        sentenceFault(x, "(full", 1, 5);
        sentenceFault(x, "full)", 1, 4);
        sentenceFault(x, "old", 1, 0);
        sentenceFault(x, "in 0", 1, 3);
        sentenceFault(x, "in full", 1, 3);
        sentenceFault(x, "in new", 3, 3);
        sentenceFault(x, "has 40", 2, 4);
        sentenceFault(x, "has old", 1, 4);
        sentenceFault(x, "litres 4", 1, 7);
        sentenceFault(x, "litres <= 4", 1, 8);
        sentenceFault(x, "litres < 1000", 1, 9);
        sentenceFault(x, "litres < full", 1, 9);
        sentenceFault(x, "litres < 4and full", 1, 9);
        sentenceFault(x, "top", 1, 0);
        String seven = "not not not not not not not ";
        sentenceFault(x, seven + "not full", 4, 32);
        sentenceFault(x, "((((((((full))))))))", 4, 8);
        sentenceFault(x, "((((((((;))))))))", 1, 8);
        StringBuilder b = new StringBuilder("full");
        for (int i = 1; i < 20; i++) {
            b.append(" or full");
        }
        sentenceFault(x, b + " or full", 4, 160);
        sentenceFault(x, b + " or (", 4, 160);
        sentenceFault(x, b + " or", 1, 159);
        same("8 within", 8, sentence(x, seven + "full"));
        same("not 7 times", 2, x.said(-1));
        same("7 brackets", 8, sentence(x, "(((((((full)))))))"));
        same("20 ONES", 20, sentence(x, b.toString()));
        same("8 within, side by side", 16, sentence(x, seven + "full and " + seven + "full"));
    }

    private void images() {
        SoleraHouse x = Check.houseOf(BODEGA);
        t.truth("nothing kept", false, x.restore(0));
        t.truth("place 2", false, x.image(2));
        t.truth("place -1", false, x.image(-1));
        t.truth("restore 2", false, x.restore(2));
        t.truth("restore -1", false, x.restore(-1));
        sentence(x, "full");
        x.draw(0, 6);
        t.truth("image", true, x.image(1));
        t.truth("the other place", false, x.restore(0));
        x.draw(0, 1);
        x.blend(0, 2, 3);
        x.tag(2);
        which(x, 2, 5);
        x.store(20, 3);
        book(x, 0, "years 30;");
        house(x, "scale z 1 10;");
        sentence(x, "empty");
        t.truth("image of the other", true, x.image(0));
        Check.put(x, "abc");
        t.truth("restore", true, x.restore(1));
        same("HOUSE", 3, x.count(1));
        same("first YEAR", 5, x.count(4));
        same("bottle", 4, x.bottle(1));
        same("cask", 9, x.cask(0, 2));
        same("drawn", 6, x.now(4));
        same("drawn this YEAR", 6, x.cask(0, 4));
        same("SENTENCE", 1, x.said(0));
        same("nothing can be undone", -1, x.undo());
        same("tape stays", 3, x.count(5));
        same("blendAt stays", 2, x.blendAt(1));
        same("byteAt stays", 'm', x.byteAt(0));
        same("ask stays", 0, x.ask());
        same("stored stays", 2, x.stored());
        same("told stays", 35, x.told(2));
        x.years(3);
        t.truth("again", true, x.restore(1));
        same("as kept", 5, x.now(0));
        t.truth("restore the other", true, x.restore(0));
        same("its HOUSE", 1, x.count(1));
        same("its SENTENCE", 0, x.said(0));
        same("its bottle", 0, x.now(6));
        SoleraHouse y = new SoleraHouse();
        t.truth("image of a new object", true, y.image(0));
        house(y, BODEGA);
        sentence(y, "full");
        y.restore(0);
        same("no SCALES", 0, y.count(0));
        same("no SENTENCE", -1, y.said(-1));
    }

    private void counts() {
        SoleraHouse x = Check.houseOf(BODEGA);
        int[] want = {2, 3, 9, 30, 5, 0};
        for (int what = 0; what < 6; what++) {
            same("count(" + what + ")", want[what], x.count(what));
        }
        same("count(6)", -1, x.count(6));
        same("count(-1)", -1, x.count(-1));
        x.years(2);
        same("the YEAR at first", 5, x.count(4));
        x.feed(1, 2, 3, 4, 5);
        same("bytes of the tape", 20, x.count(5));
    }

    private void greatest() {
        SoleraHouse x = Check.houseOf("year 0;angels 0;scale a 4 50;scale b 4 50;scale c 4 50;scale d 4 50;scale e 4 400;");
        same("20 CASKS", 20, x.count(1));
        same("all empty", 0xfffff, x.now(3));
        same("top", 0, x.top());
        same("the last four full", 0xf0000, x.now(2));
        same("1600 litres", 1600, x.scale(4, 2));
        same("of all 20 CASKS", 1600, x.now(1));
        x.years(1);
        for (int s = 3; s >= 0; s--) {
            same("run " + s, 0, x.run(s));
            same("but the next is empty then", s == 3 ? 1400 : 0, x.scale(s + 1, 2));
            same("from the one behind", 0, s == 3 ? 0 : x.run(s + 1));
            for (int i = s + 2; i < 4; i++) {
                same("and on", 0, x.run(i));
            }
        }
        same("all but the last are full", 0xffff, x.now(2));
        same("800 are left", 800, x.scale(4, 2));
        same("vintage 0 is all over", 0xfffff, x.where(0));
        same("top again", 0, x.top());
        same("all full", 0xfffff, x.now(2));
        same("last four have this YEAR's", 0xf0000, x.where(1));
        same("older", 1600, x.older(1));
        same("store 999: 200 of each of the last four, 50 of four more", 8, x.store(999, 1));
        same("as bits", 0xf000f, x.stored());
        same("store 950", 7, x.store(950, 1));
        same("as bits", 0xf0007, x.stored());
        same("tag", "e cask 3 400 of 400".length(), x.tag(19));
        same("its NUMBER", '3', x.byteAt(7));
        same("sentence", 1, sentence(x, "number > 18"));
        same("the last", 19, x.said(0));
        same("tip out of the last", 3, x.tip(19, 0, 400));
        same("draw of the last", 0, x.draw(19, 400));
        same("200 of 0", 200, x.bottle(0));
        same("ripe", 1, x.ripe(0, 2));
        same("plan", 1, x.plan(0, 2));
        t.truth("odds of the last", true, x.odds(19, 20, 1) >= 0);
        same("drawn", 38, x.drawn(39, 3));
        same("which of all", 0, which(x, 39, 200));
    }

    /** The 512th call of an object is the last one that is promised; the first four make its HOUSE. */
    private void usedFor512Calls() {
        SoleraHouse x = new SoleraHouse();
        same("call 4", 1, house(x, "scale a 1 10;"));
        for (int call = 5; call < 512; call += 2) {
            same("call " + call, 1, x.years(1));
            if (call < 511) {
                same("call " + (call + 1), 0, x.undo());
            }
        }
        same("call 512", 11, x.now(0));
    }
}
