/** The boundaries of the texts: TOKENS, HOUSE, BOOK, SENTENCE and FAULTS, each met and overstepped by one. */
public final class TextBoundsTest {
    private static final String[] RESERVED = ("scale wine year angels most draw run top tip years "
        + "or and not full empty mixed in has litres age drawn number").split(" ");

    // Which call judges a text.
    private static final int HOUSE = 1;
    private static final int BOOK = 2;
    private static final int SENTENCE = 3;
    // The HOUSE ahead of each text.
    private static final String BESIDE = "scale a 4 10;scale b 1 10;";

    private final Check t = new Check();

    public static void main(String[] args) {
        TextBoundsTest all = new TextBoundsTest();
        all.words();
        all.numbers();
        all.signsAndBlanks();
        all.tokensSideBySide();
        all.houseBytes();
        all.houseScales();
        all.houseRanges();
        all.houseRoom();
        all.houseOnce();
        all.houseYearAheadOfWine();
        all.houseWithout();
        all.names();
        all.numbering();
        all.bookBytes();
        all.bookLines();
        all.bookRanges();
        all.sentenceBytes();
        all.sentenceOnes();
        all.sentenceWithin();
        all.sentenceRanges();
        all.sentenceJoins();
        all.sentenceOfEdges();
        all.placeOfTheEnd();
        all.theLeastOfOneToken();
        all.theFirstAlong();
        all.t.close("TextBoundsTest");
    }

    private static int judge(int kind, SoleraHouse x, String text) {
        Check.put(x, text);
        return kind == HOUSE ? x.house() : kind == BOOK ? x.book(0) : x.sentence();
    }

    private void right(int kind, String text) {
        SoleraHouse x = Check.houseOf(BESIDE);
        int answer = judge(kind, x, text);
        t.truth("no FAULT of '" + text + "', " + answer, true, kind == BOOK ? answer >= -1 : answer >= 0);
        t.same("fault() of '" + text + "'", 0, x.fault());
    }

    private void wrong(int kind, String text, int fault, int place) {
        SoleraHouse x = Check.houseOf(BESIDE);
        t.same("the place in '" + text + "'", (kind == BOOK ? -2 : -1) - place, judge(kind, x, text));
        t.same("fault() of '" + text + "'", fault, x.fault());
        t.same("the tape behind '" + text + "'", 0, x.count(5));
        t.same("the HOUSE behind '" + text + "'", 5, x.count(1));
        t.same("the SENTENCE behind '" + text + "'", -1, x.said(-1));
        t.same("the BOOK behind '" + text + "'", -1, x.told(0));
    }

    /** A NUMBER between two texts: both ends may come, what is one beside them may not. */
    private void range(int kind, String ahead, String behind, int least, int greatest) {
        int place = ahead.length();
        right(kind, ahead + least + behind);
        right(kind, ahead + greatest + behind);
        if (least > 0) {
            wrong(kind, ahead + (least - 1) + behind, 2, place);
            wrong(kind, ahead + "000" + behind, 2, place);
        }
        if (greatest < 999) {
            wrong(kind, ahead + (greatest + 1) + behind, 2, place);
            wrong(kind, ahead + 999 + behind, 2, place);
        }
        wrong(kind, ahead + 1000 + behind, 1, place);
        wrong(kind, ahead + "0001" + behind, 1, place);
        wrong(kind, ahead + "a" + behind, 1, place);
        wrong(kind, ahead + ";" + behind, 1, place);
        wrong(kind, ahead, 1, place);
    }

    private static String times(int many, String text) {
        return text.repeat(many);
    }

    private static String behindBlanks(String text, int bytes) {
        return times(bytes - text.length(), " ") + text;
    }

    private void words() {
        right(HOUSE, "scale z 1 10;");
        right(HOUSE, "scale zzzzzzz 1 10;");
        wrong(HOUSE, "scale zzzzzzzz 1 10;", 1, 6);
        wrong(HOUSE, "scale " + times(60, "z") + " 1 10;", 1, 6);
        // 14 letters would run over a code of 5 bits each.
        wrong(HOUSE, "scale " + times(14, "a") + " 1 10;", 1, 6);
        wrong(HOUSE, "scale a1 1 10;", 1, 6);
        wrong(HOUSE, "scale 1a 1 10;", 1, 6);
        wrong(HOUSE, "scale aB 1 10;", 1, 7);
        wrong(HOUSE, "scale A 1 10;", 1, 6);
        wrong(HOUSE, "scale a" + (char) ('a' - 1) + " 1 10;", 1, 7);
        wrong(HOUSE, "scale a" + (char) ('z' + 1) + " 1 10;", 1, 7);
        wrong(HOUSE, "sscale a 1 10;", 1, 0);
        wrong(HOUSE, "scal a 1 10;", 1, 0);
        wrong(HOUSE, "scalee a 1 10;", 1, 0);
    }

    private void numbers() {
        right(HOUSE, "year 5;");
        right(HOUSE, "year 05;");
        right(HOUSE, "year 005;");
        wrong(HOUSE, "year 0005;", 1, 5);
        wrong(HOUSE, "year 4294967301;", 1, 5);
        wrong(HOUSE, "year 5" + (char) ('0' - 1) + ";", 1, 6);
        wrong(HOUSE, "year 5" + (char) ('9' + 1) + ";", 1, 6);
        wrong(HOUSE, "year -5;", 1, 5);
        wrong(HOUSE, "year ;", 1, 5);
        wrong(HOUSE, "year 1 0;", 1, 7);
    }

    private void signsAndBlanks() {
        right(HOUSE, " \n\n  year \n 5 \n ; \n");
        right(HOUSE, "");
        right(HOUSE, " ");
        right(HOUSE, "\n");
        int[] no = {0, 1, 9, 11, 12, 13, 31, 33, '"', ',', '.', '/', ':', '?', '@', 'Z', '[', '`', '{', 127, 128, 160, 255};
        for (int one : no) {
            wrong(HOUSE, "year 5;" + (char) one, 1, 7);
            wrong(BOOK, "top;" + (char) one, 1, 4);
            wrong(SENTENCE, "full" + (char) one, 1, 4);
            wrong(SENTENCE, "" + (char) one + "full", 1, 0);
        }
        for (int one : new int[] {';', '<', '=', '>', '(', ')'}) {
            wrong(HOUSE, "year 5;" + (char) one, 1, 7);
            wrong(BOOK, "top;" + (char) one, 1, 4);
            wrong(SENTENCE, "full" + (char) one, 1, 4);
        }
    }

    private void tokensSideBySide() {
        right(HOUSE, "year 5;scale c 1 10;wine c 0 5 1;");
        wrong(HOUSE, "year5;", 1, 0);
        wrong(HOUSE, "scale c1 10;", 1, 6);
        right(SENTENCE, "(full)or(empty)and not(mixed)");
        right(SENTENCE, "litres<5 and age>0 or full");
        wrong(SENTENCE, "litres<5and full", 1, 7);
        wrong(SENTENCE, "litres<5 and age>0or full", 1, 17);
        wrong(SENTENCE, "notfull", 1, 0);
        wrong(SENTENCE, "litres<<5", 1, 7);
        wrong(SENTENCE, "litres=>5", 1, 7);
    }

    private void houseBytes() {
        right(HOUSE, behindBlanks("year 5;", 899));
        right(HOUSE, behindBlanks("year 5;", 900));
        right(HOUSE, "year 5;" + times(893, "\n"));
        wrong(HOUSE, behindBlanks("year 5;", 901), 1, 900);
        wrong(HOUSE, "year 5;" + times(894, "\n"), 1, 900);
        wrong(HOUSE, "year 5;" + times(933, " "), 1, 900);
        wrong(HOUSE, times(940, " "), 1, 900);
        wrong(HOUSE, behindBlanks("year 5;year 5;", 901), 3, 894);
        wrong(HOUSE, behindBlanks("year 5;", 907), 1, 900);
        wrong(HOUSE, behindBlanks("year 5;", 906), 1, 900);
        wrong(HOUSE, behindBlanks("foo 5;", 905), 1, 899);
        wrong(HOUSE, behindBlanks("foo 5;", 906), 1, 900);
        wrong(HOUSE, behindBlanks("year 30;", 902), 2, 899);
        wrong(HOUSE, behindBlanks("year 30;", 903), 1, 900);
        wrong(HOUSE, behindBlanks("year 29;", 902), 1, 900);
        wrong(HOUSE, behindBlanks("year 1000;", 904), 1, 899);
        wrong(HOUSE, behindBlanks("year 5a;", 902), 1, 899);
        wrong(HOUSE, behindBlanks("year 5", 900), 1, 900);
        wrong(HOUSE, behindBlanks("year 5", 899), 1, 899);
        wrong(HOUSE, behindBlanks("year 5", 901), 1, 900);
        wrong(HOUSE, behindBlanks("year 5", 900) + " ", 1, 900);
    }

    private void houseScales() {
        SoleraHouse x = new SoleraHouse();
        String five = "scale c 1 10;scale d 1 10;scale e 1 10;scale f 1 10;scale g 1 10;";
        for (int many = 0; many <= 5; many++) {
            t.same(many + " SCALES", many, judge(HOUSE, x, five.substring(0, 13 * many)));
            t.same("SCALES", many, x.count(0));
            t.same("CASKS", many, x.count(1));
        }
        wrong(HOUSE, five + "scale h 1 10;", 4, 65);
        wrong(HOUSE, five + " scale", 4, 66);
        wrong(HOUSE, five + "scale c 1 10;", 4, 65);
        wrong(HOUSE, five + "scale 9", 4, 65);
        right(HOUSE, five + "wine g 0 10 10;");
        wrong(HOUSE, five + "wine h 0 10 10;", 3, 70);
        right(HOUSE, five + "most 5;");
    }

    private void houseRanges() {
        range(HOUSE, "scale c ", " 10;", 1, 4);
        range(HOUSE, "scale c 1 ", ";", 10, 400);
        range(HOUSE, "year ", ";", 0, 29);
        range(HOUSE, "angels ", ";", 0, 9);
        range(HOUSE, "most ", ";", 1, 400);
        for (int casks = 1; casks <= 4; casks++) {
            range(HOUSE, "scale c " + casks + " 10;wine c ", " 0 1;", 0, casks - 1);
        }
        range(HOUSE, "scale c 1 10;scale d 3 10;wine d ", " 0 1;", 0, 2);
        range(HOUSE, "scale c 1 10;wine c 0 ", " 1;", 0, 10);
        range(HOUSE, "year 0;scale c 1 10;wine c 0 ", " 1;", 0, 0);
        range(HOUSE, "year 1;scale c 1 10;wine c 0 ", " 1;", 0, 1);
        range(HOUSE, "year 29;scale c 1 10;wine c 0 ", " 1;", 0, 29);
        SoleraHouse x = new SoleraHouse();
        for (int casks = 1; casks <= 4; casks++) {
            judge(HOUSE, x, "scale c " + casks + " 10;");
            t.same("CASKS", casks, x.scale(0, 0));
            t.same("one more is none", -1, x.cask(casks, 0));
        }
        judge(HOUSE, x, "year 0;angels 0;most 1;scale c 1 10;");
        t.same("least YEAR", 0, x.now(0));
        t.same("least angels", 0, x.count(2));
        t.same("least most", 1, x.count(3));
        t.same("least HOLDS", 10, x.scale(0, 1));
        judge(HOUSE, x, "year 29;angels 9;most 400;scale c 1 400;");
        t.same("greatest YEAR", 29, x.now(0));
        t.same("greatest angels", 9, x.count(2));
        t.same("greatest most", 400, x.count(3));
        t.same("greatest HOLDS", 400, x.scale(0, 1));
    }

    private void houseRoom() {
        String ahead = "scale c 2 10;wine c 0 1 ";
        range(HOUSE, ahead, ";", 1, 10);
        range(HOUSE, ahead + "1;wine c 0 1 ", ";", 1, 9);
        range(HOUSE, ahead + "4;wine c 0 2 ", ";", 1, 6);
        range(HOUSE, ahead + "9;wine c 0 10 ", ";", 1, 1);
        range(HOUSE, ahead + "10;wine c 1 10 ", ";", 1, 10);
        wrong(HOUSE, ahead + "10;wine c 0 1 1;", 2, 38);
        wrong(HOUSE, ahead + "10;wine c 0 1 0;", 2, 38);
        wrong(HOUSE, ahead + "10;wine c 0 1 10;", 2, 38);
        range(HOUSE, "scale c 1 400;wine c 0 0 ", ";", 1, 400);
        range(HOUSE, "scale c 1 400;wine c 0 0 399;wine c 0 0 ", ";", 1, 1);
        SoleraHouse x = Check.houseOf(ahead + "4;wine c 0 1 5;wine c 0 2 1;");
        t.same("litres more of one VINTAGE", 9, x.litres(0, 1));
        t.same("and of another", 1, x.litres(0, 2));
        t.same("full", 0, x.cask(0, 3));
        t.same("the other is empty", 10, x.cask(1, 3));
    }

    private void houseOnce() {
        wrong(HOUSE, "year 5;year 5;", 3, 7);
        wrong(HOUSE, "year 5;most 4;year", 3, 14);
        wrong(HOUSE, "angels 5; angels 6;", 3, 10);
        wrong(HOUSE, "most 5;\nmost 400;", 3, 8);
        wrong(HOUSE, "most 5;most", 3, 7);
        right(HOUSE, "most 5;year 5;angels 5;");
        right(HOUSE, "angels 2;most 400;year 10;");
        SoleraHouse x = Check.houseOf("year 5;angels 5;most 5;");
        t.same("a new HOUSE may tell them again", 3, judge(HOUSE, x, "year 6;angels 6;most 6;"));
        t.same("as told", 6, x.count(2));
        t.same("not told", 0, judge(HOUSE, x, ""));
        t.same("angels without", 2, x.count(2));
        t.same("most without", 400, x.count(3));
        t.same("YEAR without", 10, x.count(4));
        t.same("it is that YEAR", 10, x.now(0));
        t.same("a FAULT behind them", -15, judge(HOUSE, x, "year 6;most 6;;"));
        t.same("leaves 'most'", 400, x.count(3));
        t.same("and the YEAR", 10, x.count(4));
    }

    private void houseYearAheadOfWine() {
        right(HOUSE, "scale c 1 10;year 5;wine c 0 5 1;");
        wrong(HOUSE, "scale c 1 10;wine c 0 5 1;year 5;", 3, 26);
        wrong(HOUSE, "scale c 1 10;wine c 0 5 1;year", 3, 26);
        wrong(HOUSE, "year 5;scale c 1 10;wine c 0 5 1;year 5;", 3, 33);
        wrong(HOUSE, "scale c 1 10;year 5;wine c 0 6 1;", 2, 29);
        right(HOUSE, "scale c 1 10;year 6;wine c 0 6 1;");
        right(HOUSE, "scale c 1 10;wine c 0 5 1;angels 5;most 5;scale d 1 10;wine d 0 0 1;");
    }

    private void houseWithout() {
        SoleraHouse x = Check.houseOf(BESIDE);
        t.same("an empty HOUSE has no LINES", 0, judge(HOUSE, x, ""));
        t.same("no SCALES", 0, x.count(0));
        t.same("no CASKS", 0, x.count(1));
        t.same("one LINE", 1, judge(HOUSE, x, "most 9;"));
        // A HOUSE's LINES are bounded by its bytes alone: these have 797.
        String lines = "scale c 4 400;" + times(59, "wine c 0 0 1;") + "most 9;" + "angels 1;";
        t.same("62 LINES", 62, judge(HOUSE, x, lines));
        t.same("all are read", 59, x.litres(0, 0));
    }

    private void names() {
        for (String word : RESERVED) {
            wrong(HOUSE, "scale " + word + " 1 10;", 1, 6);
            wrong(HOUSE, "scale c 1 10;wine " + word + " 0 0 1;", 1, 18);
            wrong(BOOK, "run " + word + ";", 1, 4);
            wrong(BOOK, "draw " + word + " 0 1;", 1, 5);
            wrong(BOOK, "tip a 0 " + word + " 0 1;", 1, 8);
            wrong(SENTENCE, "in " + word, 1, 3);
        }
        String[] beside = {"scales", "scal", "wines", "win", "yea", "yearss", "angel", "mos", "draws", "ran", "runs", "tops", "to",
            "tips", "o", "orr", "an", "ands", "no", "nots", "ful", "fulls", "mix", "i", "ins", "ha", "litre", "ages", "numbers", "cask",
            "of", "none", "house", "book"};
        for (String word : beside) {
            right(HOUSE, "scale " + word + " 1 10;wine " + word + " 0 0 1;");
        }
        wrong(HOUSE, "scale c 1 10;scale c 2 20;", 3, 19);
        right(HOUSE, "scale c 1 10;scale cc 2 20;");
        right(HOUSE, "scale ab 1 10;scale ba 2 20;scale a 1 10;scale b 1 10;");
        wrong(HOUSE, "wine c 0 0 1;", 3, 5);
        wrong(HOUSE, "wine c 0 0 1;scale c 1 10;", 3, 5);
        wrong(HOUSE, "scale c 1 10;wine cc 0 0 1;", 3, 18);
        wrong(HOUSE, "scale c 1 10;wine a 0 0 1;", 3, 18);
        right(BOOK, "run a;");
        wrong(BOOK, "run c;", 3, 4);
        wrong(BOOK, "draw aa 9 0;", 3, 5);
        right(SENTENCE, "in b");
        wrong(SENTENCE, "in bb", 3, 3);
    }

    private void numbering() {
        SoleraHouse x = Check.houseOf("scale b 2 10;scale a 1 20;scale c 4 30;");
        int[] scale = {0, 0, 1, 2, 2, 2, 2};
        int[] number = {0, 1, 0, 0, 1, 2, 3};
        for (int k = 0; k < 7; k++) {
            t.same("SCALE of " + k, scale[k], x.cask(k, 0));
            t.same("NUMBER of " + k, number[k], x.cask(k, 1));
            t.same("room of " + k, 10 * scale[k] + 10, x.cask(k, 3));
        }
        t.same("no eighth", -1, x.cask(7, 0));
    }

    private void bookBytes() {
        right(BOOK, behindBlanks("years 1;", 399));
        right(BOOK, behindBlanks("years 1;", 400));
        right(BOOK, "years 1;" + times(392, "\n"));
        wrong(BOOK, behindBlanks("years 1;", 401), 1, 400);
        wrong(BOOK, "years 1;" + times(393, " "), 1, 400);
        wrong(BOOK, times(900, " "), 1, 400);
        wrong(BOOK, behindBlanks("years 40;", 402), 2, 399);
        wrong(BOOK, behindBlanks("years 40;", 403), 1, 400);
        wrong(BOOK, behindBlanks("years 39;", 402), 1, 400);
        wrong(BOOK, behindBlanks("run c;", 401), 3, 399);
        wrong(BOOK, behindBlanks("run c;", 402), 1, 400);
        wrong(BOOK, behindBlanks("foo", 402), 1, 399);
        wrong(BOOK, behindBlanks("foo", 403), 1, 400);
    }

    private void bookLines() {
        SoleraHouse x = Check.houseOf("year 0;");
        t.same("no LINE", -1, judge(BOOK, x, ""));
        t.same("none", 0, x.told(1));
        t.same("39 LINES", -1, judge(BOOK, x, times(39, "years 1;")));
        t.same("39", 39, x.told(1));
        t.same("40 LINES: the last is WRONG, not a FAULT", 39, judge(BOOK, x, times(40, "years 1;")));
        t.same("no FAULT", 0, x.fault());
        wrong(BOOK, times(41, "years 1;"), 4, 320);
        wrong(BOOK, times(40, "top;") + "\ntop;", 4, 161);
        wrong(BOOK, times(40, "top;") + "years", 4, 160);
        wrong(BOOK, times(40, "top;") + "scale", 1, 160);
        wrong(BOOK, times(40, "top;") + ";", 1, 160);
        right(BOOK, times(40, "top;") + " ");
        right(BOOK, times(39, "top;") + "top ;");
        wrong(BOOK, times(39, "top;") + "top", 1, 159);
    }

    private void bookRanges() {
        range(BOOK, "draw a ", " 1;", 0, 3);
        range(BOOK, "draw b ", " 1;", 0, 3);
        range(BOOK, "draw a 0 ", ";", 1, 400);
        range(BOOK, "tip a ", " b 0 1;", 0, 3);
        range(BOOK, "tip b 0 b ", " 1;", 0, 3);
        range(BOOK, "tip a 0 b 0 ", ";", 1, 400);
        range(BOOK, "years ", ";", 1, 39);
        wrong(BOOK, "run a 0;", 1, 6);
        wrong(BOOK, "top a;", 1, 4);
        wrong(BOOK, "draw 0 1;", 1, 5);
        wrong(BOOK, "tip a 0 1;", 1, 8);
        wrong(BOOK, "year 5;", 1, 0);
        wrong(BOOK, "full;", 1, 0);
        wrong(BOOK, "a;", 1, 0);
        wrong(BOOK, "5;", 1, 0);
    }

    private void sentenceBytes() {
        right(SENTENCE, behindBlanks("full", 199));
        right(SENTENCE, behindBlanks("full", 200));
        right(SENTENCE, "full" + times(196, "\n"));
        wrong(SENTENCE, behindBlanks("full", 201), 1, 200);
        wrong(SENTENCE, behindBlanks("full", 203), 1, 200);
        wrong(SENTENCE, behindBlanks("full", 204), 1, 200);
        wrong(SENTENCE, "full" + times(197, " "), 1, 200);
        wrong(SENTENCE, times(200, " "), 1, 200);
        wrong(SENTENCE, times(201, " "), 1, 200);
        wrong(SENTENCE, behindBlanks("in c", 200), 3, 199);
        wrong(SENTENCE, behindBlanks("in ccc", 202), 3, 199);
        wrong(SENTENCE, behindBlanks("in ccc", 203), 1, 200);
        wrong(SENTENCE, behindBlanks("has 40", 201), 2, 199);
        wrong(SENTENCE, behindBlanks("has 39", 201), 1, 200);
        wrong(SENTENCE, behindBlanks("age < 1000", 203), 1, 199);
    }

    private void sentenceOnes() {
        SoleraHouse x = Check.houseOf(BESIDE);
        String nineteen = times(18, "full or ") + "empty";
        t.same("1 ONE", 1, judge(SENTENCE, x, "full"));
        t.same("19 ONES", 19, judge(SENTENCE, x, nineteen));
        t.same("20 ONES", 20, judge(SENTENCE, x, nineteen + " or mixed"));
        t.same("20 by 'and'", 20, judge(SENTENCE, x, times(19, "full and ") + "full"));
        t.same("'not' is one", 20, judge(SENTENCE, x, times(18, "full or ") + "not full"));
        t.same("a bracket is one", 20, judge(SENTENCE, x, times(18, "full or ") + "(full)"));
        t.same("brackets and 'not'", 20, judge(SENTENCE, x, times(4, "not(not full) or ") + "not not not full"));
        wrong(SENTENCE, nineteen + " or mixed or mixed", 4, nineteen.length() + 13);
        wrong(SENTENCE, nineteen + " or not mixed", 4, nineteen.length() + 8);
        wrong(SENTENCE, nineteen + " or (mixed)", 4, nineteen.length() + 5);
        wrong(SENTENCE, nineteen + " and mixed and ( mixed", 4, nineteen.length() + 15);
        wrong(SENTENCE, nineteen + " or mixed or not", 4, nineteen.length() + 13);
        wrong(SENTENCE, nineteen + " or mixed or in", 4, nineteen.length() + 13);
        wrong(SENTENCE, nineteen + " or mixed or a", 1, nineteen.length() + 13);
        wrong(SENTENCE, nineteen + " or mixed or", 1, nineteen.length() + 12);
        wrong(SENTENCE, nineteen + " or mixed or )", 1, nineteen.length() + 13);
    }

    private void sentenceWithin() {
        SoleraHouse x = Check.houseOf(BESIDE);
        t.same("7 within", 7, judge(SENTENCE, x, times(6, "not ") + "full"));
        t.same("8 within", 8, judge(SENTENCE, x, times(7, "not ") + "full"));
        t.same("8 by brackets", 8, judge(SENTENCE, x, times(7, "(") + "full" + times(7, ")")));
        t.same("8 by both", 8, judge(SENTENCE, x, times(3, "not(") + "not full" + times(3, ")")));
        t.same("8 in the second", 10, judge(SENTENCE, x, "full or " + times(7, "(") + "full or full" + times(7, ")")));
        t.same("8 and 8", 16, judge(SENTENCE, x, times(7, "(") + "full" + times(7, ")") + "and " + times(7, "not ") + "full"));
        wrong(SENTENCE, times(8, "not ") + "full", 4, 32);
        wrong(SENTENCE, times(9, "not ") + "full", 4, 32);
        wrong(SENTENCE, times(8, "(") + "full" + times(8, ")"), 4, 8);
        wrong(SENTENCE, times(8, "(") + "not full" + times(8, ")"), 4, 8);
        wrong(SENTENCE, times(9, "("), 4, 8);
        wrong(SENTENCE, times(4, "not(") + "full", 4, 16);
        wrong(SENTENCE, times(7, "(") + "full or (full", 4, 16);
        wrong(SENTENCE, times(7, "(") + "full or not full", 4, 19);
        wrong(SENTENCE, times(8, "(") + "a", 1, 8);
        wrong(SENTENCE, times(8, "("), 1, 8);
        wrong(SENTENCE, times(150, "("), 4, 8);
    }

    private void sentenceRanges() {
        range(SENTENCE, "has ", "", 0, 39);
        for (String word : new String[] {"litres", "age", "drawn", "number"}) {
            for (String sign : new String[] {"<", "=", ">"}) {
                range(SENTENCE, word + sign, "", 0, 999);
            }
            wrong(SENTENCE, word, 1, word.length());
            wrong(SENTENCE, word + " 5", 1, word.length() + 1);
            wrong(SENTENCE, word + ";5", 1, word.length());
            wrong(SENTENCE, word + "<", 1, word.length() + 1);
        }
    }

    private void saidIs(SoleraHouse x, String text, int... casks) {
        t.truth("'" + text + "' is a SENTENCE", true, judge(SENTENCE, x, text) > 0);
        t.same("of how many, '" + text + "'", casks.length, x.said(-1));
        for (int i = 0; i < casks.length; i++) {
            t.same("CASK " + i + " of '" + text + "'", casks[i], x.said(i));
        }
        t.same("no more of '" + text + "'", -1, x.said(casks.length));
    }

    private void sentenceJoins() {
        SoleraHouse x = Check.houseOf("scale a 2 10;scale b 1 10;wine a 0 0 10;wine b 0 0 10;");
        // 0 is full and in a, 1 is empty and in a, 2 is full and in b.
        saidIs(x, "full or empty and in b", 0, 2);
        saidIs(x, "(full or empty) and in b", 2);
        saidIs(x, "in b and empty or full", 0, 2);
        saidIs(x, "in b and (empty or full)", 2);
        saidIs(x, "not in b and full", 0);
        saidIs(x, "not (in b and full)", 0, 1);
        saidIs(x, "not in b or full", 0, 1, 2);
        saidIs(x, "full and in a or full and in b or empty", 0, 1, 2);
        saidIs(x, "full and in a and number < 1 or in a and empty", 0, 1);
        saidIs(x, "empty or in b or full and not full", 1, 2);
        saidIs(x, "not not not empty", 0, 2);
        saidIs(x, "full and empty");
        // 20 ONES, each of which matters.
        saidIs(x, times(19, "full or ") + "empty", 0, 1, 2);
        saidIs(x, times(18, "full or ") + "not full", 0, 1, 2);
        saidIs(x, times(19, "in a and ") + "empty", 1);
        saidIs(x, times(6, "(in b and full)or ") + "empty", 1, 2);
    }

    private void sentenceOfEdges() {
        // CASK 0: full, of AGE 10; 1: one litre less, of 0 and 10, AGE 1 1/9; 2: 1 litre; 3: empty; 4: full of three VINTAGES.
        SoleraHouse x = Check.houseOf("scale a 4 10;scale b 1 20;wine a 0 0 10;wine a 1 0 1;wine a 1 10 8;wine a 2 10 1;"
            + "wine b 0 1 1;wine b 0 2 1;wine b 0 3 18;");
        saidIs(x, "full", 0, 4);
        saidIs(x, "empty", 3);
        saidIs(x, "mixed", 1, 4);
        saidIs(x, "has 0", 0, 1);
        saidIs(x, "has 10", 1, 2);
        saidIs(x, "has 39");
        saidIs(x, "litres < 1", 3);
        saidIs(x, "litres < 0");
        saidIs(x, "litres = 0", 3);
        saidIs(x, "litres > 0", 0, 1, 2, 4);
        saidIs(x, "litres < 9", 2, 3);
        saidIs(x, "litres = 9", 1);
        saidIs(x, "litres > 9", 0, 4);
        saidIs(x, "litres < 999", 0, 1, 2, 3, 4);
        // An empty CASK's AGE is 0, as is one of this YEAR.
        saidIs(x, "age = 0", 2, 3);
        saidIs(x, "age < 1", 2, 3);
        saidIs(x, "age > 0", 0, 1, 4);
        // 10 by 9: what is behind the whole is left off.
        saidIs(x, "age = 1", 1);
        saidIs(x, "age < 2", 1, 2, 3);
        saidIs(x, "age > 1", 0, 4);
        // 9 + 8 + 126 by 20 is 7 3/20.
        saidIs(x, "age = 7", 4);
        saidIs(x, "age = 10", 0);
        saidIs(x, "number = 0", 0);
        saidIs(x, "number < 1", 0);
        saidIs(x, "number > 3", 4);
        saidIs(x, "number = 4", 4);
        saidIs(x, "number > 4");
        saidIs(x, "in b", 4);
        saidIs(x, "drawn = 0", 0, 1, 2, 3, 4);
        x.draw(0, 1);
        x.draw(4, 5);
        x.draw(4, 1);
        saidIs(x, "drawn = 0", 1, 2, 3);
        saidIs(x, "drawn > 0", 0, 4);
        saidIs(x, "drawn = 6", 4);
        saidIs(x, "drawn < 6", 0, 1, 2, 3);
        x.years(1);
        saidIs(x, "drawn > 0");
    }

    private void placeOfTheEnd() {
        wrong(HOUSE, "year 5", 1, 6);
        wrong(HOUSE, "year 5 \n", 1, 8);
        wrong(HOUSE, "year", 1, 4);
        wrong(BOOK, "top", 1, 3);
        wrong(BOOK, "draw a 0  ", 1, 10);
        wrong(SENTENCE, "", 1, 0);
        wrong(SENTENCE, " \n ", 1, 3);
        wrong(SENTENCE, "not", 1, 3);
        wrong(SENTENCE, "(full ", 1, 6);
        wrong(SENTENCE, "full or", 1, 7);
    }

    private void theLeastOfOneToken() {
        // A WORD that can't come is 1, be it a NAME not told or a LINE too many.
        wrong(HOUSE, "scale c 1 10;wine most 0 0 1;", 1, 18);
        wrong(HOUSE, "scale c 1 10;c 0 0 1;", 1, 13);
        // A NUMBER that is no TOKEN is 1, though it is too great, too.
        wrong(HOUSE, "most 4000;", 1, 5);
        wrong(BOOK, times(40, "top;") + "a", 1, 160);
        wrong(SENTENCE, times(8, "not ") + "in", 4, 32);
        wrong(SENTENCE, times(8, "not ") + "and", 1, 32);
        // A ninth within that is a 21st ONE as well.
        wrong(SENTENCE, times(12, "full or ") + times(8, "(") + "full", 4, 104);
    }

    private void theFirstAlong() {
        wrong(HOUSE, "scale c 5 9;", 2, 8);
        wrong(HOUSE, "scale c 1 9;scale c 1 10;", 2, 10);
        wrong(HOUSE, "scale c 1 10;scale c 9 9;", 3, 19);
        wrong(HOUSE, "scale c 1 10;wine c 1 11 0;", 2, 20);
        wrong(HOUSE, "scale c 1 10;wine d 1 11 0;", 3, 18);
        wrong(HOUSE, "scale c 1 10;wine c 0 11 0;", 2, 22);
        wrong(HOUSE, "year 30 year 5;", 2, 5);
        wrong(BOOK, "draw c 4 401;", 3, 5);
        wrong(BOOK, "draw a 4 401;", 2, 7);
        wrong(BOOK, "tip a 0 c 4 0;", 3, 8);
        wrong(SENTENCE, "in c and has 40", 3, 3);
        wrong(SENTENCE, "has 40 and in c", 2, 4);
    }
}
