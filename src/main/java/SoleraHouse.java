import java.util.Arrays;
import java.util.NoSuchElementException;

/** A solera house: scales of casks, wine of vintages in whole litres, and the years that go over it. */
public final class SoleraHouse {
    public static final int NONE = -1;

    private static final int VINTAGES = 40;
    private static final int LAST_YEAR = 39;
    private static final int SCALES = 5;
    private static final int CASKS_OF_SCALE = 4;
    private static final int CASKS = 20;
    private static final int MOST_LITRES = 400;
    private static final int BLEND_LITRES = 20;
    private static final int STORE_LITRES = 999;
    private static final int PAIRS = 20;
    private static final int ODDS_SEEDS = 20;
    private static final int ODDS_YEARS = 3;
    private static final int ACTS = 8;
    private static final int IMAGES = 2;

    private static final int TAPE_BYTES = 940;
    private static final int FEED_BYTES = 20;
    private static final int HOUSE_BYTES = 900;
    private static final int BOOK_BYTES = 400;
    private static final int SENTENCE_BYTES = 200;
    private static final int TAG_BYTES = 40;
    private static final int BOOK_LINES = 40;
    private static final int ONES = 20;
    private static final int ONES_WITHIN = 8;
    private static final int WORD_LETTERS = 7;
    private static final int NUMBER_DIGITS = 3;

    private static final int OTHER_LIVES = -1000;

    private static final int NO_TOKEN = 1;
    private static final int WRONG_NUMBER = 2;
    private static final int WRONG_NAME = 3;
    private static final int TOO_MANY = 4;

    private static final int END = 0;
    private static final int BAD = 1;
    private static final int WORD = 2;
    private static final int NUMBER = 3;

    // The words that are no NAMES, each with a blank behind it; the constants below are their places in this text.
    private static final String WORDS =
        "scale wine year angels most draw run top tip years or and not full empty mixed in has litres age drawn number ";
    private static final int W_SCALE = 0;
    private static final int W_WINE = 1;
    private static final int W_YEAR = 2;
    private static final int W_ANGELS = 3;
    private static final int W_MOST = 4;
    private static final int W_DRAW = 5;
    private static final int W_RUN = 6;
    private static final int W_TOP = 7;
    private static final int W_TIP = 8;
    private static final int W_YEARS = 9;
    private static final int W_OR = 10;
    private static final int W_AND = 11;
    private static final int W_NOT = 12;
    private static final int W_FULL = 13;
    private static final int W_EMPTY = 14;
    private static final int W_MIXED = 15;
    private static final int W_IN = 16;
    private static final int W_HAS = 17;
    private static final int W_LITRES = 18;
    private static final int W_AGE = 19;
    private static final int W_DRAWN = 20;
    private static final int W_NUMBER = 21;

    private final int[] tape = new int[TAPE_BYTES];
    private int tapeLength;
    private final Reader reader = new Reader();
    private int latestFault;

    private final Cellarman man = new Cellarman();
    private final Reckoner reckoner = new Reckoner();
    private final Chance chance = new Chance();
    private final BookText bookText = new BookText();

    // Acts are tried on the second cellar and the two change places when they are done.
    private Cellar cellar;
    private Cellar trial;
    private Sentence saying;

    private final Cellar[] acts = new Cellar[ACTS];
    private int actsNext;
    private int actsKept;
    private final Cellar[] keptCellars = new Cellar[IMAGES];
    private final Sentence[] keptSayings = new Sentence[IMAGES];

    private final int[] lastTold = new int[4];
    private boolean anyTold;
    private final Tag lastTag = new Tag();

    public SoleraHouse() {
        Layout without = new Layout();
        cellar = new Cellar(without);
        trial = new Cellar(without);
    }

    public int feed(int a, int b, int c, int d, int e) {
        if (tapeLength + FEED_BYTES > TAPE_BYTES) {
            return NONE;
        }
        feedNumber(a);
        feedNumber(b);
        feedNumber(c);
        feedNumber(d);
        feedNumber(e);
        return tapeLength;
    }

    private void feedNumber(int number) {
        for (int shift = 24; shift >= 0 && tapeLength < TAPE_BYTES; shift -= 8) {
            tape[tapeLength] = (number >>> shift) & 255;
            tapeLength++;
        }
    }

    public boolean end(int n) {
        if (n < 0 || n > tapeLength) {
            return false;
        }
        tapeLength = n;
        return true;
    }

    public int house() {
        openTape(HOUSE_BYTES);
        HouseText text = new HouseText(reader, trial);
        boolean right = text.read();
        latestFault = reader.fault;
        if (!right) {
            return -1 - reader.place;
        }
        Cellar old = cellar;
        cellar = trial;
        trial = old;
        saying = null;
        actsKept = 0;
        return text.lines;
    }

    private void openTape(int most) {
        reader.open(tape, tapeLength, most);
        tapeLength = 0;
    }

    public int fault() {
        return latestFault;
    }

    public int cask(int k, int what) {
        if (noCask(k)) {
            return NONE;
        }
        Layout layout = cellar.layout;
        switch (what) {
            case 0: return layout.scaleOf[k];
            case 1: return layout.numberOf(k);
            case 2: return cellar.have[k];
            case 3: return cellar.lackOf(k);
            case 4: return cellar.drawnNow[k];
            case 5: return cellar.oldest(k);
            case 6: return cellar.youngest(k);
            default: return NONE;
        }
    }

    private boolean noCask(int k) {
        return k < 0 || k >= cellar.layout.casks;
    }

    private boolean noScale(int s) {
        return s < 0 || s >= cellar.layout.scales;
    }

    private static boolean noVintage(int v) {
        return v < 0 || v >= VINTAGES;
    }

    private static boolean noHalf(int what) {
        return what != 0 && what != 1;
    }

    public int litres(int k, int v) throws NoSuchElementException {
        if (noCask(k) || noVintage(v)) {
            throw new NoSuchElementException();
        }
        return cellar.wine[k][v];
    }

    public int age(int k, int what) throws NoSuchElementException {
        if (noCask(k) || noHalf(what) || cellar.have[k] == 0) {
            throw new NoSuchElementException();
        }
        return Reckoner.half(cellar.agesOf(k), cellar.have[k], what);
    }

    public int old(int s, int what) throws NoSuchElementException {
        if (noScale(s) || noHalf(what) || cellar.haveOfScale(s) == 0) {
            throw new NoSuchElementException();
        }
        return Reckoner.half(cellar.agesOfScale(s), cellar.haveOfScale(s), what);
    }

    public int now(int what) {
        switch (what) {
            case 0: return cellar.year;
            case 1: return cellar.haveInAll();
            case 2: return cellar.fullCasks();
            case 3: return cellar.emptyCasks();
            case 4: return cellar.drawnEver;
            case 5: return cellar.angelsEver;
            case 6: return cellar.inBottle();
            default: return NONE;
        }
    }

    public int bottle(int v) {
        return noVintage(v) ? NONE : cellar.bottle[v];
    }

    public int draw(int k, int n) {
        if (noCask(k) || n < 1 || n > MOST_LITRES) {
            return NONE;
        }
        trial.copyFrom(cellar);
        return settle(man.tryDraw(trial, k, n));
    }

    public int run(int s) {
        if (noScale(s)) {
            return NONE;
        }
        trial.copyFrom(cellar);
        return settle(man.tryRun(trial, s));
    }

    public int top() {
        trial.copyFrom(cellar);
        return settle(man.tryTop(trial));
    }

    public int tip(int k, int j, int n) {
        if (noCask(k) || noCask(j) || n < 1 || n > MOST_LITRES) {
            return NONE;
        }
        trial.copyFrom(cellar);
        return settle(man.tryTip(trial, k, j, n));
    }

    private int settle(int why) {
        if (why == 0) {
            keepAct();
        }
        return why;
    }

    private void keepAct() {
        Cellar spare = acts[actsNext];
        acts[actsNext] = cellar;
        cellar = trial;
        trial = spare == null ? new Cellar(cellar.layout) : spare;
        actsNext = (actsNext + 1) % ACTS;
        if (actsKept < ACTS) {
            actsKept++;
        }
    }

    public int years(int n) {
        if (n < 1 || n > LAST_YEAR) {
            return NONE;
        }
        trial.copyFrom(cellar);
        int gone = man.letYears(trial, n);
        if (gone > 0) {
            keepAct();
        }
        return gone;
    }

    public int undo() {
        if (actsKept == 0) {
            return NONE;
        }
        int latest = (actsNext + ACTS - 1) % ACTS;
        Cellar before = acts[latest];
        if (before == null) {
            return NONE;
        }
        acts[latest] = cellar;
        cellar = before;
        actsNext = latest;
        actsKept--;
        return actsKept;
    }

    public int blend(int s, int n, int a) {
        if (noScale(s) || n < 1 || n > BLEND_LITRES || noVintage(a) || cellar.haveOfScale(s) < n) {
            return NONE;
        }
        return reckoner.bestBlend(cellar, man, s, n, a);
    }

    public int blendAt(int i) {
        return i < 0 || i >= reckoner.blendCasks ? NONE : reckoner.blended[i];
    }

    public int ripe(int k, int a) {
        if (noCask(k) || noVintage(a)) {
            return NONE;
        }
        trial.copyFrom(cellar);
        return reckoner.yearsToRipe(trial, man, k, a);
    }

    public int plan(int n, int a) {
        if (n < 0 || n > MOST_LITRES || noVintage(a)) {
            return NONE;
        }
        trial.copyFrom(cellar);
        return reckoner.yearsByPlan(trial, man, n, a);
    }

    public int which() {
        int bytes = tapeLength;
        tapeLength = 0;
        if (!reckoner.readPairs(tape, bytes)) {
            return NONE;
        }
        return reckoner.casksOfPairs(cellar, man);
    }

    public int ask() {
        return reckoner.asked;
    }

    public int store(int n, int a) {
        if (n < 1 || n > STORE_LITRES || noVintage(a)) {
            return NONE;
        }
        return reckoner.fewestCasks(cellar, n, a);
    }

    public int stored() {
        return reckoner.storedCasks;
    }

    public int older(int a) {
        if (noVintage(a)) {
            return NONE;
        }
        int sum = 0;
        for (int k = 0; k < cellar.layout.casks; k++) {
            sum += cellar.olderOf(k, a);
        }
        return sum;
    }

    public int where(int v) {
        if (noVintage(v)) {
            return NONE;
        }
        int bits = 0;
        for (int k = 0; k < cellar.layout.casks; k++) {
            if (cellar.wine[k][v] > 0) {
                bits |= 1 << k;
            }
        }
        return bits;
    }

    public int mean(int s, int what) throws NoSuchElementException {
        if (noScale(s) || noHalf(what)) {
            throw new NoSuchElementException();
        }
        return Reckoner.half(cellar.haveOfScale(s), cellar.layout.sizes[s], what);
    }

    public int part(int s, int what) throws NoSuchElementException {
        if (noScale(s) || noHalf(what) || cellar.haveInAll() == 0) {
            throw new NoSuchElementException();
        }
        return Reckoner.half(cellar.haveOfScale(s), cellar.haveInAll(), what);
    }

    public int tag(int k) {
        if (noCask(k)) {
            return NONE;
        }
        lastTag.write(cellar, k);
        return lastTag.length;
    }

    public int byteAt(int i) {
        return i < 0 || i >= lastTag.length ? NONE : lastTag.bytes[i];
    }

    public int drawn(int n, int seed) {
        if (n < 1 || n > LAST_YEAR) {
            return NONE;
        }
        trial.copyFrom(cellar);
        int gone = chance.letYears(trial, man, n, seed);
        if (gone > 0) {
            keepAct();
        }
        return gone;
    }

    public int odds(int k, int n, int seed) {
        if (noCask(k) || n < 1 || n > ODDS_SEEDS) {
            return NONE;
        }
        int full = 0;
        for (int i = 0; i < n; i++) {
            trial.copyFrom(cellar);
            chance.letYears(trial, man, ODDS_YEARS, seed + i);
            if (trial.lackOf(k) == 0) {
                full++;
            }
        }
        return full;
    }

    public int book(int lives) {
        if (lives != 0 && lives != 1) {
            return OTHER_LIVES;
        }
        openTape(BOOK_BYTES);
        boolean right = bookText.read(reader, cellar.layout);
        latestFault = reader.fault;
        if (!right) {
            return -2 - reader.place;
        }
        trial.copyFrom(cellar);
        int why = bookText.live(trial, man);
        int lived = bookText.lived;
        tell(why, lived);
        if (lives == 1 && lived > 0) {
            keepAct();
        }
        return why == 0 ? NONE : lived;
    }

    private void tell(int why, int lived) {
        anyTold = true;
        lastTold[0] = why;
        lastTold[1] = lived;
        lastTold[2] = trial.year;
        lastTold[3] = trial.haveInAll();
    }

    public int told(int what) {
        return !anyTold || what < 0 || what >= lastTold.length ? NONE : lastTold[what];
    }

    public int sentence() {
        openTape(SENTENCE_BYTES);
        SentenceText text = new SentenceText(reader, cellar.layout);
        boolean right = text.read();
        latestFault = reader.fault;
        if (!right) {
            return -1 - reader.place;
        }
        saying = text.made;
        return text.ones;
    }

    public int said(int k) {
        Sentence of = saying;
        if (of == null || k < NONE) {
            return NONE;
        }
        int found = 0;
        for (int i = 0; i < cellar.layout.casks; i++) {
            if (of.holds(cellar, i)) {
                if (found == k) {
                    return i;
                }
                found++;
            }
        }
        return k == NONE ? found : NONE;
    }

    public boolean image(int k) {
        if (k < 0 || k >= IMAGES) {
            return false;
        }
        Cellar kept = keptCellars[k];
        if (kept == null) {
            kept = new Cellar(cellar.layout);
            keptCellars[k] = kept;
        }
        kept.copyFrom(cellar);
        keptSayings[k] = saying;
        return true;
    }

    public boolean restore(int k) {
        if (k < 0 || k >= IMAGES) {
            return false;
        }
        Cellar kept = keptCellars[k];
        if (kept == null) {
            return false;
        }
        cellar.copyFrom(kept);
        saying = keptSayings[k];
        actsKept = 0;
        return true;
    }

    public int count(int what) {
        Layout layout = cellar.layout;
        switch (what) {
            case 0: return layout.scales;
            case 1: return layout.casks;
            case 2: return layout.angels;
            case 3: return layout.most;
            case 4: return layout.firstYear;
            case 5: return tapeLength;
            default: return NONE;
        }
    }

    public int scale(int s, int what) {
        if (noScale(s)) {
            return NONE;
        }
        switch (what) {
            case 0: return cellar.layout.sizes[s];
            case 1: return cellar.layout.holds[s];
            case 2: return cellar.haveOfScale(s);
            case 3: return cellar.lackOfScale(s);
            default: return NONE;
        }
    }

    /** What a HOUSE tells that no act changes; never changed once it is read, so cellars and images share it. */
    private static final class Layout {
        int scales;
        int casks;
        int angels = 2;
        int most = MOST_LITRES;
        int firstYear = 10;
        final long[] names = new long[SCALES];
        final int[] sizes = new int[SCALES];
        final int[] holds = new int[SCALES];
        final int[] firsts = new int[SCALES];
        final int[] scaleOf = new int[CASKS];

        void addScale(long name, int size, int hold) {
            if (scales >= SCALES || size > CASKS_OF_SCALE) {
                return;
            }
            names[scales] = name;
            sizes[scales] = size;
            holds[scales] = hold;
            firsts[scales] = casks;
            for (int i = 0; i < size; i++) {
                scaleOf[casks + i] = scales;
            }
            scales++;
            casks += size;
        }

        int scaleNamed(long name) {
            for (int s = 0; s < scales; s++) {
                if (names[s] == name) {
                    return s;
                }
            }
            return NONE;
        }

        int numberOf(int k) {
            return k - firsts[scaleOf[k]];
        }

        int holdsOf(int k) {
            return holds[scaleOf[k]];
        }

        /** The CASK of a SCALE by its NUMBER there; NONE, if the SCALE has fewer. */
        int caskOf(int s, int number) {
            if (s < 0 || s >= scales || number < 0 || number >= sizes[s]) {
                return NONE;
            }
            return firsts[s] + number;
        }
    }

    /** All that is so at one time: rows of CASKS that the layout does not have are never looked at. */
    private static final class Cellar {
        Layout layout;
        int year;
        int drawnEver;
        int angelsEver;
        final int[][] wine = new int[CASKS][VINTAGES];
        final int[] have = new int[CASKS];
        final int[] drawnNow = new int[CASKS];
        final int[] bottle = new int[VINTAGES];

        Cellar(Layout layout) {
            this.layout = layout;
            year = layout.firstYear;
        }

        void clear(Layout other) {
            layout = other;
            year = other.firstYear;
            drawnEver = 0;
            angelsEver = 0;
            for (int k = 0; k < CASKS; k++) {
                Arrays.fill(wine[k], 0);
            }
            Arrays.fill(have, 0);
            Arrays.fill(drawnNow, 0);
            Arrays.fill(bottle, 0);
        }

        void copyFrom(Cellar other) {
            layout = other.layout;
            year = other.year;
            drawnEver = other.drawnEver;
            angelsEver = other.angelsEver;
            for (int k = 0; k < layout.casks; k++) {
                System.arraycopy(other.wine[k], 0, wine[k], 0, VINTAGES);
            }
            System.arraycopy(other.have, 0, have, 0, CASKS);
            System.arraycopy(other.drawnNow, 0, drawnNow, 0, CASKS);
            System.arraycopy(other.bottle, 0, bottle, 0, VINTAGES);
        }

        int lackOf(int k) {
            return layout.holdsOf(k) - have[k];
        }

        int haveOfScale(int s) {
            int sum = 0;
            int first = layout.firsts[s];
            for (int i = 0; i < layout.sizes[s]; i++) {
                sum += have[first + i];
            }
            return sum;
        }

        int lackOfScale(int s) {
            return layout.holds[s] * layout.sizes[s] - haveOfScale(s);
        }

        int haveInAll() {
            int sum = 0;
            for (int k = 0; k < layout.casks; k++) {
                sum += have[k];
            }
            return sum;
        }

        int inBottle() {
            int sum = 0;
            for (int v = 0; v < VINTAGES; v++) {
                sum += bottle[v];
            }
            return sum;
        }

        int agesOf(int k) {
            return agesOfRow(wine[k]);
        }

        int agesOfRow(int[] row) {
            int sum = 0;
            for (int v = 0; v < year && v < VINTAGES; v++) {
                sum += row[v] * (year - v);
            }
            return sum;
        }

        int agesOfScale(int s) {
            int sum = 0;
            int first = layout.firsts[s];
            for (int i = 0; i < layout.sizes[s]; i++) {
                sum += agesOf(first + i);
            }
            return sum;
        }

        int olderOf(int k, int a) {
            int sum = 0;
            for (int v = 0; v <= year - a && v < VINTAGES; v++) {
                sum += wine[k][v];
            }
            return sum;
        }

        int oldest(int k) {
            for (int v = 0; v < VINTAGES; v++) {
                if (wine[k][v] > 0) {
                    return v;
                }
            }
            return NONE;
        }

        int youngest(int k) {
            for (int v = VINTAGES - 1; v >= 0; v--) {
                if (wine[k][v] > 0) {
                    return v;
                }
            }
            return NONE;
        }

        int fullCasks() {
            int bits = 0;
            for (int k = 0; k < layout.casks; k++) {
                if (lackOf(k) == 0) {
                    bits |= 1 << k;
                }
            }
            return bits;
        }

        int emptyCasks() {
            int bits = 0;
            for (int k = 0; k < layout.casks; k++) {
                if (have[k] == 0) {
                    bits |= 1 << k;
                }
            }
            return bits;
        }
    }

    /** Does the acts on a cellar. Its rows are made once, as every act needs them. */
    private static final class Cellarman {
        final int[] left = new int[VINTAGES];
        final int[] portion = new int[VINTAGES];
        final int[] mix = new int[VINTAGES];
        final int[] sources = new int[CASKS_OF_SCALE];
        final int[] shares = new int[CASKS_OF_SCALE];

        /** SHARES of n among the first numbers of a row; most rows have few that are not 0, so only those are gone over. */
        void share(int[] own, int size, int n, int[] out) {
            Arrays.fill(out, 0);
            int sum = 0;
            int from = size;
            int to = 0;
            for (int i = 0; i < size; i++) {
                if (own[i] > 0) {
                    sum += own[i];
                    from = Math.min(from, i);
                    to = i + 1;
                }
            }
            if (sum <= 0 || n <= 0) {
                return;
            }
            int rest = n;
            for (int i = from; i < to; i++) {
                int product = own[i] * n;
                out[i] = product / sum;
                left[i] = product % sum;
                rest -= out[i];
            }
            for (int r = 0; r < rest; r++) {
                giveMostLeft(from, to, out);
            }
        }

        private void giveMostLeft(int from, int to, int[] out) {
            int best = from;
            for (int i = from + 1; i < to; i++) {
                if (left[i] > left[best]) {
                    best = i;
                }
            }
            out[best]++;
            left[best] = 0;
        }

        /** A PORTION of n litres goes out of a CASK into the row 'portion'. */
        void takeOut(Cellar c, int k, int n) {
            int[] row = c.wine[k];
            share(row, VINTAGES, n, portion);
            for (int v = 0; v < VINTAGES; v++) {
                row[v] -= portion[v];
            }
            c.have[k] -= n;
        }

        /** The row 'portion', of n litres, comes into a CASK. */
        void putIn(Cellar c, int k, int n) {
            int[] row = c.wine[k];
            for (int v = 0; v < VINTAGES; v++) {
                row[v] += portion[v];
            }
            c.have[k] += n;
        }

        int tryDraw(Cellar c, int k, int n) {
            if (c.have[k] < n) {
                return 1;
            }
            if (c.drawnNow[k] + n > c.layout.most) {
                return 2;
            }
            takeOut(c, k, n);
            System.arraycopy(portion, 0, c.bottle, 0, VINTAGES);
            c.drawnNow[k] += n;
            c.drawnEver += n;
            return 0;
        }

        int tryRun(Cellar c, int s) {
            int lack = c.lackOfScale(s);
            if (lack == 0) {
                return 1;
            }
            if (s >= c.layout.scales - 1) {
                return 2;
            }
            if (c.haveOfScale(s + 1) < lack) {
                return 3;
            }
            mixFrom(c, s + 1, lack);
            fillFromMix(c, s);
            return 0;
        }

        void mixFrom(Cellar c, int s, int n) {
            int first = c.layout.firsts[s];
            int size = c.layout.sizes[s];
            for (int i = 0; i < size; i++) {
                sources[i] = c.have[first + i];
            }
            share(sources, size, n, shares);
            Arrays.fill(mix, 0);
            for (int i = 0; i < size; i++) {
                takeOut(c, first + i, shares[i]);
                for (int v = 0; v < VINTAGES; v++) {
                    mix[v] += portion[v];
                }
            }
        }

        void fillFromMix(Cellar c, int s) {
            int first = c.layout.firsts[s];
            for (int i = 0; i < c.layout.sizes[s]; i++) {
                int lack = c.lackOf(first + i);
                share(mix, VINTAGES, lack, portion);
                for (int v = 0; v < VINTAGES; v++) {
                    mix[v] -= portion[v];
                }
                putIn(c, first + i, lack);
            }
        }

        int tryTop(Cellar c) {
            int last = c.layout.scales - 1;
            if (last < 0 || c.lackOfScale(last) == 0) {
                return 1;
            }
            int first = c.layout.firsts[last];
            for (int i = 0; i < c.layout.sizes[last]; i++) {
                int lack = c.lackOf(first + i);
                c.wine[first + i][c.year] += lack;
                c.have[first + i] += lack;
            }
            return 0;
        }

        int tryTip(Cellar c, int k, int j, int n) {
            if (k == j) {
                return 1;
            }
            if (c.have[k] < n) {
                return 2;
            }
            if (c.lackOf(j) < n) {
                return 3;
            }
            takeOut(c, k, n);
            putIn(c, j, n);
            return 0;
        }

        int angelsShare(Cellar c, int k) {
            int share = c.layout.angels * c.have[k] / 100;
            if (share > 0) {
                takeOut(c, k, share);
            }
            return share;
        }

        int letYears(Cellar c, int n) {
            int gone = 0;
            while (gone < n && c.year < LAST_YEAR) {
                for (int k = 0; k < c.layout.casks; k++) {
                    c.angelsEver += angelsShare(c, k);
                    c.drawnNow[k] = 0;
                }
                c.year++;
                gone++;
            }
            return gone;
        }
    }

    /** YEARS DRAWN by a seed. */
    private static final class Chance {
        private int x;

        int pick(int n) {
            x = x * 1103515245 + 12345;
            return n <= 0 ? 0 : (x >>> 8) % n;
        }

        int letYears(Cellar c, Cellarman man, int n, int seed) {
            x = seed;
            int gone = 0;
            while (gone < n && c.year < LAST_YEAR) {
                for (int i = 0; i < 4 && c.layout.scales > 0; i++) {
                    tryAct(c, man);
                }
                man.letYears(c, 1);
                gone++;
            }
            return gone;
        }

        void tryAct(Cellar c, Cellarman man) {
            int kind = pick(6);
            if (kind <= 1) {
                int from = pick(c.layout.casks);
                int many = pick(40) + 1;
                man.tryDraw(c, from, many);
            } else if (kind == 2) {
                man.tryRun(c, pick(c.layout.scales));
            } else if (kind == 3) {
                man.tryTop(c);
            } else if (kind == 4) {
                int from = pick(c.layout.casks);
                int into = pick(c.layout.casks);
                int many = pick(20) + 1;
                man.tryTip(c, from, into, many);
            }
        }
    }

    /** Answers what is asked of a cellar beyond its plain numbers, and keeps what was answered last. */
    private static final class Reckoner {
        final int[] blended = new int[CASKS_OF_SCALE];
        int blendCasks;
        int asked = NONE;
        int storedCasks = NONE;
        private final int[][] blendAges = new int[CASKS_OF_SCALE][BLEND_LITRES + 1];
        private final int[] blendMost = new int[CASKS_OF_SCALE];
        private final int[] pairs = new int[VINTAGES];
        private int pairLitres;
        private final int[] oldLitres = new int[CASKS];
        private final int[] unused = new int[CASKS];

        /** One number of a fraction in least terms: 0 above, 1 below. */
        static int half(int above, int below, int what) {
            int a = above;
            int b = below;
            for (int i = 0; i < 100 && b != 0; i++) {
                int rest = a % b;
                a = b;
                b = rest;
            }
            int number = what == 0 ? above : below;
            return a == 0 ? number : number / a;
        }

        int bestBlend(Cellar c, Cellarman man, int s, int n, int a) {
            fillBlendRows(c, man, s, n);
            blendCasks = c.layout.sizes[s];
            int best = NONE;
            for (int i = 0; i <= blendMost[0]; i++) {
                for (int j = 0; j <= blendMost[1] && i + j <= n; j++) {
                    for (int l = 0; l <= blendMost[2] && i + j + l <= n; l++) {
                        int m = n - i - j - l;
                        if (m > blendMost[3]) {
                            continue;
                        }
                        int sum = blendAges[0][i] + blendAges[1][j] + blendAges[2][l] + blendAges[3][m];
                        int off = Math.abs(sum - n * a);
                        if (best == NONE || off < best) {
                            best = off;
                            keepBlend(i, j, l, m);
                        }
                    }
                }
            }
            return best;
        }

        void keepBlend(int i, int j, int l, int m) {
            blended[0] = i;
            blended[1] = j;
            blended[2] = l;
            blended[3] = m;
        }

        /** For each CASK the sum of AGES of each PORTION; CASKS that the SCALE has not give 0 litres. */
        void fillBlendRows(Cellar c, Cellarman man, int s, int n) {
            for (int i = 0; i < CASKS_OF_SCALE; i++) {
                int k = c.layout.caskOf(s, i);
                blendMost[i] = k == NONE ? 0 : Math.min(n, c.have[k]);
                blendAges[i][0] = 0;
                for (int many = 1; many <= blendMost[i]; many++) {
                    man.share(c.wine[k], VINTAGES, many, man.portion);
                    blendAges[i][many] = c.agesOfRow(man.portion);
                }
            }
        }

        /** RIPE, on a cellar that may be changed: other CASKS than k are left alone, as nobody looks at them. */
        int yearsToRipe(Cellar c, Cellarman man, int k, int a) {
            if (c.have[k] == 0) {
                return NONE;
            }
            int from = c.year;
            for (int year = from; year <= LAST_YEAR; year++) {
                c.year = year;
                if (c.agesOf(k) >= a * c.have[k]) {
                    return year - from;
                }
                man.angelsShare(c, k);
            }
            return NONE;
        }

        /** PLAN, on a cellar that may be changed. */
        int yearsByPlan(Cellar c, Cellarman man, int n, int a) {
            if (c.layout.scales == 0) {
                return NONE;
            }
            int from = c.year;
            for (int year = from; year <= LAST_YEAR; year++) {
                int have = c.haveOfScale(0);
                if (have > 0 && c.agesOfScale(0) >= a * have) {
                    return year - from;
                }
                workByPlan(c, man, n);
                man.letYears(c, 1);
            }
            return NONE;
        }

        void workByPlan(Cellar c, Cellarman man, int n) {
            for (int k = 0; k < c.layout.sizes[0]; k++) {
                man.takeOut(c, k, Math.min(n, c.have[k]));
            }
            for (int s = 0; s < c.layout.scales; s++) {
                man.tryRun(c, s);
            }
            man.tryTop(c);
        }

        /** Reads the tape's pairs for WHICH; false, if they are not as told. */
        boolean readPairs(int[] tape, int bytes) {
            if (bytes > tape.length || bytes < 2 || bytes > 2 * PAIRS || bytes % 2 != 0) {
                return false;
            }
            for (int i = 0; i < bytes; i += 2) {
                if (noVintage(tape[i])) {
                    return false;
                }
            }
            Arrays.fill(pairs, 0);
            pairLitres = 0;
            for (int i = 0; i < bytes; i += 2) {
                pairs[tape[i]] += tape[i + 1];
                pairLitres += tape[i + 1];
            }
            return pairLitres > 0;
        }

        int casksOfPairs(Cellar c, Cellarman man) {
            int bits = 0;
            for (int k = 0; k < c.layout.casks; k++) {
                if (c.have[k] >= pairLitres && givesPairs(c.wine[k], man)) {
                    bits |= 1 << k;
                }
            }
            if (bits != 0) {
                asked = bestQuestion(c, bits);
            }
            return bits;
        }

        boolean givesPairs(int[] row, Cellarman man) {
            man.share(row, VINTAGES, pairLitres, man.portion);
            for (int v = 0; v < VINTAGES; v++) {
                if (man.portion[v] != pairs[v]) {
                    return false;
                }
            }
            return true;
        }

        int bestQuestion(Cellar c, int bits) {
            int best = 0;
            int fewest = CASKS + 1;
            for (int v = 0; v < VINTAGES; v++) {
                int most = mostAlike(c, bits, v);
                if (most < fewest) {
                    fewest = most;
                    best = v;
                }
            }
            return best;
        }

        /** How many of these CASKS have like litres of a VINTAGE at most. */
        int mostAlike(Cellar c, int bits, int v) {
            int most = 0;
            for (int k = 0; k < c.layout.casks; k++) {
                int alike = 0;
                for (int j = k; j < c.layout.casks && (bits >> k & 1) == 1; j++) {
                    if ((bits >> j & 1) == 1 && c.wine[j][v] == c.wine[k][v]) {
                        alike++;
                    }
                }
                most = Math.max(most, alike);
            }
            return most;
        }

        int fewestCasks(Cellar c, int n, int a) {
            int casks = c.layout.casks;
            for (int k = 0; k < casks; k++) {
                oldLitres[k] = c.olderOf(k, a);
            }
            for (int many = 1; many <= casks; many++) {
                if (mostOf(casks, many) >= n) {
                    storedCasks = leastBits(casks, many, n);
                    return many;
                }
            }
            return NONE;
        }

        /** How many litres so many of the first CASKS have at most. */
        int mostOf(int casks, int many) {
            System.arraycopy(oldLitres, 0, unused, 0, CASKS);
            int sum = 0;
            for (int i = 0; i < many && i < casks; i++) {
                int best = 0;
                for (int k = 1; k < casks; k++) {
                    if (unused[k] > unused[best]) {
                        best = k;
                    }
                }
                sum += unused[best];
                unused[best] = 0;
            }
            return sum;
        }

        /** From the highest CASK down: it is taken only if those below it can't do without it. */
        int leastBits(int casks, int many, int n) {
            int bits = 0;
            int needed = n;
            int left = many;
            for (int k = casks - 1; k >= 0 && left > 0; k--) {
                if (mostOf(k, left) < needed) {
                    bits |= 1 << k;
                    needed -= oldLitres[k];
                    left--;
                }
            }
            return bits;
        }
    }

    /** The latest TAG. */
    private static final class Tag {
        final int[] bytes = new int[TAG_BYTES];
        int length;

        void write(Cellar c, int k) {
            Layout layout = c.layout;
            length = 0;
            putName(layout.names[layout.scaleOf[k]]);
            putText(" cask ");
            putNumber(layout.numberOf(k));
            putText(" ");
            putNumber(c.have[k]);
            putText(" of ");
            putNumber(layout.holdsOf(k));
        }

        void put(int sign) {
            if (length < TAG_BYTES) {
                bytes[length] = sign;
                length++;
            }
        }

        void putText(String text) {
            for (int i = 0; i < text.length(); i++) {
                put(text.charAt(i));
            }
        }

        void putNumber(int number) {
            if (number >= 100) {
                put('0' + number / 100);
            }
            if (number >= 10) {
                put('0' + number / 10 % 10);
            }
            put('0' + number % 10);
        }

        void putName(long name) {
            for (int shift = 5 * (WORD_LETTERS - 1); shift >= 0; shift -= 5) {
                int letter = (int) (name >> shift) & 31;
                if (letter > 0) {
                    put('a' - 1 + letter);
                }
            }
        }
    }

    /** Reads a text TOKEN by TOKEN and keeps its FAULT. */
    private static final class Reader {
        private int[] text = new int[0];
        private int length;
        private int most;
        private int at;
        private int start;
        int kind;
        int number;
        long name;
        int word;
        int fault;
        int place;
        int taken;

        void open(int[] bytes, int many, int mostBytes) {
            text = bytes;
            length = Math.min(many, bytes.length);
            most = mostBytes;
            at = 0;
            fault = 0;
            place = 0;
            next();
        }

        /** Reads the next TOKEN; behind the most bytes told there is none that may come, not even the end. */
        void next() {
            while (at < length && (text[at] == ' ' || text[at] == '\n')) {
                at++;
            }
            word = NONE;
            if (length > most && at >= most) {
                start = most;
                kind = BAD;
                return;
            }
            start = at;
            readRun();
            if (at == start) {
                readSign();
            } else if (kind == WORD) {
                word = wordOf(name);
            }
        }

        /** Reads letters and digits as far as they go, mixed ones too: those are no TOKEN. */
        private void readRun() {
            int letters = 0;
            int digits = 0;
            number = 0;
            name = 0;
            for (; at < length; at++) {
                int sign = text[at];
                if (sign >= 'a' && sign <= 'z') {
                    letters++;
                    name = name * 32 + sign - 'a' + 1;
                } else if (sign >= '0' && sign <= '9') {
                    digits++;
                    number = number * 10 + sign - '0';
                } else {
                    break;
                }
            }
            kind = BAD;
            if (digits == 0 && letters <= WORD_LETTERS) {
                kind = WORD;
            } else if (letters == 0 && digits <= NUMBER_DIGITS) {
                kind = NUMBER;
            }
        }

        private void readSign() {
            if (at >= length) {
                kind = END;
                return;
            }
            int sign = text[at];
            boolean known = sign == ';' || sign == '<' || sign == '=' || sign == '>' || sign == '(' || sign == ')';
            kind = known ? sign : BAD;
            at++;
        }

        /** Which of the words that are no NAMES it is; NONE: it may be a NAME. */
        static int wordOf(long name) {
            int which = 0;
            long code = 0;
            for (int i = 0; i < WORDS.length(); i++) {
                char sign = WORDS.charAt(i);
                if (sign != ' ') {
                    code = code * 32 + sign - 'a' + 1;
                } else if (code == name) {
                    return which;
                } else {
                    which++;
                    code = 0;
                }
            }
            return NONE;
        }

        boolean fail(int why) {
            fault = why;
            place = start;
            return false;
        }

        /** A sign must come. */
        boolean takeSign(int sign) {
            if (kind != sign) {
                return fail(NO_TOKEN);
            }
            next();
            return true;
        }

        /** A NUMBER from least to greatest must come: it is 'taken' then. */
        boolean takeNumber(int least, int greatest) {
            if (kind != NUMBER) {
                return fail(NO_TOKEN);
            }
            if (number < least || number > greatest) {
                return fail(WRONG_NUMBER);
            }
            taken = number;
            next();
            return true;
        }

        boolean isName() {
            return kind == WORD && word == NONE;
        }

        /** The NAME of a SCALE must come: the SCALE is 'taken' then. */
        boolean takeScale(Layout layout) {
            if (!isName()) {
                return fail(NO_TOKEN);
            }
            int s = layout.scaleNamed(name);
            if (s == NONE) {
                return fail(WRONG_NAME);
            }
            taken = s;
            next();
            return true;
        }
    }

    /** Reads a HOUSE into a cellar. */
    private static final class HouseText {
        private final Reader in;
        private final Cellar into;
        private final Layout layout = new Layout();
        private boolean yearTold;
        private boolean angelsTold;
        private boolean mostTold;
        private boolean wineTold;
        int lines;

        HouseText(Reader in, Cellar into) {
            this.in = in;
            this.into = into;
        }

        boolean read() {
            into.clear(layout);
            for (lines = 0; lines < HOUSE_BYTES && in.kind != END; lines++) {
                if (!readLine() || !in.takeSign(';')) {
                    return false;
                }
            }
            into.year = layout.firstYear;
            return true;
        }

        boolean readLine() {
            switch (in.word) {
                case W_SCALE: return readScale();
                case W_WINE: return readWine();
                case W_YEAR: return readYear();
                case W_ANGELS: return readAngels();
                case W_MOST: return readMost();
                default: return in.fail(NO_TOKEN);
            }
        }

        boolean readScale() {
            if (layout.scales >= SCALES) {
                return in.fail(TOO_MANY);
            }
            in.next();
            if (!in.isName()) {
                return in.fail(NO_TOKEN);
            }
            long name = in.name;
            if (layout.scaleNamed(name) != NONE) {
                return in.fail(WRONG_NAME);
            }
            in.next();
            if (!in.takeNumber(1, CASKS_OF_SCALE)) {
                return false;
            }
            int size = in.taken;
            if (!in.takeNumber(10, MOST_LITRES)) {
                return false;
            }
            layout.addScale(name, size, in.taken);
            return true;
        }

        boolean readWine() {
            wineTold = true;
            in.next();
            if (!in.takeScale(layout)) {
                return false;
            }
            int s = in.taken;
            if (!in.takeNumber(0, layout.sizes[s] - 1)) {
                return false;
            }
            int k = layout.firsts[s] + in.taken;
            if (!in.takeNumber(0, layout.firstYear)) {
                return false;
            }
            int vintage = in.taken;
            if (!in.takeNumber(1, into.lackOf(k))) {
                return false;
            }
            into.wine[k][vintage] += in.taken;
            into.have[k] += in.taken;
            return true;
        }

        boolean readYear() {
            if (yearTold || wineTold) {
                return in.fail(WRONG_NAME);
            }
            yearTold = true;
            in.next();
            if (!in.takeNumber(0, 29)) {
                return false;
            }
            layout.firstYear = in.taken;
            return true;
        }

        boolean readAngels() {
            if (angelsTold) {
                return in.fail(WRONG_NAME);
            }
            angelsTold = true;
            in.next();
            if (!in.takeNumber(0, 9)) {
                return false;
            }
            layout.angels = in.taken;
            return true;
        }

        boolean readMost() {
            if (mostTold) {
                return in.fail(WRONG_NAME);
            }
            mostTold = true;
            in.next();
            if (!in.takeNumber(1, MOST_LITRES)) {
                return false;
            }
            layout.most = in.taken;
            return true;
        }
    }

    /** Reads a BOOK, and lives its LINES. */
    private static final class BookText {
        private final int[] words = new int[BOOK_LINES];
        private final int[] scales = new int[BOOK_LINES];
        private final int[] numbers = new int[BOOK_LINES];
        private final int[] otherScales = new int[BOOK_LINES];
        private final int[] otherNumbers = new int[BOOK_LINES];
        private final int[] amounts = new int[BOOK_LINES];
        private int lines;
        int lived;

        boolean read(Reader in, Layout layout) {
            for (lines = 0; lines <= BOOK_LINES && in.kind != END; lines++) {
                if (in.word < W_DRAW || in.word > W_YEARS) {
                    return in.fail(NO_TOKEN);
                }
                if (lines == BOOK_LINES) {
                    return in.fail(TOO_MANY);
                }
                words[lines] = in.word;
                in.next();
                if (!readRest(in, layout) || !in.takeSign(';')) {
                    return false;
                }
            }
            return true;
        }

        boolean readRest(Reader in, Layout layout) {
            switch (words[lines]) {
                case W_DRAW:
                    return readCask(in, layout, scales, numbers) && readAmount(in, MOST_LITRES);
                case W_RUN:
                    return readScale(in, layout, scales);
                case W_TIP:
                    return readCask(in, layout, scales, numbers) && readCask(in, layout, otherScales, otherNumbers)
                        && readAmount(in, MOST_LITRES);
                case W_YEARS:
                    return readAmount(in, LAST_YEAR);
                default:
                    return true;
            }
        }

        boolean readScale(Reader in, Layout layout, int[] scaleRow) {
            if (!in.takeScale(layout)) {
                return false;
            }
            scaleRow[lines] = in.taken;
            return true;
        }

        boolean readCask(Reader in, Layout layout, int[] scaleRow, int[] numberRow) {
            if (!readScale(in, layout, scaleRow) || !in.takeNumber(0, CASKS_OF_SCALE - 1)) {
                return false;
            }
            numberRow[lines] = in.taken;
            return true;
        }

        boolean readAmount(Reader in, int greatest) {
            if (!in.takeNumber(1, greatest)) {
                return false;
            }
            amounts[lines] = in.taken;
            return true;
        }

        /** Lives LINE by LINE up to a WRONG one: why it is WRONG, or 0. */
        int live(Cellar c, Cellarman man) {
            lived = 0;
            int why = 0;
            while (why == 0 && lived < lines) {
                why = liveLine(c, man, lived);
                if (why == 0) {
                    lived++;
                }
            }
            return why;
        }

        int liveLine(Cellar c, Cellarman man, int i) {
            int k = c.layout.caskOf(scales[i], numbers[i]);
            switch (words[i]) {
                case W_DRAW:
                    return k == NONE ? 9 : man.tryDraw(c, k, amounts[i]);
                case W_RUN:
                    return behind(10, man.tryRun(c, scales[i]));
                case W_TOP:
                    return behind(20, man.tryTop(c));
                case W_TIP:
                    int j = c.layout.caskOf(otherScales[i], otherNumbers[i]);
                    return k == NONE || j == NONE ? 39 : behind(30, man.tryTip(c, k, j, amounts[i]));
                default:
                    return liveYears(c, man, amounts[i]);
            }
        }

        static int behind(int base, int why) {
            return why == 0 ? 0 : base + why;
        }

        static int liveYears(Cellar c, Cellarman man, int n) {
            if (n > LAST_YEAR - c.year) {
                return 41;
            }
            man.letYears(c, n);
            return 0;
        }
    }

    /** A SENTENCE, each part behind the parts it joins; never changed once it is read, so images share it. */
    private static final class Sentence {
        final int[] words = new int[2 * ONES];
        final int[] signs = new int[2 * ONES];
        final int[] numbers = new int[2 * ONES];
        int size;

        void add(int word, int sign, int number) {
            if (size < 2 * ONES) {
                words[size] = word;
                signs[size] = sign;
                numbers[size] = number;
                size++;
            }
        }

        /** What is said so far stands in the low bits: at most one bit for each ONE. */
        boolean holds(Cellar c, int k) {
            int bits = 0;
            for (int i = 0; i < size; i++) {
                int low = bits & 1;
                int rest = bits >> 1;
                switch (words[i]) {
                    case W_OR:
                        bits = rest | low;
                        break;
                    case W_AND:
                        bits = rest & (low | ~1);
                        break;
                    case W_NOT:
                        bits = bits ^ 1;
                        break;
                    default:
                        bits = bits << 1 | (plainHolds(c, k, i) ? 1 : 0);
                        break;
                }
            }
            return (bits & 1) == 1;
        }

        boolean plainHolds(Cellar c, int k, int i) {
            switch (words[i]) {
                case W_FULL: return c.lackOf(k) == 0;
                case W_EMPTY: return c.have[k] == 0;
                case W_MIXED: return c.oldest(k) != c.youngest(k);
                case W_IN: return c.layout.scaleOf[k] == numbers[i];
                case W_HAS: return c.wine[k][numbers[i]] > 0;
                case W_LITRES: return compares(c.have[k], i);
                case W_AGE: return compares(c.have[k] == 0 ? 0 : c.agesOf(k) / c.have[k], i);
                case W_DRAWN: return compares(c.drawnNow[k], i);
                default: return compares(k, i);
            }
        }

        boolean compares(int value, int i) {
            switch (signs[i]) {
                case '<': return value < numbers[i];
                case '>': return value > numbers[i];
                default: return value == numbers[i];
            }
        }
    }

    /** Reads a SENTENCE. */
    private static final class SentenceText {
        private final Reader in;
        private final Layout layout;
        final Sentence made = new Sentence();
        int ones;

        SentenceText(Reader in, Layout layout) {
            this.in = in;
            this.layout = layout;
        }

        boolean read() {
            return readCond(1) && (in.kind == END || in.fail(NO_TOKEN));
        }

        /** COND and ALL in one: 'and' joins as soon as its ONE is read, 'or' as soon as its ALL is. */
        private boolean readCond(int depth) {
            boolean behindAnd = false;
            boolean behindOr = false;
            for (int many = 0; many <= ONES; many++) {
                if (!readOne(depth)) {
                    return false;
                }
                if (behindAnd) {
                    made.add(W_AND, 0, 0);
                }
                behindAnd = in.word == W_AND;
                if (behindOr && !behindAnd) {
                    made.add(W_OR, 0, 0);
                }
                if (!behindAnd && in.word != W_OR) {
                    return true;
                }
                behindOr = behindOr || in.word == W_OR;
                in.next();
            }
            return in.fail(TOO_MANY);
        }

        private boolean readOne(int depth) {
            int word = in.word;
            boolean bracket = in.kind == '(';
            if (!bracket && (word < W_NOT || word > W_NUMBER)) {
                return in.fail(NO_TOKEN);
            }
            if (ones >= ONES || depth > ONES_WITHIN) {
                return in.fail(TOO_MANY);
            }
            ones++;
            in.next();
            if (bracket) {
                return readCond(depth + 1) && in.takeSign(')');
            }
            if (word == W_NOT) {
                if (!readOne(depth + 1)) {
                    return false;
                }
                made.add(W_NOT, 0, 0);
                return true;
            }
            return readPlain(word);
        }

        private boolean readPlain(int word) {
            int sign = 0;
            in.taken = 0;
            if (word == W_IN && !in.takeScale(layout)) {
                return false;
            }
            if (word == W_HAS && !in.takeNumber(0, VINTAGES - 1)) {
                return false;
            }
            if (word >= W_LITRES) {
                sign = in.kind;
                if (sign != '<' && sign != '=' && sign != '>') {
                    return in.fail(NO_TOKEN);
                }
                in.next();
                if (!in.takeNumber(0, 999)) {
                    return false;
                }
            }
            made.add(word, sign, in.taken);
            return true;
        }
    }
}
