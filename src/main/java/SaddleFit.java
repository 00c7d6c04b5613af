/** A saddler's shop: burdens, the backs that carry them, and how they gall. */
public final class SaddleFit {
    public static final int NONE = -1, UNKNOWN = -1000000001, OUTSIDE = -1000000002, NOT = -1000000003, FULL = -1000000004;

    private static final int BURDENS_MOST = 6, BACKS_MOST = 5, LETTERS_MOST = 240;
    private static final int FLOCK_MOST = 99, WEIGHT_MOST = 60, EDGE_MOST = 20, STRENGTH_MOST = 99, SPINE_MOST = 9;
    private static final int PAD_MOST = 30, SORE_MOST = 9999, GALLED_FROM = 20, REST = 3;
    private static final int GRIEF = 1, DEBT = 2, JOY = 3, UNTOLD = 4;
    private static final int MONTHS = 12, AUGUST = 7;
    private static final int DAYS_AT_ONCE = 60, DAYS_TRIED = 200, LAST_START = 9000;
    private static final int UNDONE_MOST = 16, FELT_MOST = 6, BOOK_MOST = 15, IMAGES = 2;
    private static final int GALLING_FELT_MOST = 99, TRIED_STRENGTHS = 60;
    private static final int BILLION = 1000000000, HUNDRED = 100;
    private static final int ABOVE_ALL = 2147483647;

    private final Reader reader = new Reader();
    private final Shop draft = new Shop();
    private final Scale scale = new Scale();
    private final Shop shop = scale.shop;
    private final Load load = scale.load;
    private final Fitting fitting = new Fitting();
    private final Unloading unloading = new Unloading();
    private final Past past = new Past();
    private final Feelings feelings = new Feelings();
    private final Book book = new Book();
    private final Load[] images = new Load[IMAGES];
    private final int[] imageSeeds = new int[IMAGES];
    private final boolean[] imageKept = new boolean[IMAGES];
    private int seed;

    public SaddleFit() {
        for (int i = 0; i < images.length; i++) {
            images[i] = new Load();
        }
    }

    // ---- the shop

    public int feed(int letter) {
        if (!within(letter, 0, 255)) {
            return OUTSIDE;
        }
        return reader.add(letter) ? reader.length : FULL;
    }

    public int shop() {
        int number = reader.readInto(draft);
        if (number != 0) {
            return -10 - number;
        }
        shop.copyFrom(draft);
        load.startOf(shop);
        feelings.clear();
        book.clear();
        past.clear();
        for (int i = 0; i < imageKept.length; i++) {
            imageKept[i] = false;
        }
        return shop.burdens;
    }

    public int fault() {
        return reader.faultAt;
    }

    public int told(int what) {
        switch (what) {
            case 0: return shop.burdens;
            case 1: return shop.backs;
            case 2: return reader.length;
            case 3: return load.days;
            case 4: return load.stock;
            case 5: return scale.galled();
            case 6: return scale.gallingOfAll(load.days);
            case 7: return scale.carriedByNobody();
            case 8: return scale.sharedOnes();
            case 9: return scale.mostLaden();
            case 10: return isAugust(load.days) ? 1 : 0;
            case 11: return feelings.count;
            case 12: return book.count;
            case 13: return past.count;
            case 14: return scale.flockForAll();
            default: return OUTSIDE;
        }
    }

    public int burden(int g, int what) {
        if (!shop.hasBurden(g)) {
            return UNKNOWN;
        }
        switch (what) {
            case 0: return shop.kind[g];
            case 1: return load.weight[g];
            case 2: return shop.edge[g];
            case 3: return load.pad[g];
            case 4: return load.first[g];
            case 5: return load.other[g];
            default: return OUTSIDE;
        }
    }

    public int back(int p, int what) {
        if (!shop.hasBack(p)) {
            return UNKNOWN;
        }
        switch (what) {
            case 0: return shop.strength[p];
            case 1: return shop.spine[p];
            case 2: return load.soreness[p];
            case 3: return scale.gallingToday(p);
            case 4: return scale.carriedBy(p);
            case 5: return scale.partsOn(p);
            case 6: return scale.flockForBack(p);
            case 7: return scale.ringOf(p);
            default: return OUTSIDE;
        }
    }

    // ---- what is done

    public int day(int n) {
        int refusal = refusalOfDays(n);
        if (refusal != 0) {
            return refusal;
        }
        past.add(load);
        for (int i = 0; i < n; i++) {
            scale.passDay();
        }
        return scale.galled();
    }

    public int take(int g, int p) {
        if (!shop.hasBurden(g) || !shop.hasBack(p)) {
            return UNKNOWN;
        }
        if (load.isCarried(g)) {
            return NOT;
        }
        past.add(load);
        load.putOn(g, p);
        return scale.gallingToday(p);
    }

    public int share(int g, int p) {
        if (!shop.hasBurden(g) || !shop.hasBack(p)) {
            return UNKNOWN;
        }
        if (!load.canJoin(g, p)) {
            return NOT;
        }
        past.add(load);
        load.join(g, p);
        return scale.gallingToday(p);
    }

    public int down(int g, int p) {
        if (!shop.hasBurden(g) || !shop.hasBack(p)) {
            return UNKNOWN;
        }
        if (!load.isOn(g, p)) {
            return NOT;
        }
        past.add(load);
        load.putDown(g, p);
        return scale.gallingToday(p);
    }

    public int hand(int g, int p, int q) {
        if (!shop.hasBurden(g) || !shop.hasTwoBacks(p, q)) {
            return UNKNOWN;
        }
        if (!load.isOn(g, p) || load.isOn(g, q)) {
            return NOT;
        }
        past.add(load);
        load.handOn(g, p, q);
        return scale.gallingToday(q);
    }

    public int stuff(int g, int n) {
        if (!shop.hasBurden(g)) {
            return UNKNOWN;
        }
        if (!within(n, -PAD_MOST, PAD_MOST)) {
            return OUTSIDE;
        }
        if (!within(load.pad[g] + n, 0, PAD_MOST) || load.stock < n) {
            return NOT;
        }
        past.add(load);
        load.pad[g] += n;
        load.stock -= n;
        return load.pad[g];
    }

    public int weigh(int g, int w) {
        if (!shop.hasBurden(g)) {
            return UNKNOWN;
        }
        if (!within(w, 1, WEIGHT_MOST)) {
            return OUTSIDE;
        }
        past.add(load);
        int was = load.weight[g];
        load.weight[g] = w;
        return was;
    }

    public int drift(int n) {
        int refusal = refusalOfDays(n);
        if (refusal != 0) {
            return refusal;
        }
        past.add(load);
        for (int i = 0; i < n; i++) {
            doByDraws();
            scale.passDay();
        }
        return scale.galled();
    }

    public int undo() {
        return past.takeBackInto(load) ? past.count : NOT;
    }

    // ---- tried

    public int sore(int p, int n) {
        if (!shop.hasBack(p)) {
            return UNKNOWN;
        }
        if (!within(n, 0, DAYS_TRIED)) {
            return OUTSIDE;
        }
        return scale.soreBehind(p, n);
    }

    public int when(int p) {
        if (!shop.hasBack(p)) {
            return UNKNOWN;
        }
        return scale.firstGalledBehind(p);
    }

    public int worst(int n, int what) {
        if (!within(n, 1, DAYS_AT_ONCE) || !within(what, 0, 1)) {
            return OUTSIDE;
        }
        if (!shop.open) {
            return NOT;
        }
        int behind = scale.worstBehind(n);
        return what == 0 ? behind : scale.gallingOfAll(load.days + behind);
    }

    public int fit(int g) {
        if (g != NONE && !shop.hasBurden(g)) {
            return UNKNOWN;
        }
        if (shop.backs < 1) {
            return NONE;
        }
        fitting.layAlone(scale);
        return g == NONE ? fitting.least : fitting.bestBack[g];
    }

    public int byTwo(int g, int what) {
        if (!shop.hasBurden(g)) {
            return UNKNOWN;
        }
        if (!within(what, 0, 1)) {
            return OUTSIDE;
        }
        if (shop.backs < 2) {
            return NONE;
        }
        fitting.layByTwo(scale, g);
        return what == 0 ? fitting.least : fitting.bestPair;
    }

    public int order(int p, int what) {
        if (!shop.hasBack(p)) {
            return UNKNOWN;
        }
        if (!within(what, 0, 1)) {
            return OUTSIDE;
        }
        unloading.search(scale, p);
        return what == 0 ? unloading.leastSore : unloading.bestFigures;
    }

    public int could(int g) {
        if (!shop.hasBurden(g)) {
            return UNKNOWN;
        }
        if (load.isCarried(g)) {
            return NOT;
        }
        return scale.ableToTake(g);
    }

    public int shareOf(int g, int p, int q) {
        if (!shop.hasBurden(g) || !shop.hasTwoBacks(p, q)) {
            return UNKNOWN;
        }
        int both = shop.strength[p] + shop.strength[q];
        if (both < 1) {
            return UNKNOWN;
        }
        return load.weight[g] - load.weight[g] * shop.strength[q] / both;
    }

    public int fair(int n, int q) {
        if (!within(n, 0, DAYS_AT_ONCE) || !within(q, 0, HUNDRED)) {
            return OUTSIDE;
        }
        long odds = BILLION;
        for (int i = 0; i < n; i++) {
            odds = odds * q / HUNDRED;
        }
        return (int) odds;
    }

    // ---- what is felt

    public int feel(int s, int f, int v) {
        if (!within(s, 1, STRENGTH_MOST) || !within(f, 0, PAD_MOST) || !within(v, 0, GALLING_FELT_MOST)) {
            return OUTSIDE;
        }
        return feelings.add(s, f, v) ? feelings.count : FULL;
    }

    public int carries(int what) {
        if (!within(what, 0, 2)) {
            return OUTSIDE;
        }
        feelings.findPairs();
        if (what == 0) {
            return feelings.pairs;
        }
        return what == 1 ? feelings.leastWeight() : feelings.leastEdge();
    }

    public int tryNext() {
        feelings.findPairs();
        return feelings.bestStrength();
    }

    public int write(int p, int sore) {
        if (!shop.hasBack(p)) {
            return UNKNOWN;
        }
        if (!within(sore, 0, SORE_MOST)) {
            return OUTSIDE;
        }
        return book.add(p, sore) ? book.count : FULL;
    }

    public int tear() {
        int had = feelings.count + book.count;
        feelings.clear();
        book.clear();
        return had;
    }

    public int judge() {
        return book.firstWrong(load);
    }

    // ---- draws, images

    public int seed(int v) {
        if (v < 0) {
            return OUTSIDE;
        }
        int was = seed;
        seed = v;
        return was;
    }

    public int keep(int i) {
        if (!within(i, 0, IMAGES - 1)) {
            return UNKNOWN;
        }
        images[i].copyFrom(load);
        imageSeeds[i] = seed;
        imageKept[i] = true;
        past.clear();
        return 1;
    }

    public int goBack(int i) {
        if (!within(i, 0, IMAGES - 1)) {
            return UNKNOWN;
        }
        if (!imageKept[i]) {
            return NOT;
        }
        load.copyFrom(images[i]);
        seed = imageSeeds[i];
        past.clear();
        return 1;
    }

    private static boolean within(int n, int least, int most) {
        return n >= least && n <= most;
    }

    private static boolean isAugust(int day) {
        return day % MONTHS == AUGUST;
    }

    private static boolean has(int set, int k) {
        return (set >> k & 1) != 0;
    }

    /** 0 where days may pass. */
    private int refusalOfDays(int n) {
        if (!within(n, 1, DAYS_AT_ONCE)) {
            return OUTSIDE;
        }
        if (!shop.open) {
            return NOT;
        }
        return load.days > LAST_START ? FULL : 0;
    }

    private int draw(int n) {
        seed = (int) ((seed * 1103515245L + 12345L) & 0x7fffffffL);
        return n < 1 ? 0 : seed / 65536 % n;
    }

    private void doByDraws() {
        if (shop.burdens < 1 || shop.backs < 1) {
            return;
        }
        int deed = draw(4);
        int g = draw(shop.burdens);
        int p = draw(shop.backs);
        if (deed == 0 && !load.isCarried(g)) {
            load.putOn(g, p);
        } else if (deed == 1 && load.canJoin(g, p)) {
            load.join(g, p);
        } else if (deed == 2 && load.isOn(g, p)) {
            load.putDown(g, p);
        }
    }

    /** What a text tells: it stays so until another is told. */
    private static final class Shop {
        boolean open;
        int flock;
        int burdens;
        int backs;
        final int[] kind = new int[BURDENS_MOST];
        final int[] toldWeight = new int[BURDENS_MOST];
        final int[] edge = new int[BURDENS_MOST];
        final int[] strength = new int[BACKS_MOST];
        final int[] spine = new int[BACKS_MOST];

        boolean hasBurden(int g) {
            return g >= 0 && g < burdens && g < BURDENS_MOST;
        }

        boolean hasBack(int p) {
            return p >= 0 && p < backs && p < BACKS_MOST;
        }

        boolean hasTwoBacks(int p, int q) {
            return hasBack(p) && hasBack(q) && p != q;
        }

        void clear() {
            open = false;
            flock = 0;
            burdens = 0;
            backs = 0;
        }

        void addBurden(int ofKind, int weight, int ofEdge) {
            if (burdens < BURDENS_MOST) {
                kind[burdens] = ofKind;
                toldWeight[burdens] = weight;
                edge[burdens] = ofEdge;
                burdens++;
            }
        }

        void addBack(int ofStrength, int ofSpine) {
            if (backs < BACKS_MOST) {
                strength[backs] = ofStrength;
                spine[backs] = ofSpine;
                backs++;
            }
        }

        void copyFrom(Shop from) {
            open = from.open;
            flock = from.flock;
            burdens = from.burdens;
            backs = from.backs;
            for (int g = 0; g < BURDENS_MOST; g++) {
                kind[g] = from.kind[g];
                toldWeight[g] = from.toldWeight[g];
                edge[g] = from.edge[g];
            }
            for (int p = 0; p < BACKS_MOST; p++) {
                strength[p] = from.strength[p];
                spine[p] = from.spine[p];
            }
        }
    }

    /** The text as it is fed, and its reading. */
    private static final class Reader {
        private static final int CANNOT_STAND = 1, BAD_NUMBER = 2, TOO_MANY = 3;
        private static final int FIGURES_MOST = 3;

        int length;
        int faultAt = NONE;
        private final int[] letters = new int[LETTERS_MOST];
        private int at;
        private int faultNumber;

        boolean add(int letter) {
            if (length >= LETTERS_MOST) {
                return false;
            }
            letters[length] = letter;
            length++;
            return true;
        }

        /** The number of the first fault, 0 without one; the text is empty then. */
        int readInto(Shop shop) {
            shop.clear();
            at = 0;
            faultNumber = 0;
            faultAt = NONE;
            passBlanks();
            // A clause has a letter at least, so there are no more clauses than letters.
            for (int clause = 0; clause < LETTERS_MOST && at < length && faultNumber == 0; clause++) {
                readClause(shop);
                passBlanks();
            }
            length = 0;
            return faultNumber;
        }

        private void readClause(Shop shop) {
            int word = letterHere();
            int number = faultOfWord(shop, word);
            if (number != 0) {
                blame(number, at);
                return;
            }
            at++;
            if (word == 'f') {
                int flock = readNumber(0, FLOCK_MOST);
                endClause();
                shop.open = true;
                shop.flock = flock;
            } else if (word == 'b') {
                int kind = readNumber(0, UNTOLD);
                int weight = readNumber(1, WEIGHT_MOST);
                int edge = readNumber(0, EDGE_MOST);
                endClause();
                shop.addBurden(kind, weight, edge);
            } else {
                int strength = readNumber(1, STRENGTH_MOST);
                int spine = readNumber(0, SPINE_MOST);
                endClause();
                shop.addBack(strength, spine);
            }
        }

        private static int faultOfWord(Shop shop, int word) {
            if (word != 'f' && (word != 'b' && word != 'p' || !shop.open)) {
                return CANNOT_STAND;
            }
            boolean oneTooMany = word == 'f' && shop.open
                    || word == 'b' && shop.burdens >= BURDENS_MOST
                    || word == 'p' && shop.backs >= BACKS_MOST;
            return oneTooMany ? TOO_MANY : 0;
        }

        /** Behind a fault nothing more is read: what it answers then is no matter. */
        private int readNumber(int least, int most) {
            if (faultNumber != 0) {
                return least;
            }
            passBlanks();
            int start = at;
            int number = 0;
            while (at < length && isFigure(letterHere())) {
                // Of more than three figures the fault is told by their count: the number need not grow.
                if (at - start < FIGURES_MOST) {
                    number = number * 10 + letterHere() - '0';
                }
                at++;
            }
            if (at == start) {
                blame(CANNOT_STAND, start);
            } else if (at - start > FIGURES_MOST || !within(number, least, most)) {
                blame(BAD_NUMBER, start);
            }
            return number;
        }

        private void endClause() {
            if (faultNumber != 0) {
                return;
            }
            passBlanks();
            if (letterHere() == ';') {
                at++;
            } else {
                blame(CANNOT_STAND, at);
            }
        }

        private void passBlanks() {
            while (at < length && letterHere() == ' ') {
                at++;
            }
        }

        /** NONE, which is no letter, at the end. */
        private int letterHere() {
            return at >= 0 && at < length && at < LETTERS_MOST ? letters[at] : NONE;
        }

        private static boolean isFigure(int letter) {
            return letter >= '0' && letter <= '9';
        }

        private void blame(int number, int where) {
            faultNumber = number;
            faultAt = where;
        }
    }

    /** All that changes by what is done: who carries what, pads, weights, stock, soreness, days. */
    private static final class Load {
        int days;
        int stock;
        final int[] weight = new int[BURDENS_MOST];
        final int[] pad = new int[BURDENS_MOST];
        final int[] first = new int[BURDENS_MOST];
        final int[] other = new int[BURDENS_MOST];
        final int[] soreness = new int[BACKS_MOST];

        Load() {
            for (int g = 0; g < BURDENS_MOST; g++) {
                first[g] = NONE;
                other[g] = NONE;
            }
        }

        void startOf(Shop shop) {
            days = 0;
            stock = shop.flock;
            for (int g = 0; g < BURDENS_MOST; g++) {
                weight[g] = shop.toldWeight[g];
                pad[g] = 0;
                first[g] = NONE;
                other[g] = NONE;
            }
            for (int p = 0; p < BACKS_MOST; p++) {
                soreness[p] = 0;
            }
        }

        void copyFrom(Load from) {
            days = from.days;
            stock = from.stock;
            for (int g = 0; g < BURDENS_MOST; g++) {
                weight[g] = from.weight[g];
                pad[g] = from.pad[g];
                first[g] = from.first[g];
                other[g] = from.other[g];
            }
            for (int p = 0; p < BACKS_MOST; p++) {
                soreness[p] = from.soreness[p];
            }
        }

        boolean isCarried(int g) {
            return first[g] != NONE;
        }

        boolean isShared(int g) {
            return other[g] != NONE;
        }

        boolean isOn(int g, int p) {
            return first[g] == p || other[g] == p;
        }

        boolean canJoin(int g, int p) {
            return isCarried(g) && !isShared(g) && first[g] != p;
        }

        void putOn(int g, int p) {
            first[g] = p;
        }

        void join(int g, int p) {
            other[g] = p;
        }

        void putDown(int g, int p) {
            if (first[g] == p) {
                first[g] = other[g];
            }
            other[g] = NONE;
        }

        /** Of two that share, the new one takes the place of the one that hands on. */
        void handOn(int g, int p, int q) {
            if (first[g] == p) {
                first[g] = q;
            } else {
                other[g] = q;
            }
        }
    }

    /** What can be undone: a ring of the latest loads. */
    private static final class Past {
        int count;
        private int next;
        private final Load[] loads = new Load[UNDONE_MOST];

        Past() {
            for (int i = 0; i < loads.length; i++) {
                loads[i] = new Load();
            }
        }

        void clear() {
            count = 0;
        }

        void add(Load load) {
            loads[next].copyFrom(load);
            next = (next + 1) % UNDONE_MOST;
            count = Math.min(count + 1, UNDONE_MOST);
        }

        boolean takeBackInto(Load load) {
            if (count < 1) {
                return false;
            }
            next = (next + UNDONE_MOST - 1) % UNDONE_MOST;
            load.copyFrom(loads[next]);
            count--;
            return true;
        }
    }

    /** How the load of a shop galls, now and on days to come. */
    private static final class Scale {
        final Shop shop = new Shop();
        final Load load = new Load();

        int carriedBy(int p) {
            int set = 0;
            for (int g = 0; g < shop.burdens; g++) {
                if (load.isOn(g, p)) {
                    set |= 1 << g;
                }
            }
            return set;
        }

        int carriedByNobody() {
            int set = 0;
            for (int g = 0; g < shop.burdens; g++) {
                if (!load.isCarried(g)) {
                    set |= 1 << g;
                }
            }
            return set;
        }

        int sharedOnes() {
            int set = 0;
            for (int g = 0; g < shop.burdens; g++) {
                if (load.isShared(g)) {
                    set |= 1 << g;
                }
            }
            return set;
        }

        /** Of a burden that nobody carries: what a back would bear of it alone. */
        int partOf(int g, int p) {
            int weight = load.weight[g];
            if (!load.isShared(g)) {
                return weight;
            }
            return load.first[g] == p ? weight - weight / 2 : weight / 2;
        }

        int partsOn(int p) {
            int set = carriedBy(p);
            int parts = 0;
            for (int g = 0; g < shop.burdens; g++) {
                if (has(set, g)) {
                    parts += partOf(g, p);
                }
            }
            return parts;
        }

        int mostLaden() {
            int most = NONE;
            int mostParts = NONE;
            for (int p = 0; p < shop.backs; p++) {
                int parts = partsOn(p);
                if (parts > mostParts) {
                    mostParts = parts;
                    most = p;
                }
            }
            return most;
        }

        int rubOf(int g, int p, boolean shared, int day) {
            int r = Math.max(0, shop.edge[g] - load.pad[g]);
            switch (shop.kind[g]) {
                case GRIEF: return shared ? r / 2 : r;
                case DEBT: return r > 0 ? r + shop.spine[p] : 0;
                case JOY: return day % 2 != 0 ? r + 2 : r;
                case UNTOLD: return isAugust(day) ? 2 * r : 0;
                default: return r;
            }
        }

        /** Of a back that carried just the burdens of a set. */
        int gallingOf(int p, int set, int day) {
            int parts = 0;
            int rubs = 0;
            for (int g = 0; g < shop.burdens; g++) {
                if (has(set, g)) {
                    parts += partOf(g, p);
                    rubs += rubOf(g, p, load.isShared(g), day);
                }
            }
            return Math.max(0, parts - shop.strength[p]) + rubs;
        }

        int gallingToday(int p) {
            return gallingOf(p, carriedBy(p), load.days);
        }

        int gallingOfAll(int day) {
            int galling = 0;
            for (int p = 0; p < shop.backs; p++) {
                galling += gallingOf(p, carriedBy(p), day);
            }
            return galling;
        }

        int galled() {
            int set = 0;
            for (int p = 0; p < shop.backs; p++) {
                if (load.soreness[p] >= GALLED_FROM) {
                    set |= 1 << p;
                }
            }
            return set;
        }

        /** How sore a back is behind a day on which it carries just the burdens of a set. */
        int soreBehindDay(int p, int soreness, int set, int day) {
            if (set == 0) {
                return Math.max(0, soreness - REST);
            }
            return Math.min(SORE_MOST, soreness + gallingOf(p, set, day));
        }

        void passDay() {
            for (int p = 0; p < shop.backs; p++) {
                load.soreness[p] = soreBehindDay(p, load.soreness[p], carriedBy(p), load.days);
            }
            load.days++;
        }

        int soreBehind(int p, int n) {
            int set = carriedBy(p);
            int soreness = load.soreness[p];
            for (int i = 0; i < n; i++) {
                soreness = soreBehindDay(p, soreness, set, load.days + i);
            }
            return soreness;
        }

        int firstGalledBehind(int p) {
            int set = carriedBy(p);
            int soreness = load.soreness[p];
            for (int i = 0; i <= DAYS_TRIED; i++) {
                if (soreness >= GALLED_FROM) {
                    return i;
                }
                soreness = soreBehindDay(p, soreness, set, load.days + i);
            }
            return NONE;
        }

        int worstBehind(int n) {
            int worst = 0;
            int most = NONE;
            for (int i = 0; i < n; i++) {
                int galling = gallingOfAll(load.days + i);
                if (galling > most) {
                    most = galling;
                    worst = i;
                }
            }
            return worst;
        }

        int ableToTake(int g) {
            int able = 0;
            for (int p = 0; p < shop.backs; p++) {
                int set = carriedBy(p);
                if (gallingOf(p, set | 1 << g, load.days) <= gallingOf(p, set, load.days)) {
                    able |= 1 << p;
                }
            }
            return able;
        }

        /** An edge is at most 20 and a pad may be 30: no pad is ever too thin for it. */
        private int flockForBurden(int g) {
            int kind = shop.kind[g];
            if (kind == JOY && load.days % 2 != 0) {
                return NONE;
            }
            if (kind == UNTOLD && !isAugust(load.days)) {
                return 0;
            }
            // Half of 1 is cut to 0, so a shared grief may keep 1 of its edge.
            int kept = kind == GRIEF && load.isShared(g) ? 1 : 0;
            return Math.max(0, shop.edge[g] - load.pad[g] - kept);
        }

        private int flockForBurdens(int set) {
            int flock = 0;
            for (int g = 0; g < shop.burdens; g++) {
                if (has(set, g)) {
                    int more = flockForBurden(g);
                    if (more == NONE) {
                        return NONE;
                    }
                    flock += more;
                }
            }
            return flock;
        }

        int flockForBack(int p) {
            return partsOn(p) > shop.strength[p] ? NONE : flockForBurdens(carriedBy(p));
        }

        int flockForAll() {
            int carried = 0;
            for (int p = 0; p < shop.backs; p++) {
                if (partsOn(p) > shop.strength[p]) {
                    return NONE;
                }
                carried |= carriedBy(p);
            }
            return flockForBurdens(carried);
        }

        int ringOf(int p) {
            int ring = 1 << p;
            // Each round but the last binds one more back at least.
            for (int round = 0; round < BACKS_MOST; round++) {
                for (int g = 0; g < shop.burdens; g++) {
                    int two = load.isShared(g) ? 1 << load.first[g] | 1 << load.other[g] : 0;
                    if ((ring & two) != 0) {
                        ring |= two;
                    }
                }
            }
            return ring;
        }
    }

    /** All burdens laid anew so that they gall least today. */
    private static final class Fitting {
        int least;
        int bestPair;
        final int[] bestBack = new int[BURDENS_MOST];
        private final int[] parts = new int[BACKS_MOST];
        private final int[] triedBack = new int[BURDENS_MOST];
        private int triedPair;

        void layAlone(Scale scale) {
            begin();
            lay(scale, 0, 0, NONE);
        }

        void layByTwo(Scale scale, int g) {
            begin();
            int weight = scale.load.weight[g];
            int today = scale.load.days;
            int backs = scale.shop.backs;
            int half = weight / 2;
            for (int p = 0; p < backs; p++) {
                for (int q = p + 1; q < backs; q++) {
                    triedPair = 10 * p + q;
                    int galling = putOn(scale, p, weight - half) + scale.rubOf(g, p, true, today)
                            + putOn(scale, q, half) + scale.rubOf(g, q, true, today);
                    lay(scale, 0, galling, g);
                    parts[p] -= weight - half;
                    parts[q] -= half;
                }
            }
        }

        private void begin() {
            least = ABOVE_ALL;
            bestPair = NONE;
            triedPair = NONE;
            for (int p = 0; p < BACKS_MOST; p++) {
                parts[p] = 0;
            }
        }

        /** How much more the back galls by it. */
        private int putOn(Scale scale, int p, int part) {
            int strength = scale.shop.strength[p];
            int galling = Math.max(0, parts[p] - strength);
            parts[p] += part;
            return Math.max(0, parts[p] - strength) - galling;
        }

        /** Burdens from g on, but for one that is laid; galling only grows, so what is no better is left. */
        private void lay(Scale scale, int g, int galling, int laid) {
            if (galling >= least || g > BURDENS_MOST) {
                return;
            }
            if (g >= scale.shop.burdens) {
                least = galling;
                bestPair = triedPair;
                System.arraycopy(triedBack, 0, bestBack, 0, BURDENS_MOST);
                return;
            }
            if (g == laid) {
                lay(scale, g + 1, galling, laid);
                return;
            }
            int weight = scale.load.weight[g];
            for (int p = 0; p < scale.shop.backs; p++) {
                triedBack[g] = p;
                int more = putOn(scale, p, weight) + scale.rubOf(g, p, false, scale.load.days);
                lay(scale, g + 1, galling + more, laid);
                parts[p] -= weight;
            }
        }
    }

    /** The order in which a back sets down all that it carries. */
    private static final class Unloading {
        int leastSore;
        int bestFigures;

        void search(Scale scale, int p) {
            leastSore = ABOVE_ALL;
            bestFigures = 0;
            putDownNext(scale, p, scale.carriedBy(p), scale.load.soreness[p], 0, 0);
        }

        /** Orders come from the least on, so of like ones the first stays. */
        private void putDownNext(Scale scale, int p, int set, int soreness, int figures, int behind) {
            if (set == 0 || behind >= BURDENS_MOST) {
                if (soreness < leastSore) {
                    leastSore = soreness;
                    bestFigures = figures;
                }
                return;
            }
            for (int g = 0; g < scale.shop.burdens; g++) {
                if (has(set, g)) {
                    int rest = set & ~(1 << g);
                    int then = scale.soreBehindDay(p, soreness, rest, scale.load.days + behind);
                    putDownNext(scale, p, rest, then, figures * 10 + g + 1, behind + 1);
                }
            }
        }
    }

    /** What one felt under an unknown burden, and which burdens it may be. */
    private static final class Feelings {
        int count;
        int pairs;
        private final int[] edgesOfWeight = new int[WEIGHT_MOST + 1];
        private final int[] strength = new int[FELT_MOST];
        private final int[] pad = new int[FELT_MOST];
        private final int[] galling = new int[FELT_MOST];
        private final int[] alike = new int[WEIGHT_MOST + EDGE_MOST + 1];

        void clear() {
            count = 0;
        }

        boolean add(int s, int f, int v) {
            if (count >= FELT_MOST) {
                return false;
            }
            strength[count] = s;
            pad[count] = f;
            galling[count] = v;
            count++;
            return true;
        }

        void findPairs() {
            pairs = 0;
            for (int w = 1; w <= WEIGHT_MOST; w++) {
                int edges = 0;
                for (int e = 0; e <= EDGE_MOST; e++) {
                    if (agrees(w, e)) {
                        edges |= 1 << e;
                        pairs++;
                    }
                }
                edgesOfWeight[w] = edges;
            }
        }

        private boolean agrees(int w, int e) {
            for (int i = 0; i < count; i++) {
                if (Math.max(0, w - strength[i]) + Math.max(0, e - pad[i]) != galling[i]) {
                    return false;
                }
            }
            return true;
        }

        int leastWeight() {
            for (int w = 1; w <= WEIGHT_MOST; w++) {
                if (edgesOfWeight[w] != 0) {
                    return w;
                }
            }
            return NONE;
        }

        int leastEdge() {
            int w = leastWeight();
            for (int e = 0; w != NONE && e <= EDGE_MOST; e++) {
                if (has(edgesOfWeight[w], e)) {
                    return e;
                }
            }
            return NONE;
        }

        int bestStrength() {
            int best = NONE;
            int least = pairs;
            for (int s = 1; s <= TRIED_STRENGTHS; s++) {
                int part = greatestPart(s, least);
                if (part < least) {
                    least = part;
                    best = s;
                }
            }
            return best;
        }

        /** How many pairs at most gall alike; from enough on the count may stop. */
        private int greatestPart(int s, int enough) {
            for (int i = 0; i < alike.length; i++) {
                alike[i] = 0;
            }
            int greatest = 0;
            for (int w = 1; w <= WEIGHT_MOST && greatest < enough; w++) {
                int over = Math.max(0, w - s);
                for (int e = 0; e <= EDGE_MOST; e++) {
                    if (has(edgesOfWeight[w], e)) {
                        alike[over + e]++;
                        greatest = Math.max(greatest, alike[over + e]);
                    }
                }
            }
            return greatest;
        }
    }

    /** Entries that tell how sore backs are. */
    private static final class Book {
        int count;
        private final int[] back = new int[BOOK_MOST];
        private final int[] soreness = new int[BOOK_MOST];

        void clear() {
            count = 0;
        }

        boolean add(int p, int sore) {
            if (count >= BOOK_MOST) {
                return false;
            }
            back[count] = p;
            soreness[count] = sore;
            count++;
            return true;
        }

        int firstWrong(Load load) {
            for (int i = 0; i < count; i++) {
                if (load.soreness[back[i]] != soreness[i]) {
                    return i;
                }
            }
            return NONE;
        }
    }
}
