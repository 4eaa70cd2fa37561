import java.util.Arrays;

/** The last is served next: a town, its laws and its shop, as ../shared/DOC.md promises them. */
public final class LastServed {
    public static final int NONE = -1;
    public static final int VOID = -2147483648;

    private static final int MOST_BYTES = 500;
    private static final int BYTES_FED = 20;
    private static final int MOST_COUNTERS = 3;
    private static final int MOST_SORTS = 5;
    private static final int MOST_LAWS = 5;
    private static final int MOST_PEOPLE = 30;
    private static final int MOST_COMERS = 8;
    private static final int MOST_ENTRIES = 20;
    private static final int MOST_IMAGES = 3;
    private static final int MOST_FEE = 99;
    private static final int MOST_STANDING = 12;
    private static final int MOST_MINUTES_AHEAD = 120;
    private static final int MOST_MINUTES_OF_LEAST = 60;
    private static final int MOST_MINUTES = 240;
    private static final int MOST_SEED = 1000000;
    private static final int SIXTEEN = 16;

    private static final int FIRST = 0;
    private static final int LAST = 1;
    private static final int MIDDLE = 2;
    private static final int LOT = 3;
    private static final int FIRST_TOLD = 4;
    private static final int MOST_LAW = 8;

    /** What is told of a COUNTER, by its place in the TOWN's row. */
    private static final int LAW = 0;
    private static final int MINUTES_EACH = 1;
    private static final int STOCK = 2;
    private static final int COUNTER_FACTS = 3;

    /** What is told of a SORT, by its place in the TOWN's row. */
    private static final int CHANCE = 0;
    private static final int WORTH = 1;
    private static final int PATIENCE = 2;
    private static final int COST_INSIDE = 3;
    private static final int COST_OUTSIDE = 4;
    private static final int WAY = 5;
    private static final int SORT_FACTS = 6;

    /** What the SHOP counts of a SORT; the document numbers these from 10 on. */
    private static final int FIRST_COUNTED = 10;
    private static final int CAME = 0;
    private static final int SERVED = 1;
    private static final int GAVE_UP = 2;
    private static final int WAITED = 3;
    private static final int SQUARES = 4;
    private static final int LONGEST = 5;
    private static final int GAINED = 6;
    private static final int UNLIKE = 7;
    private static final int COUNTED = 7;

    private final Text text;
    private final Town town;
    private final Town townDraft;
    private final Laws laws;
    private final Laws lawsDraft;
    private final Shop shop;
    private final Shop[] images;
    private final boolean[] imageKept;
    private final Row row;
    private final Ones ones;

    public LastServed() {
        Crowd crowd = new Crowd();
        text = new Text();
        town = new Town();
        townDraft = new Town();
        laws = new Laws();
        lawsDraft = new Laws();
        shop = new Shop(town, laws, crowd);
        images = new Shop[MOST_IMAGES];
        for (int k = 0; k < MOST_IMAGES; k++) {
            images[k] = new Shop(town, laws, crowd);
        }
        imageKept = new boolean[MOST_IMAGES];
        row = new Row(laws, crowd);
        ones = new Ones();
    }

    public int feed(int a, int b, int c, int d, int e) {
        if (text.length > MOST_BYTES - BYTES_FED) {
            return NONE;
        }
        text.append(a);
        text.append(b);
        text.append(c);
        text.append(d);
        text.append(e);
        return text.length;
    }

    public boolean end(int n) {
        return text.shorten(n);
    }

    public int fault(int what) {
        if (what == 0) {
            return townDraft.read(text);
        }
        return what == 1 ? lawsDraft.read(text) : VOID;
    }

    public int town() {
        if (townDraft.read(text) != NONE) {
            return NONE;
        }
        town.takeOver(townDraft);
        shop.open();
        for (int k = 0; k < MOST_IMAGES; k++) {
            imageKept[k] = false;
        }
        text.shorten(0);
        return town.counters;
    }

    public int laws() {
        if (lawsDraft.read(text) != NONE) {
            return NONE;
        }
        laws.takeOver(lawsDraft);
        text.shorten(0);
        return laws.lines;
    }

    public int counter(int counter, int what) {
        Desk desk = shop.deskOf(counter);
        if (desk == null) {
            return NONE;
        }
        switch (what) {
            case 0:
                return town.ofCounter(counter, LAW);
            case 1:
                return town.ofCounter(counter, MINUTES_EACH);
            case 2:
                return desk.stock;
            case 3:
                return desk.size;
            case 4:
                return desk.busyTill;
            default:
                return NONE;
        }
    }

    public int sort(int sort, int what) {
        if (!town.hasSort(sort)) {
            return VOID;
        }
        if (what >= 0 && what < SORT_FACTS) {
            return town.ofSort(sort, what);
        }
        if (what < FIRST_COUNTED || what > FIRST_COUNTED + UNLIKE) {
            return VOID;
        }
        int counted = what - FIRST_COUNTED;
        return counted == UNLIKE ? shop.unlikeOf(sort) : shop.counted(sort, counted);
    }

    public boolean seed(int seed) {
        if (seed < 0 || seed > MOST_SEED) {
            return false;
        }
        shop.x = seed;
        return true;
    }

    public int come(int sort, int counter) {
        if (!town.hasSort(sort) || !town.hasCounter(counter) || shop.minute >= town.closing()) {
            return NONE;
        }
        return shop.arrive(sort, counter, true);
    }

    public boolean turn(int person) {
        Person one = shop.whoIsThere(person);
        if (one == null || one.state != Person.INSIDE) {
            return false;
        }
        shop.goOut(person, one);
        return true;
    }

    public boolean leave(int person) {
        Person one = shop.whoIsThere(person);
        if (one == null) {
            return false;
        }
        shop.giveUp(person, one);
        return true;
    }

    public int person(int person, int what) {
        Person one = shop.whoIsThere(person);
        if (one == null) {
            return NONE;
        }
        return what == 6 ? shop.placeOf(person, one) : one.fact(what);
    }

    public int next(int counter, int law) {
        Desk desk = shop.deskOf(counter);
        if (desk == null || !isSettledLaw(law)) {
            return NONE;
        }
        return desk.at(shop.placeOfNext(desk, law));
    }

    public int inside(int counter, int k) {
        Desk desk = shop.deskOf(counter);
        return desk == null ? NONE : desk.at(k);
    }

    public int go(int n) {
        if (!town.isTold() || n < 1 || n > MOST_MINUTES) {
            return NONE;
        }
        for (int k = 0; k < n && shop.minute < town.closing(); k++) {
            shop.passMinute();
        }
        return shop.minute;
    }

    public int comer(int minute, int takes) {
        return row.append(minute, takes);
    }

    public int clear() {
        int had = row.size;
        row.size = 0;
        return had;
    }

    public int waits(int law, int k, int what) {
        if (row.size == 0 || !isSettledLaw(law)) {
            return NONE;
        }
        row.serveAll(law);
        switch (what) {
            case 0:
                return row.servedAt(k);
            case 1:
                return row.waitOf(k);
            case 2:
                return row.together();
            case 3:
                return row.unlikeOfAll();
            case 4:
                return row.longest();
            default:
                return NONE;
        }
    }

    public int lot() {
        return row.size == 0 ? NONE : row.meanByLot();
    }

    public int best() {
        return row.size == 0 ? NONE : row.bestLaw();
    }

    public int book(int k, int what) {
        return k == NONE ? shop.book.size : shop.book.fact(k, what);
    }

    public int judge(int counter, int law) {
        if (!town.hasCounter(counter) || law < FIRST || law > MIDDLE) {
            return NONE;
        }
        return shop.book.outOfOrder(counter, law);
    }

    public int value(int sort, int counter, int place, int q, int what) {
        if (place < 0 || what < 0 || what > 1) {
            return VOID;
        }
        int t = place / 10000;
        int ahead = place / 100 % 100;
        int behind = place % 100;
        if (!canStand(t, ahead, behind) || !ones.begin(town, sort, counter, q)) {
            return VOID;
        }
        ones.reach(t);
        return what == 0 ? ones.valueOf(ahead, behind) : ones.actOf(ahead, behind);
    }

    public int entering(int sort, int counter, int place, int q) {
        if (place < 0) {
            return VOID;
        }
        int t = place / 100;
        int many = place % 100;
        if (!canStand(t, many, 0) || !ones.begin(town, sort, counter, q)) {
            return VOID;
        }
        ones.reach(t);
        return ones.worthOfEntering(many, town.fee());
    }

    public int when(int sort, int counter, int t, int row, int q) {
        if (t < 0 || t > MOST_MINUTES_AHEAD || row < 0 || row >= Ones.ROWS) {
            return NONE;
        }
        if (!ones.begin(town, sort, counter, q)) {
            return NONE;
        }
        return ones.bestTime(t, row, town.fee());
    }

    public int least(int sort, int counter, int t, int q) {
        if (t < 1 || t > MOST_MINUTES_OF_LEAST || !ones.begin(town, sort, counter, q)) {
            return NONE;
        }
        return ones.leastFee(t);
    }

    public int send(int sort, int counter, int place, int q, int c) {
        if (place < 0 || c < 0 || c > MOST_FEE) {
            return VOID;
        }
        int t = place / 10000;
        int ahead = place / 100 % 100;
        int behind = place % 100;
        int allAhead = ahead + behind + 1;
        if (!canStand(t, allAhead, 0) || !ones.begin(town, sort, counter, q)) {
            return VOID;
        }
        ones.reach(t);
        return ones.worthOfEntering(allAhead, town.fee() + c) - ones.valueOf(ahead, behind);
    }

    public int out(int law, int n, int k) {
        if (law < FIRST || law > MIDDLE || n < 0 || n > MOST_STANDING || k < 0 || k > MOST_STANDING) {
            return NONE;
        }
        int standing = (1 << n) - 1;
        int left = standing;
        for (int served = 0; served < k && served < n; served++) {
            left &= ~bitAtPlace(left, placeBy(law, n - served));
        }
        return standing & ~left;
    }

    public boolean image(int k) {
        if (!town.isTold() || k < 0 || k >= MOST_IMAGES) {
            return false;
        }
        images[k].takeOver(shop);
        imageKept[k] = true;
        return true;
    }

    public boolean on(int k) {
        if (k < 0 || k >= MOST_IMAGES || !imageKept[k]) {
            return false;
        }
        shop.takeOver(images[k]);
        return true;
    }

    public int count(int what) {
        switch (what) {
            case 0:
                return town.counters;
            case 1:
                return town.sorts;
            case 2:
                return shop.minute;
            case 3:
                return town.isTold() ? town.closing() : 0;
            case 4:
                return town.fee();
            case 5:
                return town.bow();
            case 6:
                return laws.lines;
            case 7:
                return shop.howMany();
            case 8:
                return row.size;
            case 9:
                return text.length;
            default:
                return NONE;
        }
    }

    /** LAW 3 settles nothing by itself: who is next by it is known only as the lot is drawn. */
    private static boolean isSettledLaw(int law) {
        return law >= FIRST && law <= MOST_LAW && law != LOT;
    }

    private static boolean canStand(int t, int ahead, int behind) {
        return t >= 0 && t <= MOST_MINUTES_AHEAD && ahead >= 0 && behind >= 0 && ahead + behind <= MOST_STANDING;
    }

    /** Whom a LAW serves of n in their order, if it looks at places alone; a LAW that isn't told is as LAST. */
    private static int placeBy(int law, int n) {
        if (law == FIRST) {
            return 0;
        }
        return law == MIDDLE ? n / 2 : n - 1;
    }

    /** The bit of the one who stands at a place among the bits that are set, counted from the lowest on. */
    private static int bitAtPlace(int bits, int place) {
        int ahead = 0;
        for (int k = 0; k < MOST_STANDING; k++) {
            int bit = 1 << k;
            if ((bits & bit) == 0) {
                continue;
            }
            if (ahead == place) {
                return bit;
            }
            ahead++;
        }
        return 0;
    }

    private static int unlike(long many, long together, long squares) {
        return many == 0 ? 0 : (int) ((many * squares - together * together) / (many * many));
    }

    /** The bytes that were fed, and the token of them that is being read. */
    private static final class Text {
        private static final int ENDED = 0;
        static final int WORD = 1;
        static final int NUMBER = 2;
        private static final int BLANK = 3;
        private static final int WRONG = 4;
        /** Above each number that a text may tell, so that a number of any length stays one that can't be. */
        private static final int TOO_GREAT = 100000;

        private final int[] bytes = new int[MOST_BYTES];
        private int length;
        private int at;
        private int start;
        private int kind;
        private int number;
        private int fault;

        void append(int word) {
            for (int shift = 24; shift >= 0 && length < MOST_BYTES; shift -= 8) {
                bytes[length] = word >>> shift & 255;
                length++;
            }
        }

        boolean shorten(int n) {
            if (n < 0 || n > length) {
                return false;
            }
            length = n;
            return true;
        }

        void begin() {
            at = 0;
            fault = NONE;
            advance();
        }

        boolean isSound() {
            return fault == NONE;
        }

        boolean goesOn() {
            return fault == NONE && kind != ENDED;
        }

        /** The first refusal is the one that counts: what is read behind it has no sense any more. */
        void refuse() {
            if (fault == NONE) {
                fault = start;
            }
        }

        void advance() {
            while (at < length && kindAt(at) == BLANK) {
                at++;
            }
            start = at;
            kind = kindAt(at);
            number = 0;
            if (kind == WORD) {
                passLetters();
            } else if (kind == NUMBER) {
                passDigits();
            } else if (kind != ENDED) {
                at++;
            }
        }

        private void passLetters() {
            while (at < length && kindAt(at) == WORD) {
                at++;
            }
        }

        private void passDigits() {
            while (at < length && kindAt(at) == NUMBER) {
                int longer = number * 10 + bytes[at] - '0';
                number = longer < TOO_GREAT ? longer : TOO_GREAT;
                at++;
            }
        }

        /** A sign is its own kind. */
        private int kindAt(int place) {
            if (place < 0 || place >= length || place >= MOST_BYTES) {
                return ENDED;
            }
            int sign = bytes[place];
            if (sign >= 'a' && sign <= 'z') {
                return WORD;
            } else if (sign >= '0' && sign <= '9') {
                return NUMBER;
            }
            switch (sign) {
                case 32:
                case 10:
                    return BLANK;
                case '+':
                case '-':
                case '*':
                case '<':
                case '=':
                case '(':
                case ')':
                case ';':
                    return sign;
                default:
                    return WRONG;
            }
        }

        boolean wordIs(String word) {
            if (kind != WORD || at - start != word.length() || start < 0 || at > MOST_BYTES) {
                return false;
            }
            for (int k = start; k < at; k++) {
                if (bytes[k] != word.charAt(k - start)) {
                    return false;
                }
            }
            return true;
        }

        boolean wordIsLike(int from, int till) {
            if (kind != WORD || at - start != till - from || start < 0 || from < 0
                || at > MOST_BYTES || till > MOST_BYTES) {
                return false;
            }
            for (int k = start; k < at; k++) {
                if (bytes[k] != bytes[from + k - start]) {
                    return false;
                }
            }
            return true;
        }

        int takeNumber(int low, int high) {
            if (fault != NONE || kind != NUMBER || number < low || number > high) {
                refuse();
                return NONE;
            }
            int told = number;
            advance();
            return told;
        }

        boolean takeSign(char sign) {
            if (fault != NONE || kind != sign) {
                refuse();
                return false;
            }
            advance();
            return true;
        }
    }

    /** What a text tells of COUNTERS and SORTS, of closing, fee and bow. */
    private static final class Town {
        private static final int USUAL_CLOSING = 120;
        private static final int MOST_LETTERS = 8;

        private final int[] counterFacts = new int[MOST_COUNTERS * COUNTER_FACTS];
        private final int[] sortFacts = new int[MOST_SORTS * SORT_FACTS];
        private final int[] nameFrom = new int[MOST_SORTS];
        private final int[] nameTill = new int[MOST_SORTS];
        private int counters;
        private int sorts;
        private int closeTold = NONE;
        private int feeTold = NONE;
        private int bowTold = NONE;

        /** Reads the whole text and answers its FAULT; only without one is this a TOWN. */
        int read(Text text) {
            counters = 0;
            sorts = 0;
            closeTold = NONE;
            feeTold = NONE;
            bowTold = NONE;
            text.begin();
            for (int k = 0; k < MOST_BYTES && text.goesOn(); k++) {
                readPart(text);
            }
            if (counters == 0 || sorts == 0) {
                text.refuse();
            }
            return text.fault;
        }

        private void readPart(Text text) {
            if (text.wordIs("counter") && counters < MOST_COUNTERS) {
                readCounter(text);
            } else if (text.wordIs("sort") && sorts < MOST_SORTS) {
                readSort(text);
            } else if (text.wordIs("close") && closeTold == NONE) {
                closeTold = readOnly(text, 10, 240);
            } else if (text.wordIs("fee") && feeTold == NONE) {
                feeTold = readOnly(text, 0, MOST_FEE);
            } else if (text.wordIs("bow") && bowTold == NONE) {
                bowTold = readOnly(text, 0, 9);
            } else {
                text.refuse();
            }
        }

        private static int readOnly(Text text, int low, int high) {
            text.advance();
            int told = text.takeNumber(low, high);
            text.takeSign(';');
            return told;
        }

        private void readCounter(Text text) {
            text.advance();
            tellCounter(LAW, text.takeNumber(0, MOST_LAW));
            tellCounter(MINUTES_EACH, text.takeNumber(1, 9));
            tellCounter(STOCK, text.takeNumber(0, 99));
            if (text.takeSign(';')) {
                counters++;
            }
        }

        private void tellCounter(int what, int told) {
            if (counters >= 0 && counters < MOST_COUNTERS) {
                counterFacts[counters * COUNTER_FACTS + what] = told;
            }
        }

        private void readSort(Text text) {
            text.advance();
            readName(text);
            tellSort(CHANCE, text.takeNumber(0, SIXTEEN));
            tellSort(WORTH, text.takeNumber(0, 99));
            tellSort(PATIENCE, text.takeNumber(1, 240));
            tellSort(COST_INSIDE, text.takeNumber(0, 9));
            tellSort(COST_OUTSIDE, text.takeNumber(0, 9));
            tellSort(WAY, text.takeNumber(0, 2));
            if (text.takeSign(';')) {
                sorts++;
            }
        }

        private void tellSort(int what, int told) {
            if (sorts >= 0 && sorts < MOST_SORTS) {
                sortFacts[sorts * SORT_FACTS + what] = told;
            }
        }

        /** Of a name only its place in the text is kept: behind the reading nobody asks for it. */
        private void readName(Text text) {
            boolean isName = text.kind == Text.WORD && text.at - text.start <= MOST_LETTERS;
            if (!isName || isKept(text) || isTaken(text) || sorts < 0 || sorts >= MOST_SORTS) {
                text.refuse();
                return;
            }
            nameFrom[sorts] = text.start;
            nameTill[sorts] = text.at;
            text.advance();
        }

        private boolean isTaken(Text text) {
            for (int k = 0; k < sorts && k < MOST_SORTS; k++) {
                if (text.wordIsLike(nameFrom[k], nameTill[k])) {
                    return true;
                }
            }
            return false;
        }

        private static boolean isKept(Text text) {
            return text.wordIs("counter") || text.wordIs("sort") || text.wordIs("close")
                || text.wordIs("fee") || text.wordIs("bow");
        }

        void takeOver(Town other) {
            System.arraycopy(other.counterFacts, 0, counterFacts, 0, MOST_COUNTERS * COUNTER_FACTS);
            System.arraycopy(other.sortFacts, 0, sortFacts, 0, MOST_SORTS * SORT_FACTS);
            counters = other.counters;
            sorts = other.sorts;
            closeTold = other.closeTold;
            feeTold = other.feeTold;
            bowTold = other.bowTold;
        }

        boolean isTold() {
            return counters > 0;
        }

        boolean hasCounter(int counter) {
            return counter >= 0 && counter < counters && counter < MOST_COUNTERS;
        }

        boolean hasSort(int sort) {
            return sort >= 0 && sort < sorts && sort < MOST_SORTS;
        }

        int ofCounter(int counter, int what) {
            if (!hasCounter(counter) || what < 0 || what >= COUNTER_FACTS) {
                return 0;
            }
            return counterFacts[counter * COUNTER_FACTS + what];
        }

        int ofSort(int sort, int what) {
            if (!hasSort(sort) || what < 0 || what >= SORT_FACTS) {
                return 0;
            }
            return sortFacts[sort * SORT_FACTS + what];
        }

        int closing() {
            return closeTold == NONE ? USUAL_CLOSING : closeTold;
        }

        int fee() {
            return Math.max(feeTold, 0);
        }

        int bow() {
            return Math.max(bowTold, 0);
        }
    }

    /** Those of whom one is NEXT, in the order in which they came in, with what the names of a LAW ask of each. */
    private static final class Crowd {
        static final int CAME_IN = 0;
        static final int WAIT = 1;
        static final int SORT = 2;
        static final int WORTH_OF = 3;
        static final int AHEAD = 4;
        static final int BEHIND = 5;
        static final int MANY = 6;
        static final int MINUTE = 7;
        static final int LEFT = 8;
        static final int TURNS = 9;

        private final int[] cameIn = new int[MOST_PEOPLE];
        private final int[] waited = new int[MOST_PEOPLE];
        private final int[] sortOf = new int[MOST_PEOPLE];
        private final int[] worthOf = new int[MOST_PEOPLE];
        private final int[] turnsOf = new int[MOST_PEOPLE];
        private int size;
        private int minute;
        private int left;

        void gather(int now, int end) {
            size = 0;
            minute = now;
            left = end - now;
        }

        void append(int came, int since, int sort, int worth, int turns) {
            if (size < 0 || size >= MOST_PEOPLE) {
                return;
            }
            cameIn[size] = came;
            waited[size] = minute - since;
            sortOf[size] = sort;
            worthOf[size] = worth;
            turnsOf[size] = turns;
            size++;
        }

        int named(int name, int place) {
            if (place < 0 || place >= size || place >= MOST_PEOPLE) {
                return 0;
            }
            switch (name) {
                case CAME_IN:
                    return cameIn[place];
                case WAIT:
                    return waited[place];
                case SORT:
                    return sortOf[place];
                case WORTH_OF:
                    return worthOf[place];
                case AHEAD:
                    return place;
                case BEHIND:
                    return size - 1 - place;
                case MANY:
                    return size;
                case MINUTE:
                    return minute;
                case LEFT:
                    return left;
                case TURNS:
                    return turnsOf[place];
                default:
                    return 0;
            }
        }
    }

    /** The told LAWS: each a run of codes that a stack works off, so that brackets need no tree. */
    private static final class Laws {
        private static final int MOST_NUMBER = 9999;
        private static final int MOST_BRACKETS = 8;
        private static final int BOUND = 1000000;
        private static final int FIRST_NAME = 10000;
        private static final int FIRST_SIGN = 20000;
        /** Nine levels of brackets leave at most three numbers each open. */
        private static final int STACK = 40;

        private final int[] codes = new int[MOST_BYTES];
        private final int[] endOf = new int[MOST_LAWS];
        private final boolean[] wantsMost = new boolean[MOST_LAWS];
        private final int[] stack = new int[STACK];
        private int lines;
        private int used;
        private int top;

        int read(Text text) {
            lines = 0;
            used = 0;
            text.begin();
            for (int k = 0; k < MOST_BYTES && text.goesOn(); k++) {
                readLine(text);
            }
            if (lines == 0) {
                text.refuse();
            }
            return text.fault;
        }

        private void readLine(Text text) {
            if (!text.wordIs("law") || lines < 0 || lines >= MOST_LAWS) {
                text.refuse();
                return;
            }
            text.advance();
            boolean most = text.wordIs("most");
            if (!most && !text.wordIs("least")) {
                text.refuse();
                return;
            }
            text.advance();
            readSum(text, 0);
            if (text.takeSign(';')) {
                wantsMost[lines] = most;
                endOf[lines] = used;
                lines++;
            }
        }

        private void readSum(Text text, int depth) {
            readProduct(text, depth);
            for (int k = 0; k < MOST_BYTES && text.isSound(); k++) {
                int sign = text.kind;
                if (sign != '+' && sign != '-') {
                    return;
                }
                text.advance();
                readProduct(text, depth);
                write(FIRST_SIGN + sign);
            }
        }

        private void readProduct(Text text, int depth) {
            readFactor(text, depth);
            for (int k = 0; k < MOST_BYTES && text.isSound() && text.kind == '*'; k++) {
                text.advance();
                readFactor(text, depth);
                write(FIRST_SIGN + '*');
            }
        }

        private void readFactor(Text text, int depth) {
            int name = nameInHand(text);
            if (name != NONE) {
                write(FIRST_NAME + name);
                text.advance();
            } else if (text.kind == Text.NUMBER && text.number <= MOST_NUMBER) {
                write(text.number);
                text.advance();
            } else if (text.kind == '(' && depth < MOST_BRACKETS) {
                text.advance();
                readBrackets(text, depth + 1);
            } else {
                text.refuse();
            }
        }

        private void readBrackets(Text text, int depth) {
            readSum(text, depth);
            int sign = text.kind;
            if (text.isSound() && (sign == '<' || sign == '=')) {
                text.advance();
                readSum(text, depth);
                write(FIRST_SIGN + sign);
            }
            text.takeSign(')');
        }

        private void write(int code) {
            if (used >= 0 && used < MOST_BYTES) {
                codes[used] = code;
                used++;
            }
        }

        private static int nameInHand(Text text) {
            if (text.wordIs("came")) {
                return Crowd.CAME_IN;
            } else if (text.wordIs("wait")) {
                return Crowd.WAIT;
            } else if (text.wordIs("sort")) {
                return Crowd.SORT;
            } else if (text.wordIs("worth")) {
                return Crowd.WORTH_OF;
            } else if (text.wordIs("ahead")) {
                return Crowd.AHEAD;
            } else if (text.wordIs("behind")) {
                return Crowd.BEHIND;
            } else if (text.wordIs("many")) {
                return Crowd.MANY;
            } else if (text.wordIs("minute")) {
                return Crowd.MINUTE;
            } else if (text.wordIs("left")) {
                return Crowd.LEFT;
            }
            return text.wordIs("turns") ? Crowd.TURNS : NONE;
        }

        void takeOver(Laws other) {
            System.arraycopy(other.codes, 0, codes, 0, MOST_BYTES);
            System.arraycopy(other.endOf, 0, endOf, 0, MOST_LAWS);
            for (int k = 0; k < MOST_LAWS; k++) {
                wantsMost[k] = other.wantsMost[k];
            }
            lines = other.lines;
            used = other.used;
        }

        boolean isTold(int law) {
            return law >= FIRST_TOLD && law - FIRST_TOLD < lines && law - FIRST_TOLD < MOST_LAWS;
        }

        /** The place of who is NEXT by a LAW that is told. */
        int placeOfNext(int law, Crowd crowd) {
            if (!isTold(law)) {
                return placeBy(LAST, crowd.size);
            }
            int line = law - FIRST_TOLD;
            int found = NONE;
            int bestWorth = 0;
            for (int place = 0; place < crowd.size; place++) {
                int worth = work(line, crowd, place);
                boolean noWorse = wantsMost[line] ? worth >= bestWorth : worth <= bestWorth;
                if (found == NONE || noWorse) {
                    found = place;
                    bestWorth = worth;
                }
            }
            return found;
        }

        private int work(int line, Crowd crowd, int place) {
            top = 0;
            int end = Math.min(endAt(line), MOST_BYTES);
            for (int k = Math.max(endAt(line - 1), 0); k < end; k++) {
                int code = codes[k];
                if (code >= FIRST_SIGN) {
                    int right = pop();
                    push(joined(code - FIRST_SIGN, pop(), right));
                } else {
                    push(code >= FIRST_NAME ? crowd.named(code - FIRST_NAME, place) : code);
                }
            }
            return pop();
        }

        private int endAt(int line) {
            return line >= 0 && line < MOST_LAWS ? endOf[line] : 0;
        }

        private static int joined(int sign, long left, long right) {
            switch (sign) {
                case '+':
                    return bounded(left + right);
                case '-':
                    return bounded(left - right);
                case '*':
                    return bounded(left * right);
                case '<':
                    return left < right ? 1 : 0;
                default:
                    return left == right ? 1 : 0;
            }
        }

        private static int bounded(long worth) {
            if (worth < -BOUND) {
                return -BOUND;
            }
            return worth > BOUND ? BOUND : (int) worth;
        }

        private void push(int worth) {
            if (top >= 0 && top < STACK) {
                stack[top] = worth;
                top++;
            }
        }

        private int pop() {
            if (top <= 0 || top > STACK) {
                return 0;
            }
            top--;
            return stack[top];
        }
    }

    /** One of the PEOPLE, or a number that is free. */
    private static final class Person {
        static final int GONE = -1;
        static final int INSIDE = 0;
        static final int BOWING = 1;
        static final int WAITING = 2;

        private int state = GONE;
        private int sort;
        private int counter;
        private int cameFirst;
        private int cameLast;
        private int turns;
        private int bowsTill;

        void arrive(int ofSort, int atCounter, int minute) {
            state = WAITING;
            sort = ofSort;
            counter = atCounter;
            cameFirst = minute;
            cameLast = NONE;
            turns = 0;
            bowsTill = NONE;
        }

        void takeOver(Person other) {
            state = other.state;
            sort = other.sort;
            counter = other.counter;
            cameFirst = other.cameFirst;
            cameLast = other.cameLast;
            turns = other.turns;
            bowsTill = other.bowsTill;
        }

        int fact(int what) {
            switch (what) {
                case 0:
                    return sort;
                case 1:
                    return counter;
                case 2:
                    return state;
                case 3:
                    return cameFirst;
                case 4:
                    return cameLast;
                case 5:
                    return turns;
                case 7:
                    return bowsTill;
                default:
                    return NONE;
            }
        }
    }

    /** A COUNTER as the SHOP goes on: who is INSIDE in the order in which they came in, stock, busy till when. */
    private static final class Desk {
        private final int[] who = new int[MOST_PEOPLE];
        private int size;
        private int stock;
        private int busyTill;

        void open(int wholeStock) {
            size = 0;
            stock = wholeStock;
            busyTill = 0;
        }

        void takeOver(Desk other) {
            System.arraycopy(other.who, 0, who, 0, MOST_PEOPLE);
            size = other.size;
            stock = other.stock;
            busyTill = other.busyTill;
        }

        void append(int number) {
            if (size >= 0 && size < MOST_PEOPLE) {
                who[size] = number;
                size++;
            }
        }

        int at(int place) {
            return place >= 0 && place < size && place < MOST_PEOPLE ? who[place] : NONE;
        }

        int placeOf(int number) {
            for (int place = 0; place < size && place < MOST_PEOPLE; place++) {
                if (who[place] == number) {
                    return place;
                }
            }
            return NONE;
        }

        void remove(int number) {
            int place = placeOf(number);
            if (place == NONE) {
                return;
            }
            size--;
            for (int k = place; k < size && k < MOST_PEOPLE - 1; k++) {
                who[k] = who[k + 1];
            }
        }
    }

    /** The latest ENTRIES of whom a COUNTER served. */
    private static final class Book {
        private static final int MINUTE = 0;
        private static final int COUNTER = 1;
        private static final int NUMBER = 2;
        private static final int MANY = 3;
        private static final int PLACE = 4;
        private static final int FACTS = 5;

        private final int[] facts = new int[MOST_ENTRIES * FACTS];
        private int size;

        void write(int minute, int counter, int number, int many, int place) {
            if (size >= MOST_ENTRIES) {
                System.arraycopy(facts, FACTS, facts, 0, (MOST_ENTRIES - 1) * FACTS);
                size = MOST_ENTRIES - 1;
            }
            int from = Math.max(size, 0) * FACTS;
            facts[from + MINUTE] = minute;
            facts[from + COUNTER] = counter;
            facts[from + NUMBER] = number;
            facts[from + MANY] = many;
            facts[from + PLACE] = place;
            size++;
        }

        int fact(int k, int what) {
            if (k < 0 || k >= size || k >= MOST_ENTRIES || what < 0 || what >= FACTS) {
                return NONE;
            }
            return facts[k * FACTS + what];
        }

        int outOfOrder(int counter, int law) {
            int wrong = 0;
            for (int k = 0; k < size; k++) {
                boolean mine = fact(k, COUNTER) == counter;
                if (mine && fact(k, PLACE) != placeBy(law, fact(k, MANY))) {
                    wrong++;
                }
            }
            return wrong;
        }

        void takeOver(Book other) {
            System.arraycopy(other.facts, 0, facts, 0, MOST_ENTRIES * FACTS);
            size = other.size;
        }
    }

    /** The SHOP as it goes on, minute by minute; an IMAGE is one that stands still. */
    private static final class Shop {
        private final Town town;
        private final Laws laws;
        private final Crowd crowd;
        private final Person[] people = new Person[MOST_PEOPLE];
        private final Desk[] desks = new Desk[MOST_COUNTERS];
        private final int[] counts = new int[MOST_SORTS * COUNTED];
        private final Book book = new Book();
        private int minute;
        private int x;

        Shop(Town town, Laws laws, Crowd crowd) {
            this.town = town;
            this.laws = laws;
            this.crowd = crowd;
            for (int k = 0; k < MOST_PEOPLE; k++) {
                people[k] = new Person();
            }
            for (int k = 0; k < MOST_COUNTERS; k++) {
                desks[k] = new Desk();
            }
        }

        void open() {
            minute = 0;
            x = 0;
            book.size = 0;
            Arrays.fill(counts, 0);
            for (int k = 0; k < MOST_PEOPLE; k++) {
                people[k].state = Person.GONE;
            }
            for (int k = 0; k < MOST_COUNTERS; k++) {
                desks[k].open(town.ofCounter(k, STOCK));
            }
        }

        void takeOver(Shop other) {
            minute = other.minute;
            x = other.x;
            book.takeOver(other.book);
            System.arraycopy(other.counts, 0, counts, 0, MOST_SORTS * COUNTED);
            for (int k = 0; k < MOST_PEOPLE; k++) {
                people[k].takeOver(other.people[k]);
            }
            for (int k = 0; k < MOST_COUNTERS; k++) {
                desks[k].takeOver(other.desks[k]);
            }
        }

        Desk deskOf(int counter) {
            return town.hasCounter(counter) ? desks[counter] : null;
        }

        /** Null if the number is free, or can't be one. */
        Person whoIsThere(int number) {
            if (number < 0 || number >= MOST_PEOPLE) {
                return null;
            }
            Person one = people[number];
            return one == null || one.state == Person.GONE ? null : one;
        }

        int howMany() {
            int many = 0;
            for (int k = 0; k < MOST_PEOPLE; k++) {
                if (whoIsThere(k) != null) {
                    many++;
                }
            }
            return many;
        }

        int placeOf(int number, Person one) {
            Desk desk = deskOf(one.counter);
            return desk == null ? NONE : desk.placeOf(number);
        }

        int counted(int sort, int what) {
            if (!town.hasSort(sort) || what < 0 || what >= COUNTED) {
                return 0;
            }
            return counts[sort * COUNTED + what];
        }

        private void raise(int sort, int what, int by) {
            if (town.hasSort(sort) && what >= 0 && what < COUNTED) {
                counts[sort * COUNTED + what] += by;
            }
        }

        int unlikeOf(int sort) {
            int many = counted(sort, SERVED);
            return many == 0 ? VOID : unlike(many, counted(sort, WAITED), counted(sort, SQUARES));
        }

        private int drawLot(int below) {
            x = x * 1103515245 + 12345 & 2147483647;
            return below <= 0 ? 0 : x / 256 % below;
        }

        private int freeNumber() {
            for (int k = 0; k < MOST_PEOPLE; k++) {
                if (whoIsThere(k) == null) {
                    return k;
                }
            }
            return NONE;
        }

        int arrive(int sort, int counter, boolean goesIn) {
            int number = freeNumber();
            if (number < 0 || number >= MOST_PEOPLE) {
                return NONE;
            }
            Person one = people[number];
            one.arrive(sort, counter, minute);
            raise(sort, CAME, 1);
            if (goesIn) {
                comeIn(number, one);
            }
            return number;
        }

        private void comeIn(int number, Person one) {
            Desk desk = deskOf(one.counter);
            if (desk == null) {
                return;
            }
            raise(one.sort, GAINED, -town.fee());
            one.state = Person.INSIDE;
            one.cameLast = minute;
            one.bowsTill = NONE;
            desk.append(number);
        }

        private void standAside(int number, Person one) {
            Desk desk = deskOf(one.counter);
            if (desk != null) {
                desk.remove(number);
            }
        }

        void goOut(int number, Person one) {
            standAside(number, one);
            one.turns++;
            if (town.bow() == 0) {
                comeIn(number, one);
                return;
            }
            one.state = Person.BOWING;
            one.bowsTill = minute + town.bow();
        }

        void giveUp(int number, Person one) {
            standAside(number, one);
            one.state = Person.GONE;
            raise(one.sort, GAVE_UP, 1);
        }

        int placeOfNext(Desk desk, int law) {
            if (!laws.isTold(law) || desk.size == 0) {
                return placeBy(law, desk.size);
            }
            crowd.gather(minute, town.closing());
            for (int place = 0; place < desk.size; place++) {
                Person one = whoIsThere(desk.at(place));
                if (one != null) {
                    crowd.append(one.cameLast, one.cameFirst, one.sort, town.ofSort(one.sort, WORTH), one.turns);
                }
            }
            return laws.placeOfNext(law, crowd);
        }

        void passMinute() {
            newOnesCome();
            thoseOutsideComeIn();
            turnersGoOut();
            for (int counter = 0; counter < MOST_COUNTERS; counter++) {
                Desk desk = deskOf(counter);
                if (desk != null) {
                    serve(counter, desk);
                }
            }
            minute++;
            someGiveUpAndOthersPay();
        }

        private void newOnesCome() {
            for (int sort = 0; sort < town.sorts; sort++) {
                if (drawLot(SIXTEEN) < town.ofSort(sort, CHANCE)) {
                    int counter = emptiest();
                    boolean goesIn = town.ofSort(sort, WAY) != 2 || isEmptyAt(counter);
                    arrive(sort, counter, goesIn);
                }
            }
        }

        private int emptiest() {
            int found = 0;
            int fewest = MOST_PEOPLE + 1;
            for (int counter = 0; counter < MOST_COUNTERS; counter++) {
                Desk desk = deskOf(counter);
                if (desk != null && desk.size < fewest) {
                    fewest = desk.size;
                    found = counter;
                }
            }
            return found;
        }

        private boolean isEmptyAt(int counter) {
            Desk desk = deskOf(counter);
            return desk != null && desk.size == 0;
        }

        private void thoseOutsideComeIn() {
            for (int k = 0; k < MOST_PEOPLE; k++) {
                Person one = whoIsThere(k);
                if (one == null) {
                    continue;
                }
                boolean mayEnter = one.state == Person.WAITING && isEmptyAt(one.counter);
                boolean hasBowed = one.state == Person.BOWING && one.bowsTill <= minute;
                if (mayEnter || hasBowed) {
                    comeIn(k, one);
                }
            }
        }

        /** One after another: who goes out and in again at once is the last for those who follow. */
        private void turnersGoOut() {
            for (int k = 0; k < MOST_PEOPLE; k++) {
                Person one = whoIsThere(k);
                if (one == null || one.state != Person.INSIDE || town.ofSort(one.sort, WAY) != 1) {
                    continue;
                }
                Desk desk = deskOf(one.counter);
                if (desk != null && desk.at(desk.size - 1) != k) {
                    goOut(k, one);
                }
            }
        }

        private void serve(int counter, Desk desk) {
            if (desk.busyTill > minute || desk.stock <= 0 || desk.size == 0) {
                return;
            }
            int law = town.ofCounter(counter, LAW);
            int place = law == LOT ? drawLot(desk.size) : placeOfNext(desk, law);
            int number = desk.at(place);
            Person one = whoIsThere(number);
            if (one == null) {
                return;
            }
            book.write(minute, counter, number, desk.size, place);
            desk.remove(number);
            desk.stock--;
            desk.busyTill = minute + town.ofCounter(counter, MINUTES_EACH);
            one.state = Person.GONE;
            countServed(one.sort, minute - one.cameFirst);
        }

        private void countServed(int sort, int waited) {
            raise(sort, SERVED, 1);
            raise(sort, WAITED, waited);
            raise(sort, SQUARES, waited * waited);
            raise(sort, LONGEST, Math.max(waited - counted(sort, LONGEST), 0));
            raise(sort, GAINED, town.ofSort(sort, WORTH));
        }

        private void someGiveUpAndOthersPay() {
            for (int k = 0; k < MOST_PEOPLE; k++) {
                Person one = whoIsThere(k);
                if (one == null) {
                    continue;
                }
                boolean tired = minute - one.cameFirst >= town.ofSort(one.sort, PATIENCE);
                if (tired || minute >= town.closing()) {
                    giveUp(k, one);
                } else {
                    int cost = one.state == Person.INSIDE ? COST_INSIDE : COST_OUTSIDE;
                    raise(one.sort, GAINED, -town.ofSort(one.sort, cost));
                }
            }
        }
    }

    /** A ROW of COMERS, served by one LAW after another. */
    private static final class Row {
        private static final int MOST_MINUTE = 200;
        private static final int MOST_TAKES = 20;
        private static final int SETS = 256;

        private final Laws laws;
        private final Crowd crowd;
        private final int[] cameAt = new int[MOST_COMERS];
        private final int[] takes = new int[MOST_COMERS];
        private final int[] order = new int[MOST_COMERS];
        private final int[] waits = new int[MOST_COMERS];
        private final int[] standing = new int[MOST_COMERS];
        /** By who is served already, as bits: the mean of the WAITS that follow. */
        private final int[] means = new int[SETS];
        private int size;

        Row(Laws laws, Crowd crowd) {
            this.laws = laws;
            this.crowd = crowd;
        }

        int append(int minute, int time) {
            if (size < 0 || size >= MOST_COMERS || minute < 0 || minute > MOST_MINUTE
                || time < 1 || time > MOST_TAKES) {
                return NONE;
            }
            if (size > 0 && minute < cameAt[size - 1]) {
                return NONE;
            }
            cameAt[size] = minute;
            takes[size] = time;
            size++;
            return size;
        }

        int servedAt(int k) {
            return k >= 0 && k < size && k < MOST_COMERS ? order[k] : NONE;
        }

        int waitOf(int k) {
            return k >= 0 && k < size && k < MOST_COMERS ? waits[k] : NONE;
        }

        int together() {
            int sum = 0;
            for (int k = 0; k < size && k < MOST_COMERS; k++) {
                sum += waits[k];
            }
            return sum;
        }

        int longest() {
            int found = 0;
            for (int k = 0; k < size && k < MOST_COMERS; k++) {
                found = Math.max(found, waits[k]);
            }
            return found;
        }

        int unlikeOfAll() {
            int squares = 0;
            for (int k = 0; k < size && k < MOST_COMERS; k++) {
                squares += waits[k] * waits[k];
            }
            return unlike(size, together(), squares);
        }

        void serveAll(int law) {
            int served = 0;
            int minute = 0;
            for (int k = 0; k < size && k < MOST_COMERS; k++) {
                minute = whenServed(served, minute);
                int who = whoIsNext(law, served, minute);
                if (who < 0 || who >= MOST_COMERS) {
                    return;
                }
                order[k] = who;
                waits[who] = minute - cameAt[who];
                minute += takes[who];
                served |= 1 << who;
            }
        }

        /** If nobody is there as the COUNTER is free, it waits for the next one who comes. */
        private int whenServed(int served, int free) {
            for (int k = 0; k < size && k < MOST_COMERS; k++) {
                if ((served >> k & 1) == 0) {
                    return Math.max(free, cameAt[k]);
                }
            }
            return free;
        }

        private boolean stands(int k, int served, int minute) {
            return (served >> k & 1) == 0 && cameAt[k] <= minute;
        }

        private int whoIsNext(int law, int served, int minute) {
            int many = 0;
            crowd.gather(minute, MOST_MINUTE);
            for (int k = 0; k < size && k < MOST_COMERS; k++) {
                if (stands(k, served, minute)) {
                    crowd.append(cameAt[k], cameAt[k], takes[k], 0, 0);
                    standing[many] = k;
                    many++;
                }
            }
            int place = laws.isTold(law) ? laws.placeOfNext(law, crowd) : placeBy(law, many);
            return place >= 0 && place < many ? standing[place] : NONE;
        }

        /**
         * When the COUNTER is free depends on who was served, not on their order,
         * so that one mean for each set of them is enough.
         */
        int meanByLot() {
            int all = (1 << Math.min(size, MOST_COMERS)) - 1;
            means[all] = 0;
            for (int served = all - 1; served >= 0; served--) {
                means[served] = meanBehind(served);
            }
            return means[0];
        }

        private int meanBehind(int served) {
            int minute = whenServed(served, freeAfter(served));
            int sum = 0;
            int many = 0;
            for (int k = 0; k < size && k < MOST_COMERS; k++) {
                if (stands(k, served, minute)) {
                    sum += 1000 * (minute - cameAt[k]) + means[served | 1 << k];
                    many++;
                }
            }
            return many == 0 ? 0 : sum / many;
        }

        private int freeAfter(int served) {
            int minute = 0;
            for (int k = 0; k < size && k < MOST_COMERS; k++) {
                if ((served >> k & 1) == 1) {
                    minute = Math.max(minute, cameAt[k]) + takes[k];
                }
            }
            return minute;
        }

        int bestLaw() {
            int found = NONE;
            int leastTogether = 0;
            int leastLongest = 0;
            for (int law = FIRST; law <= MOST_LAW; law++) {
                if (law > MIDDLE && !laws.isTold(law)) {
                    continue;
                }
                serveAll(law);
                int sum = together();
                int most = longest();
                boolean better = sum < leastTogether || sum == leastTogether && most < leastLongest;
                if (found == NONE || better) {
                    found = law;
                    leastTogether = sum;
                    leastLongest = most;
                }
            }
            return found;
        }
    }

    /** ONE's best by who stands ahead and behind, from closing backwards minute by minute. */
    private static final class Ones {
        /** 13 to the sixth: as many told rows of six as there are. */
        static final int ROWS = 4826809;
        private static final int PLACES = 6;
        private static final int MINUTES_BETWEEN = 10;
        private static final int WIDTH = 13;
        private static final int THOUSAND = 1000;
        private static final int STAY = 0;
        private static final int TURN = 1;
        private static final int LEAVE = 2;

        private final int[] before = new int[WIDTH * WIDTH];
        private final int[] now = new int[WIDTH * WIDTH];
        private final int[] staying = new int[WIDTH * WIDTH];
        private final int[] entering = new int[PLACES];
        private int law;
        private int minutesEach;
        private int worth;
        private int cost;
        private int bowCost;
        private int turnCost;
        private int q;
        private int t;

        /** False if there is no such SORT or COUNTER, its LAW is told, or q can't be. */
        boolean begin(Town town, int sort, int counter, int chance) {
            if (!town.hasSort(sort) || !town.hasCounter(counter) || chance < 0 || chance > SIXTEEN) {
                return false;
            }
            law = town.ofCounter(counter, LAW);
            if (law >= FIRST_TOLD) {
                return false;
            }
            minutesEach = town.ofCounter(counter, MINUTES_EACH);
            worth = THOUSAND * town.ofSort(sort, WORTH);
            cost = THOUSAND * town.ofSort(sort, COST_INSIDE);
            bowCost = THOUSAND * town.bow() * town.ofSort(sort, COST_OUTSIDE);
            turnCost = THOUSAND * town.fee() + bowCost;
            q = chance;
            t = 0;
            Arrays.fill(now, 0);
            Arrays.fill(staying, 0);
            return true;
        }

        void reach(int minutes) {
            for (int k = t; k < minutes && k < MOST_MINUTES_AHEAD; k++) {
                weighStaying();
                settle();
            }
        }

        private static int indexOf(int ahead, int behind) {
            boolean fits = ahead >= 0 && behind >= 0 && ahead + behind <= MOST_STANDING;
            return fits ? ahead * WIDTH + behind : 0;
        }

        int valueOf(int ahead, int behind) {
            return now[indexOf(ahead, behind)];
        }

        /** At closing neither to STAY nor to TURN is told to be worth anything, so to LEAVE is left. */
        int actOf(int ahead, int behind) {
            if (t == 0) {
                return LEAVE;
            }
            int stay = staying[indexOf(ahead, behind)];
            int turned = turned(ahead, behind);
            if (stay >= 0 && stay >= turned) {
                return STAY;
            }
            return turned >= 0 ? TURN : LEAVE;
        }

        int worthOfEntering(int many, int coins) {
            return valueOf(many, 0) - THOUSAND * coins;
        }

        private int turned(int ahead, int behind) {
            return staying[indexOf(ahead + behind, 0)] - turnCost;
        }

        private void weighStaying() {
            t++;
            System.arraycopy(now, 0, before, 0, WIDTH * WIDTH);
            boolean serves = minutesEach > 0 && t % minutesEach == 0;
            for (int ahead = 0; ahead <= MOST_STANDING; ahead++) {
                for (int behind = 0; ahead + behind <= MOST_STANDING; behind++) {
                    int follows = serves ? served(ahead, behind) : follows(ahead, behind);
                    staying[indexOf(ahead, behind)] = follows - cost;
                }
            }
        }

        private void settle() {
            for (int ahead = 0; ahead <= MOST_STANDING; ahead++) {
                for (int behind = 0; ahead + behind <= MOST_STANDING; behind++) {
                    int index = indexOf(ahead, behind);
                    now[index] = Math.max(0, Math.max(staying[index], turned(ahead, behind)));
                }
            }
        }

        private int served(int ahead, int behind) {
            int many = ahead + behind + 1;
            if (law == LOT) {
                int sum = worth + ahead * follows(ahead - 1, behind) + behind * follows(ahead, behind - 1);
                return many <= 0 ? 0 : sum / many;
            }
            int place = placeBy(law, many);
            if (place == ahead) {
                return worth;
            }
            return place < ahead ? follows(ahead - 1, behind) : follows(ahead, behind - 1);
        }

        private int follows(int ahead, int behind) {
            if (ahead < 0 || behind < 0) {
                return 0;
            }
            int nobody = before[indexOf(ahead, behind)];
            if (ahead + behind >= MOST_STANDING) {
                return nobody;
            }
            return (q * before[indexOf(ahead, behind + 1)] + (SIXTEEN - q) * nobody) / SIXTEEN;
        }

        /** One way through the minutes reads all places, the last of them at first. */
        int bestTime(int minutes, int row, int fee) {
            for (int place = PLACES - 1; place >= 0; place--) {
                int ahead = minutes - place * MINUTES_BETWEEN;
                if (ahead >= 0) {
                    reach(ahead);
                    entering[place] = worthOfEntering(digitOf(row, place), fee);
                } else {
                    entering[place] = 0;
                }
            }
            int found = NONE;
            int most = 0;
            for (int place = 0; place < PLACES; place++) {
                if (entering[place] > most) {
                    most = entering[place];
                    found = place;
                }
            }
            return found;
        }

        private static int digitOf(int row, int place) {
            int rest = row;
            for (int k = 0; k < place && k < PLACES; k++) {
                rest /= WIDTH;
            }
            return rest % WIDTH;
        }

        /**
         * While nobody turns, no VALUE depends on the fee; so a fee that is too low for a minute
         * may be raised there, and what was found for fewer minutes stays as it is.
         */
        int leastFee(int minutes) {
            int fee = 0;
            for (int k = 0; k < minutes && k < MOST_MINUTES_OF_LEAST; k++) {
                weighStaying();
                turnCost = THOUSAND * fee + bowCost;
                while (fee <= MOST_FEE && somebodyTurns()) {
                    fee++;
                    turnCost = THOUSAND * fee + bowCost;
                }
                if (fee > MOST_FEE) {
                    return NONE;
                }
                settle();
            }
            return fee;
        }

        private boolean somebodyTurns() {
            for (int ahead = 0; ahead <= MOST_STANDING; ahead++) {
                for (int behind = 0; ahead + behind <= MOST_STANDING; behind++) {
                    if (actOf(ahead, behind) == TURN) {
                        return true;
                    }
                }
            }
            return false;
        }
    }
}
