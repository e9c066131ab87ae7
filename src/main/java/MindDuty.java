/**
 * Duty on what one comes back with in mind: the register of a pass where ideas are paid for.
 * Nothing is made after the constructor: every row that a call needs is made there and used again.
 */
public final class MindDuty {
    public static final int NONE = -1, UNKNOWN = -1000000001, OUTSIDE = -1000000002, NOT = -1000000003, FULL = -1000000004;

    private static final int BILLION = 1000000000;
    private static final int MOST_LETTERS = 240;
    private static final int MOST_IDEAS = 8;
    private static final int MOST_SETS = 256;
    private static final int MOST_JOININGS = 10;
    private static final int MOST_TALKS = 10;
    private static final int MOST_TRAVELLERS = 5;
    private static final int MOST_COUNTED = 999999;
    private static final int MOST_UNDONE = 20;
    private static final int MOST_ASKED = 6;
    private static final int MOST_ENTRIES = 15;
    private static final int MOST_IMAGES = 2;
    private static final int MOST_DAYS = 60;
    private static final int MOST_GOERS = 60;
    private static final int MOST_LOSS = 9999;
    private static final int MOST_HOW = 10;
    private static final int TALKS_IN_A_ROW = 3;
    private static final int BLANK = 32;

    private final Reader reader = new Reader();
    private final Post post = new Post();
    private final Past past = new Past();
    private final Images images = new Images();
    private final Questions questions = new Questions();
    private final Book book = new Book();
    private final int[] minutesLeft = new int[MOST_IDEAS];
    private Country country = new Country();
    private int lot;

    public MindDuty() {
    }

    // ---- the pass

    public int feed(int letter) {
        if (letter < 0 || letter > 255) {
            return OUTSIDE;
        }
        return reader.append(letter) ? reader.length : FULL;
    }

    public int thePass() {
        boolean good = reader.read();
        reader.length = 0;
        if (!good) {
            return -10 - reader.faultKind;
        }
        country = reader.exchange(country);
        country.findAllFrom();
        post.begin(country);
        past.count = 0;
        images.forget();
        questions.count = 0;
        book.count = 0;
        return country.ideas;
    }

    public int fault() {
        return reader.faultAt;
    }

    public int told(int what) {
        switch (what) {
            case 0: return country.gate;
            case 1: return country.risk;
            case 2: return country.ideas;
            case 3: return country.joinings;
            case 4: return country.talks;
            case 5: return country.travellers;
            case 6: return reader.length;
            case 7: return post.registered;
            case 8: return inTheCountry();
            case 9: return post.gone;
            case 10: return stuckOnes();
            case 11: return post.paid;
            case 12: return post.minutes;
            case 13: return questions.count;
            case 14: return book.count;
            case 15: return past.count;
            default: return OUTSIDE;
        }
    }

    public int size(int i) {
        return country.isIdea(i) ? country.sizes[i] : UNKNOWN;
    }

    public int traveller(int t, int what) {
        if (!country.isTraveller(t)) {
            return UNKNOWN;
        }
        switch (what) {
            case 0: return post.mindOf(t);
            case 1: return country.sizeOf(post.mindOf(t));
            case 2: return dutyOf(t);
            case 3: return post.isGone(t) ? 1 : 0;
            default: return OUTSIDE;
        }
    }

    // ---- what is done

    public int pass(int t) {
        if (!country.isTraveller(t)) {
            return UNKNOWN;
        }
        if (post.isGone(t) || country.isStuck(post.mindOf(t))) {
            return NOT;
        }
        past.remember(post);
        return letPass(t);
    }

    public int goRound(int t, boolean through) {
        if (!country.isTraveller(t)) {
            return UNKNOWN;
        }
        if (post.isGone(t)) {
            return NOT;
        }
        boolean brings = through && (post.mindOf(t) & ~inTheCountry()) != 0;
        past.remember(post);
        post.leaves(t, through);
        return brings ? 1 : 0;
    }

    public int talk(int t, int a, int b) {
        if (!country.isTraveller(t) || !country.isIdea(a) || !country.isIdea(b)) {
            return UNKNOWN;
        }
        int time = country.quickest(a, b);
        if (post.isGone(t) || (post.mindOf(t) & 1 << a) == 0 || time == NONE) {
            return NOT;
        }
        past.remember(post);
        post.setMind(t, afterTalk(post.mindOf(t), a, b));
        post.minutes = Math.min(post.minutes + time, MOST_COUNTED);
        return time;
    }

    public int come(int t, int ideas) {
        if (!country.isTraveller(t) || !country.isSet(ideas)) {
            return UNKNOWN;
        }
        if (!post.isGone(t)) {
            return NOT;
        }
        past.remember(post);
        post.comes(t, ideas);
        return dutyOf(t);
    }

    public int register(int i, boolean is) {
        if (!country.isIdea(i)) {
            return UNKNOWN;
        }
        int was = post.registered >> i & 1;
        past.remember(post);
        if (is) {
            post.registered |= 1 << i;
        } else {
            post.registered &= ~(1 << i);
        }
        return was;
    }

    public int drift(int n) {
        if (n < 1 || n > MOST_DAYS) {
            return OUTSIDE;
        }
        if (!country.there) {
            return NOT;
        }
        past.remember(post);
        if (country.travellers > 0 && country.ideas > 0) {
            for (int day = 0; day < n; day++) {
                driftOneDay();
            }
        }
        return post.paid;
    }

    public int undo() {
        if (past.count == 0) {
            return NOT;
        }
        past.bringBack(post);
        return past.count;
    }

    // ---- tried

    public int follows(int set) {
        return country.isSet(set) ? country.allFrom(set) : UNKNOWN;
    }

    public int owed(int set) {
        return country.isSet(set) ? country.duty(set, inTheCountry()) : UNKNOWN;
    }

    public int parts(int i, int what) {
        if (!country.isIdea(i)) {
            return UNKNOWN;
        }
        if (what < 0 || what > 1) {
            return OUTSIDE;
        }
        int best = cheapestParts(i);
        return what == 0 || best == NONE ? best : country.sizeOf(best);
    }

    public int talkDown(int a, int b, int what) {
        if (!country.isIdea(a) || !country.isIdea(b)) {
            return UNKNOWN;
        }
        if (what < 0 || what > 1) {
            return OUTSIDE;
        }
        country.findMinutes(b, minutesLeft);
        return what == 0 ? minutesLeft[a] : nextOnTheWay(a);
    }

    public int soonest(int t) {
        if (!country.isTraveller(t)) {
            return UNKNOWN;
        }
        return post.isGone(t) ? NOT : fewestMinutes(country, post.mindOf(t), TALKS_IN_A_ROW);
    }

    public int smallest(int what) {
        if (what < 0 || what > 1) {
            return OUTSIDE;
        }
        return what == 0 ? smallestRegister() : needless();
    }

    public int better(int t, int v) {
        if (!country.isTraveller(t)) {
            return UNKNOWN;
        }
        if (v < 0 || v > MOST_LOSS) {
            return OUTSIDE;
        }
        if (post.isGone(t)) {
            return NOT;
        }
        if (country.isStuck(post.mindOf(t))) {
            return 1;
        }
        return dutyOf(t) <= country.risk * v / 100 ? 0 : 1;
    }

    public int gains(int t, int registered) {
        if (!country.isTraveller(t) || !country.isSet(registered)) {
            return UNKNOWN;
        }
        if (post.isGone(t)) {
            return NOT;
        }
        int there = country.duty(post.mindOf(t), country.allFrom(registered));
        return dutyOf(t) - there + 1000;
    }

    public int free() {
        return inTheCountry() & ~post.registered;
    }

    public int share(int t) {
        if (!country.isTraveller(t)) {
            return UNKNOWN;
        }
        if (post.isGone(t)) {
            return NOT;
        }
        int together = 0;
        for (int u = 0; u < country.travellers; u++) {
            together += post.isGone(u) ? 0 : dutyOf(u);
        }
        return together == 0 ? 0 : dutyOf(t) * 1000 / together;
    }

    public int glacier(int n) {
        if (n < 0 || n > MOST_GOERS) {
            return OUTSIDE;
        }
        long odds = BILLION;
        for (int goer = 0; goer < n; goer++) {
            odds = odds * (100 - country.risk) / 100;
        }
        return (int) odds;
    }

    // ---- what was asked

    public int ask(int set, int how, boolean yes) {
        if (!country.isSet(set)) {
            return UNKNOWN;
        }
        if (how < 0 || how > MOST_HOW) {
            return OUTSIDE;
        }
        return questions.append(set, how, yes) ? questions.count : FULL;
    }

    public int minds(int what) {
        if (what < 0 || what > 2) {
            return OUTSIDE;
        }
        questions.look(country.ideas);
        switch (what) {
            case 0: return questions.fitting;
            case 1: return questions.least;
            default: return questions.sure;
        }
    }

    public int askNext() {
        questions.look(country.ideas);
        return questions.bestIdea();
    }

    public int write(int i, int is) {
        if (!country.isIdea(i)) {
            return UNKNOWN;
        }
        if (is < 0 || is > 1) {
            return OUTSIDE;
        }
        return book.append(i, is) ? book.count : FULL;
    }

    public int tear() {
        int both = questions.count + book.count;
        questions.count = 0;
        book.count = 0;
        return both;
    }

    public int judge() {
        return book.firstWrong(inTheCountry());
    }

    // ---- draws, images

    public int seed(int v) {
        if (v < 0) {
            return OUTSIDE;
        }
        int was = lot;
        lot = v;
        return was;
    }

    public int keep(int i) {
        if (i < 0 || i >= MOST_IMAGES) {
            return UNKNOWN;
        }
        images.take(i, post, lot);
        past.count = 0;
        return 1;
    }

    public int goBack(int i) {
        if (i < 0 || i >= MOST_IMAGES) {
            return UNKNOWN;
        }
        if (!images.taken[i]) {
            return NOT;
        }
        post.become(images.posts[i]);
        lot = images.lots[i];
        past.count = 0;
        return 1;
    }

    // ---- what the calls above share

    private int inTheCountry() {
        return country.allFrom(post.registered);
    }

    private int dutyOf(int t) {
        return country.duty(post.mindOf(t), inTheCountry());
    }

    private int stuckOnes() {
        int stuck = 0;
        for (int t = 0; t < country.travellers; t++) {
            if (!post.isGone(t) && country.isStuck(post.mindOf(t))) {
                stuck |= 1 << t;
            }
        }
        return stuck;
    }

    private int letPass(int t) {
        int due = dutyOf(t);
        post.paid = Math.min(post.paid + due, MOST_COUNTED);
        post.leaves(t, true);
        return due;
    }

    private void driftOneDay() {
        int t = draw(country.travellers);
        int mind = draw(1 << country.ideas);
        post.comes(t, mind);
        if (country.isStuck(mind)) {
            post.leaves(t, draw(100) >= country.risk);
        } else {
            letPass(t);
        }
    }

    private int draw(int n) {
        lot = (int) (lot * 1103515245L + 12345L & 0x7fffffffL);
        return n < 1 ? 0 : lot / 65536 % n;
    }

    private int cheapestParts(int i) {
        int best = NONE;
        int sets = 1 << country.ideas;
        for (int set = 0; set < sets; set++) {
            boolean without = (set & 1 << i) == 0;
            if (without && (country.allFrom(post.registered | set) & 1 << i) != 0
                    && (best == NONE || country.sizeOf(set) < country.sizeOf(best))) {
                best = set;
            }
        }
        return best;
    }

    private int nextOnTheWay(int a) {
        // each talk takes a minute at least: none fits 0 minutes to itself, nor NONE where no way leads
        int next = NONE;
        for (int k = 0; k < country.talks; k++) {
            int to = country.talkTo[k];
            boolean onTheWay = country.talkFrom[k] == a && minutesLeft[to] != NONE
                    && country.talkTime[k] + minutesLeft[to] == minutesLeft[a];
            if (onTheWay && (next == NONE || to < next)) {
                next = to;
            }
        }
        return next;
    }

    private static int fewestMinutes(Country country, int mind, int talksLeft) {
        if (!country.isStuck(mind)) {
            return 0;
        }
        if (talksLeft <= 0) {
            return NONE;
        }
        int fewest = NONE;
        for (int k = 0; k < country.talks; k++) {
            int from = country.talkFrom[k];
            if ((mind & 1 << from) != 0) {
                int rest = fewestMinutes(country, afterTalk(mind, from, country.talkTo[k]), talksLeft - 1);
                int time = country.talkTime[k] + rest;
                if (rest != NONE && (fewest == NONE || time < fewest)) {
                    fewest = time;
                }
            }
        }
        return fewest;
    }

    private static int afterTalk(int mind, int a, int b) {
        return mind & ~(1 << a) | 1 << b;
    }

    private int smallestRegister() {
        int same = inTheCountry();
        int best = same;
        int sets = 1 << country.ideas;
        for (int set = 0; set < sets; set++) {
            if (Integer.bitCount(set) < Integer.bitCount(best) && country.allFrom(set) == same) {
                best = set;
            }
        }
        return best;
    }

    private int needless() {
        int same = inTheCountry();
        int found = 0;
        for (int i = 0; i < country.ideas; i++) {
            boolean is = (post.registered & 1 << i) != 0;
            if (is && country.allFrom(post.registered & ~(1 << i)) == same) {
                found |= 1 << i;
            }
        }
        return found;
    }

    /** What a text has told; it stays as it is till the next text. */
    private static final class Country {
        boolean there;
        int gate;
        int risk;
        int ideas;
        final int[] sizes = new int[MOST_IDEAS];
        int joinings;
        final int[] joinOne = new int[MOST_JOININGS];
        final int[] joinOther = new int[MOST_JOININGS];
        final int[] joinTo = new int[MOST_JOININGS];
        int talks;
        final int[] talkFrom = new int[MOST_TALKS];
        final int[] talkTo = new int[MOST_TALKS];
        final int[] talkTime = new int[MOST_TALKS];
        int registered;
        int travellers;
        final int[] minds = new int[MOST_TRAVELLERS];
        /** What follows from each set: tries over all sets ask for it far oftener than texts come. */
        private final int[] fromSet = new int[MOST_SETS];

        void clear() {
            there = false;
            gate = 0;
            risk = 0;
            ideas = 0;
            joinings = 0;
            talks = 0;
            registered = 0;
            travellers = 0;
        }

        boolean isIdea(int i) {
            return i >= 0 && i < ideas;
        }

        boolean isTraveller(int t) {
            return t >= 0 && t < travellers;
        }

        boolean isSet(int set) {
            return set >= 0 && set < 1 << ideas;
        }

        void findAllFrom() {
            int sets = 1 << ideas;
            for (int set = 0; set < sets; set++) {
                // what follows from a part of the set is found already, and saves rounds
                fromSet[set] = joined(set == 0 ? 0 : set | fromSet[set & set - 1]);
            }
        }

        private int joined(int set) {
            int all = set;
            // each round but the last brings an idea at least, so there are no more rounds than ideas
            for (int round = 0; round < MOST_IDEAS; round++) {
                int before = all;
                for (int k = 0; k < joinings; k++) {
                    int needed = 1 << joinOne[k] | 1 << joinOther[k];
                    if ((all & needed) == needed) {
                        all |= 1 << joinTo[k];
                    }
                }
                if (all == before) {
                    break;
                }
            }
            return all;
        }

        int allFrom(int set) {
            return isSet(set) ? fromSet[set] : 0;
        }

        int sizeOf(int set) {
            int together = 0;
            for (int i = 0; i < ideas; i++) {
                together += (set & 1 << i) != 0 ? sizes[i] : 0;
            }
            return together;
        }

        boolean isStuck(int mind) {
            return sizeOf(mind) > gate;
        }

        int duty(int set, int known) {
            int due = 0;
            for (int i = 0; i < ideas; i++) {
                int bit = 1 << i;
                if ((set & ~known & bit) != 0) {
                    boolean secondThought = (allFrom(set & ~bit) & bit) != 0;
                    due += secondThought ? sizes[i] / 2 : sizes[i];
                }
            }
            return due;
        }

        int quickest(int a, int b) {
            int best = NONE;
            for (int k = 0; k < talks; k++) {
                boolean such = talkFrom[k] == a && talkTo[k] == b;
                if (such && (best == NONE || talkTime[k] < best)) {
                    best = talkTime[k];
                }
            }
            return best;
        }

        /** Fills a row with the fewest minutes from each idea to the one told, NONE where no way leads. */
        void findMinutes(int to, int[] minutes) {
            for (int i = 0; i < MOST_IDEAS; i++) {
                minutes[i] = i == to ? 0 : NONE;
            }
            // no shortest way has more talks than there are other ideas
            for (int round = 1; round < ideas; round++) {
                for (int k = 0; k < talks; k++) {
                    int rest = minutes[talkTo[k]];
                    int now = minutes[talkFrom[k]];
                    if (rest != NONE && (now == NONE || talkTime[k] + rest < now)) {
                        minutes[talkFrom[k]] = talkTime[k] + rest;
                    }
                }
            }
        }
    }

    /** The text and how it is read: behind the first fault every step does nothing, so the first one stays. */
    private static final class Reader {
        private static final int MISPLACED = 1;
        private static final int OUT_OF_BOUNDS = 2;
        private static final int TOO_MANY = 3;
        private static final int CONTRARY = 4;

        private final int[] letters = new int[MOST_LETTERS];
        int length;
        int faultAt = NONE;
        int faultKind;
        private int at;
        private int numberAt;
        private Country into = new Country();

        boolean append(int letter) {
            if (length >= MOST_LETTERS) {
                return false;
            }
            letters[length] = letter;
            length++;
            return true;
        }

        /** Hands out what was read and takes what was so before, to read into it: none is made anew. */
        Country exchange(Country former) {
            Country fresh = into;
            into = former;
            return fresh;
        }

        boolean read() {
            into.clear();
            at = 0;
            faultKind = 0;
            faultAt = NONE;
            // each clause takes a letter at least
            for (int clause = 0; clause <= MOST_LETTERS; clause++) {
                skipBlanks();
                if (at >= length || faultKind != 0) {
                    break;
                }
                readClause();
            }
            return faultKind == 0;
        }

        private void readClause() {
            int word = letterHere();
            checkWord(word);
            if (faultKind != 0) {
                return;
            }
            at++;
            switch (word) {
                case 'g': readGate(); break;
                case 'i': readIdea(); break;
                case 'j': readJoining(); break;
                case 'd': readTalk(); break;
                case 'r': readRegistered(); break;
                default: readTraveller(); break;
            }
            readEnd();
        }

        private void checkWord(int word) {
            boolean known = word == 'g' || word == 'i' || word == 'j' || word == 'd' || word == 'r' || word == 't';
            if (!known || !into.there && word != 'g') {
                findFault(MISPLACED, at);
            }
            boolean tooMany = word == 'g' && into.there
                    || word == 'i' && into.ideas >= MOST_IDEAS
                    || word == 'j' && into.joinings >= MOST_JOININGS
                    || word == 'd' && into.talks >= MOST_TALKS
                    || word == 't' && into.travellers >= MOST_TRAVELLERS;
            if (tooMany) {
                findFault(TOO_MANY, at);
            }
        }

        private void readGate() {
            into.gate = readNumber(1, 999);
            into.risk = readNumber(0, 99);
            into.there = true;
        }

        private void readIdea() {
            int size = readNumber(1, 99);
            if (faultKind == 0) {
                into.sizes[into.ideas] = size;
                into.ideas++;
            }
        }

        private void readJoining() {
            int one = readToldIdea();
            int other = readToldIdea();
            int to = readToldIdea();
            if (to == one || to == other) {
                findFault(CONTRARY, numberAt);
            }
            if (faultKind == 0) {
                into.joinOne[into.joinings] = one;
                into.joinOther[into.joinings] = other;
                into.joinTo[into.joinings] = to;
                into.joinings++;
            }
        }

        private void readTalk() {
            int from = readToldIdea();
            int to = readToldIdea();
            if (from == to || into.sizes[to] > into.sizes[from]) {
                findFault(CONTRARY, numberAt);
            }
            int time = readNumber(1, 99);
            if (faultKind == 0) {
                into.talkFrom[into.talks] = from;
                into.talkTo[into.talks] = to;
                into.talkTime[into.talks] = time;
                into.talks++;
            }
        }

        private void readRegistered() {
            int idea = readToldIdea();
            if ((into.registered & 1 << idea) != 0) {
                findFault(CONTRARY, numberAt);
            }
            if (faultKind == 0) {
                into.registered |= 1 << idea;
            }
        }

        private void readTraveller() {
            int mind = readNumber(0, (1 << into.ideas) - 1);
            if (faultKind == 0) {
                into.minds[into.travellers] = mind;
                into.travellers++;
            }
        }

        private void readEnd() {
            skipBlanks();
            if (letterHere() == ';') {
                at++;
            } else {
                findFault(MISPLACED, at);
            }
        }

        private int readToldIdea() {
            return readNumber(0, into.ideas - 1);
        }

        /** 0 with a fault, which no row is too short for. */
        private int readNumber(int least, int most) {
            skipBlanks();
            numberAt = at;
            int value = 0;
            while (at < length && isFigure(letterHere())) {
                // held at what is out of every bound, so that many figures can't wrap around
                value = Math.min(value * 10 + letterHere() - '0', 1000);
                at++;
            }
            int figures = at - numberAt;
            if (figures == 0) {
                findFault(MISPLACED, numberAt);
            }
            if (figures > 3 || value < least || value > most) {
                findFault(OUT_OF_BOUNDS, numberAt);
            }
            return faultKind == 0 ? value : 0;
        }

        private static boolean isFigure(int letter) {
            return letter >= '0' && letter <= '9';
        }

        private int letterHere() {
            return at >= 0 && at < length && at < MOST_LETTERS ? letters[at] : NONE;
        }

        private void skipBlanks() {
            while (at < length && at < MOST_LETTERS && letters[at] == BLANK) {
                at++;
            }
        }

        private void findFault(int kind, int where) {
            if (faultKind == 0) {
                faultKind = kind;
                faultAt = where;
            }
        }
    }

    /** All that travellers and the register change; undone and kept as one. */
    private static final class Post {
        private final int[] minds = new int[MOST_TRAVELLERS];
        int registered;
        int gone;
        int paid;
        int minutes;

        void begin(Country country) {
            for (int t = 0; t < MOST_TRAVELLERS; t++) {
                minds[t] = country.isTraveller(t) ? country.minds[t] : 0;
            }
            registered = country.registered;
            gone = 0;
            paid = 0;
            minutes = 0;
        }

        void become(Post other) {
            for (int t = 0; t < MOST_TRAVELLERS; t++) {
                minds[t] = other.minds[t];
            }
            registered = other.registered;
            gone = other.gone;
            paid = other.paid;
            minutes = other.minutes;
        }

        int mindOf(int t) {
            return t >= 0 && t < MOST_TRAVELLERS ? minds[t] : 0;
        }

        void setMind(int t, int mind) {
            if (t >= 0 && t < MOST_TRAVELLERS) {
                minds[t] = mind;
            }
        }

        boolean isGone(int t) {
            return (gone & 1 << t) != 0;
        }

        void comes(int t, int mind) {
            setMind(t, mind);
            gone &= ~(1 << t);
        }

        void leaves(int t, boolean through) {
            if (through) {
                registered |= mindOf(t);
            }
            gone |= 1 << t;
        }
    }

    /** What can be undone, in a ring: the newest takes the oldest one's place. */
    private static final class Past {
        private final Post[] ring = new Post[MOST_UNDONE];
        private int next;
        int count;

        Past() {
            for (int k = 0; k < MOST_UNDONE; k++) {
                ring[k] = new Post();
            }
        }

        void remember(Post post) {
            ring[next].become(post);
            next = (next + 1) % MOST_UNDONE;
            count = Math.min(count + 1, MOST_UNDONE);
        }

        void bringBack(Post post) {
            if (count > 0) {
                next = (next + MOST_UNDONE - 1) % MOST_UNDONE;
                post.become(ring[next]);
                count--;
            }
        }
    }

    private static final class Images {
        final Post[] posts = new Post[MOST_IMAGES];
        final int[] lots = new int[MOST_IMAGES];
        final boolean[] taken = new boolean[MOST_IMAGES];

        Images() {
            for (int i = 0; i < MOST_IMAGES; i++) {
                posts[i] = new Post();
            }
        }

        void take(int i, Post post, int lot) {
            if (i >= 0 && i < MOST_IMAGES) {
                posts[i].become(post);
                lots[i] = lot;
                taken[i] = true;
            }
        }

        void forget() {
            for (int i = 0; i < MOST_IMAGES; i++) {
                taken[i] = false;
            }
        }
    }

    /** What was asked of an unknown mind, and what a look over all minds finds. */
    private static final class Questions {
        private final int[] sets = new int[MOST_ASKED];
        private final int[] hows = new int[MOST_ASKED];
        private final boolean[] answers = new boolean[MOST_ASKED];
        private final int[] having = new int[MOST_IDEAS];
        int count;
        int fitting;
        int least;
        int sure;

        boolean append(int set, int how, boolean yes) {
            if (count >= MOST_ASKED) {
                return false;
            }
            sets[count] = set;
            hows[count] = how;
            answers[count] = yes;
            count++;
            return true;
        }

        void look(int ideas) {
            fitting = 0;
            least = NONE;
            sure = 0;
            for (int i = 0; i < MOST_IDEAS; i++) {
                having[i] = 0;
            }
            int all = 1 << ideas;
            for (int mind = 0; mind < all; mind++) {
                if (fits(mind)) {
                    least = fitting == 0 ? mind : least;
                    sure = fitting == 0 ? mind : sure & mind;
                    fitting++;
                    countIdeas(mind);
                }
            }
        }

        private void countIdeas(int mind) {
            for (int i = 0; i < MOST_IDEAS; i++) {
                having[i] += mind >> i & 1;
            }
        }

        private boolean fits(int mind) {
            for (int k = 0; k < count; k++) {
                if (isSo(mind & sets[k], sets[k], hows[k]) != answers[k]) {
                    return false;
                }
            }
            return true;
        }

        private static boolean isSo(int shared, int set, int how) {
            switch (how) {
                case 0: return shared != 0;
                case 1: return shared == set;
                default: return Integer.bitCount(shared) == how - 2;
            }
        }

        int bestIdea() {
            int best = NONE;
            int bestPart = fitting;
            // one that there is not is in no mind, so it parts none
            for (int i = 0; i < MOST_IDEAS; i++) {
                int part = Math.max(having[i], fitting - having[i]);
                if (part < bestPart) {
                    best = i;
                    bestPart = part;
                }
            }
            return best;
        }
    }

    private static final class Book {
        private final int[] ideas = new int[MOST_ENTRIES];
        private final int[] states = new int[MOST_ENTRIES];
        int count;

        boolean append(int i, int is) {
            if (count >= MOST_ENTRIES) {
                return false;
            }
            ideas[count] = i;
            states[count] = is;
            count++;
            return true;
        }

        int firstWrong(int known) {
            for (int k = 0; k < count; k++) {
                if ((known >> ideas[k] & 1) != states[k]) {
                    return k;
                }
            }
            return NONE;
        }
    }
}
