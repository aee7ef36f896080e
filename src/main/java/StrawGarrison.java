import java.util.Arrays;

/**
 * A border whose defence is straw, with real men among it.
 *
 * <p>What the calls promise stands in ../shared/DOC.md; the words in capitals here are that
 * document's. The rows that calls work with are made once, in the constructor, and used again.
 */
public final class StrawGarrison {
    public static final int BAD = -1000000001, NO = -1000000002, FULL = -1000000003, NONE = -1000000005,
        NOTHING = -1000000011, KIND = -1000000012, INDEX = -1000000013, SIZE = -1000000014;

    private static final int MOST_GUARDS = 10, POSTS = 20, NEAR = 2, LAST_NIGHT = 9999;
    private static final int SIGHT = 0, RAIN = 1, COURAGE = 2, FORCE = 3;
    private static final int[] MOST_OF_RULE = {19, 100, 999, 999};
    private static final int FALLEN = 0, HELD = 1, LOST = 2;
    private static final int LOOK = 0, FEE = 1, FINE = 2, KEYS = 3;
    private static final int MOST_TEXTS = 14, MOST_BYTES = 96, FAULT = -100;
    private static final int MISSING = -1, SHORTS = 0, FLOATS = 1;
    private static final int SHEETS = 4, MOST_PLACES = 24, MOST_FLOAT = 99999;
    private static final int SLOTS = 5, HOLDS_NOTHING = 0, HOLDS_GUARD = 1, HOLDS_SHEET = 2, HOLDS_NUMBER = 3;
    private static final int MOST_WAITING = 60, MOST_CHECKED = 30;
    private static final int MOST_NIGHTS = 100, MOST_BLUFF = 200, MOST_AHEAD = 60;

    private final Border now = new Border();
    private final Border image = new Border();
    private final Border thought = new Border();
    private boolean imageKept = false;
    private final Reader reader = new Reader();
    private final byte[] tape = new byte[MOST_BYTES];
    private int taped = 0;
    private final Sheet[] sheets = new Sheet[SHEETS];
    private final Slot[] slots = new Slot[SLOTS];
    private final int[] waiting = new int[MOST_WAITING];
    private int waits = 0;
    private final int[] differences = new int[MOST_GUARDS];

    public StrawGarrison() {
        for (int i = 0; i < SHEETS; i++) {
            sheets[i] = new Sheet();
        }
        for (int i = 0; i < SLOTS; i++) {
            slots[i] = new Slot();
        }
    }

    // ---- guards, posts

    public int guard(int kind, int post, int wear) {
        if (!isKind(kind) || !isPost(post) || !isWithin(wear, 0, 99)) {
            return BAD;
        }
        if (now.ownerOf(post) != NONE) {
            return NO;
        }
        if (now.guards >= MOST_GUARDS) {
            return FULL;
        }
        return now.enlist(kind, post, wear);
    }

    public int told(int guard, int what) {
        if (!isGuard(guard)) {
            return BAD;
        }
        int kind = now.kind[guard];
        int wear = now.wear[guard];
        switch (what) {
            case 0: return kind;
            case 1: return now.post[guard];
            case 2: return wear;
            case 3: return now.doubt[guard];
            case 4: return now.up[guard];
            case 5: return now.looksOf(guard);
            case 6: return Kinds.falls(kind, wear);
            case 7: return Kinds.fights(kind);
            case 8: return Kinds.worth(kind, wear);
            default: return BAD;
        }
    }

    public int as(int guard, int kind) {
        if (!isGuard(guard) || !isKind(kind)) {
            return BAD;
        }
        return Kinds.isUnder(now.kind[guard], kind) ? now.wear[guard] : KIND;
    }

    public int turns(int guard, int kind) {
        if (!isGuard(guard) || !isKind(kind)) {
            return BAD;
        }
        int was = now.kind[guard];
        now.kind[guard] = kind;
        return was;
    }

    public int set(int guard, int what, int v) {
        if (!isGuard(guard) || !isWithin(what, 2, 4) || !isWithin(v, 0, what == 4 ? 1 : 99)) {
            return BAD;
        }
        int[] row = what == 2 ? now.wear : what == 3 ? now.doubt : now.up;
        int was = row[guard];
        row[guard] = v;
        return was;
    }

    public int moves(int guard, int post) {
        if (!isGuard(guard) || !isPost(post)) {
            return BAD;
        }
        if (now.ownerOf(post) != NONE) {
            return NO;
        }
        int was = now.post[guard];
        now.post[guard] = post;
        return was;
    }

    public int at(int post) {
        return isPost(post) ? now.ownerOf(post) : BAD;
    }

    public int rule(int what, int v) {
        if (!isWithin(what, SIGHT, FORCE) || !isWithin(v, 0, MOST_OF_RULE[what])) {
            return BAD;
        }
        int was = now.rules[what];
        now.rules[what] = v;
        return was;
    }

    public int deal(int n) {
        if (!isWithin(n, 1, MOST_GUARDS)) {
            return BAD;
        }
        int coming = Math.min(n, MOST_GUARDS - now.guards);
        for (int i = 0; i < coming; i++) {
            now.enlistDrawn();
        }
        return coming;
    }

    public int seed(int v) {
        int was = now.z;
        now.z = v;
        return was;
    }

    // ---- nights

    public int seen(int post) {
        if (!isPost(post)) {
            return BAD;
        }
        int bits = 0;
        for (int g = 0; g < now.guards; g++) {
            if (now.isInSight(g, post)) {
                bits |= 1 << g;
            }
        }
        return bits;
    }

    public int nights(int n) {
        if (!isWithin(n, 1, MOST_NIGHTS)) {
            return BAD;
        }
        int passing = Math.min(n, LAST_NIGHT - now.night);
        int raids = 0;
        for (int i = 0; i < passing; i++) {
            if (now.passNight()) {
                raids++;
            }
        }
        return raids;
    }

    public int border(int what) {
        switch (what) {
            case 0: return now.tolls[FALLEN];
            case 1: return now.tolls[HELD];
            case 2: return now.tolls[LOST];
            case 3: return now.counted();
            case 4: return now.strength();
            case 5: return now.downBits();
            case 6: return now.doubts();
            default: return BAD;
        }
    }

    // ---- what will be

    public int covers(int guard, int what) {
        if (!isGuard(guard) || !isWithin(what, 0, 1)) {
            return BAD;
        }
        int best = NONE;
        int most = -1;
        for (int post = 0; post < POSTS; post++) {
            int owner = now.ownerOf(post);
            if (owner == NONE || owner == guard) {
                int near = now.othersNear(guard, post);
                if (near > most) {
                    most = near;
                    best = post;
                }
            }
        }
        return what == 0 ? best : most;
    }

    public int fewest() {
        int posts = 0;
        int reached = -1;
        for (int post = 0; post < POSTS; post++) {
            int owner = now.ownerOf(post);
            if (post > reached && owner != NONE && !Kinds.lives(now.kind[owner])) {
                // One that is as far right as this GUARD lets it reaches most of the others.
                reached = post + NEAR + NEAR;
                posts++;
            }
        }
        return posts;
    }

    public int behind(int n, int what) {
        if (!isWithin(n, 0, MOST_NIGHTS) || !isWithin(what, 0, 3 + now.guards)) {
            return BAD;
        }
        thought.become(now);
        int counted = countedBehind(n);
        if (what <= LOST) {
            return thought.tolls[what];
        }
        return what == 3 ? counted : thought.doubt[what - 4];
    }

    public int bluff() {
        thought.become(now);
        int called = firstRaid(MOST_BLUFF);
        return called == 0 ? NONE : called;
    }

    public int washed(int n, int what) {
        if (!isWithin(n, 1, MOST_AHEAD) || !isWithin(what, 0, 1)) {
            return BAD;
        }
        int best = NONE;
        int most = NONE;
        for (int g = 0; g < now.guards; g++) {
            thought.become(now);
            thought.wear[g] = 0;
            int counted = countedBehind(n);
            if (counted > most) {
                most = counted;
                best = g;
            }
        }
        return what == 0 ? best : most;
    }

    public int needed(int n) {
        if (!isWithin(n, 1, MOST_AHEAD)) {
            return BAD;
        }
        for (int sight = 0; sight <= MOST_OF_RULE[SIGHT]; sight++) {
            thought.become(now);
            thought.rules[SIGHT] = sight;
            if (firstRaid(n) == 0) {
                return sight;
            }
        }
        return NONE;
    }

    public int becomes(int guard, int n, int what) {
        if (!isGuard(guard) || !isWithin(n, 1, MOST_AHEAD) || !isWithin(what, 0, 1)) {
            return BAD;
        }
        int best = NONE;
        int most = NONE;
        for (int kind = 0; kind < Kinds.KINDS; kind++) {
            thought.become(now);
            thought.kind[guard] = kind;
            int counted = countedBehind(n);
            if (counted > most) {
                most = counted;
                best = kind;
            }
        }
        return what == 0 ? best : most;
    }

    public int like(int sheet, int what) {
        if (!isSheet(sheet) || !isWithin(what, 0, 1)) {
            return BAD;
        }
        if (sheets[sheet].sort == MISSING) {
            return NOTHING;
        }
        if (now.guards == 0) {
            return NONE;
        }
        sumDifferences(sheets[sheet]);
        int best = 0;
        for (int g = 1; g < now.guards; g++) {
            if (differences[g] < differences[best]) {
                best = g;
            }
        }
        return what == 0 ? best : differences[best];
    }

    public int fee() {
        Text text = now.book.textFor(FEE);
        return text == null ? now.tolls[HELD] : text.valueOf(now.tolls[HELD], now.tolls[LOST], 0);
    }

    public int fine(int guard) {
        if (!isGuard(guard)) {
            return BAD;
        }
        Text text = now.book.textFor(FINE);
        return text == null ? now.doubt[guard] : text.valueOf(now.wear[guard], now.doubt[guard], 0);
    }

    // ---- texts

    public int feed(int a, int b, int c) {
        if (taped + 12 > MOST_BYTES) {
            return FULL;
        }
        tapeNumber(a);
        tapeNumber(b);
        tapeNumber(c);
        return taped;
    }

    public int trim(int n) {
        if (!isWithin(n, 0, taped)) {
            return BAD;
        }
        taped = n;
        return n;
    }

    public int text() {
        int bytes = taped;
        taped = 0;
        int fault = reader.read(tape, bytes);
        return fault == NONE ? now.book.take(reader) : FAULT - fault;
    }

    public int textTold(int text, int what) {
        Text row = now.book.rowOf(text);
        if (row == null) {
            return BAD;
        }
        return what == 0 ? row.key : what == 1 ? row.pieces : BAD;
    }

    public int why(int key) {
        return isWithin(key, LOOK, FINE) ? now.book.counting[key] : BAD;
    }

    // ---- sheets, slots

    public int sheet(int sheet, int sort, int n) {
        if (!isSheet(sheet) || !isWithin(sort, MISSING, FLOATS)) {
            return BAD;
        }
        if (sort == MISSING) {
            sheets[sheet].start(MISSING, 0);
            return 0;
        }
        if (n > MOST_PLACES) {
            return BAD;
        }
        if (n < 0) {
            return SIZE;
        }
        sheets[sheet].start(sort, n);
        return n;
    }

    public int mark(int sheet, int place, int v) {
        if (!isSheet(sheet)) {
            return BAD;
        }
        Sheet row = sheets[sheet];
        if (row.sort == MISSING) {
            return NOTHING;
        }
        if (!isWithin(place, 0, row.places - 1)) {
            return INDEX;
        }
        if (row.sort == SHORTS) {
            if (v == NONE) {
                return KIND;
            }
            row.numbers[place] = (short) v;
            return 1;
        }
        if (v != NONE && !isWithin(v, -MOST_FLOAT, MOST_FLOAT)) {
            return BAD;
        }
        row.numbers[place] = v;
        return 1;
    }

    public int pour(int sheet) {
        if (!isSheet(sheet)) {
            return BAD;
        }
        Sheet row = sheets[sheet];
        if (row.sort == MISSING) {
            return NOTHING;
        }
        int changed = 0;
        int pouring = Math.min(now.guards, row.places);
        for (int g = 0; g < pouring; g++) {
            int wear = row.isNumber(g) ? heldWithin99(row.numbers[g]) : now.wear[g];
            if (now.wear[g] != wear) {
                now.wear[g] = wear;
                changed++;
            }
        }
        return changed;
    }

    public int reads(int sheet) {
        if (!isSheet(sheet)) {
            return BAD;
        }
        Sheet row = sheets[sheet];
        if (row.sort == MISSING) {
            return NOTHING;
        }
        for (int i = 0; i < row.places; i++) {
            if (row.isNumber(i) && (i >= now.guards || row.numbers[i] != now.post[i])) {
                return i;
            }
        }
        return NONE;
    }

    public int copy(int from, int place, int to, int at, int many) {
        if (!isSheet(from) || !isSheet(to)) {
            return BAD;
        }
        Sheet source = sheets[from];
        Sheet target = sheets[to];
        if (source.sort == MISSING || target.sort == MISSING) {
            return NOTHING;
        }
        if (source.sort != target.sort) {
            return KIND;
        }
        if (!source.hasPlaces(place, many) || !target.hasPlaces(at, many)) {
            return INDEX;
        }
        System.arraycopy(source.numbers, place, target.numbers, at, many);
        return many;
    }

    public int lay(int slot, int thing, int k) {
        if (!isSlot(slot) || !isWithin(thing, HOLDS_NOTHING, HOLDS_NUMBER)
            || thing == HOLDS_GUARD && !isGuard(k) || thing == HOLDS_SHEET && !isSheet(k)) {
            return BAD;
        }
        if (thing == HOLDS_SHEET && sheets[k].sort == MISSING) {
            return NOTHING;
        }
        Slot place = slots[slot];
        int was = place.thing;
        place.thing = thing;
        if (thing == HOLDS_GUARD) {
            place.kind = now.kind[k];
            place.wear = now.wear[k];
        } else if (thing == HOLDS_SHEET) {
            place.row.become(sheets[k]);
        } else if (thing == HOLDS_NUMBER) {
            place.number = k;
        }
        return was;
    }

    public int ask(int slot, int kind) {
        if (!isSlot(slot) || !isKind(kind)) {
            return BAD;
        }
        Slot place = slots[slot];
        if (place.thing == HOLDS_NOTHING) {
            return NOTHING;
        }
        if (place.thing != HOLDS_GUARD || !Kinds.isUnder(place.kind, kind)) {
            return KIND;
        }
        return Kinds.worth(place.kind, place.wear);
    }

    public int item(int slot, int place) {
        if (!isSlot(slot)) {
            return BAD;
        }
        if (slots[slot].thing == HOLDS_NOTHING) {
            return NOTHING;
        }
        if (slots[slot].thing != HOLDS_SHEET) {
            return KIND;
        }
        Sheet row = slots[slot].row;
        if (!isWithin(place, 0, row.places - 1)) {
            return INDEX;
        }
        return row.isNumber(place) ? row.numbers[place] : KIND;
    }

    public int rest(int slot, int n) {
        if (!isSlot(slot)) {
            return BAD;
        }
        if (slots[slot].thing == HOLDS_NOTHING) {
            return NOTHING;
        }
        if (slots[slot].thing != HOLDS_NUMBER) {
            return KIND;
        }
        return n == 0 ? NO : slots[slot].number % n;
    }

    // ---- rows, images

    public int tell(int v) {
        if (waits >= MOST_WAITING) {
            return FULL;
        }
        waiting[waits] = v;
        waits++;
        return waits;
    }

    public int check(int n) {
        int told = waits;
        waits = 0;
        if (!isWithin(n, 1, MOST_CHECKED)) {
            return BAD;
        }
        if (!imageKept) {
            return NO;
        }
        thought.become(image);
        int due = 2 * Math.min(n, LAST_NIGHT - image.night);
        for (int i = 0; i < due; i++) {
            if (i % 2 == 0) {
                thought.passNight();
            }
            int right = i % 2 == 0 ? thought.tolls[FALLEN] : thought.doubts();
            if (i >= told || waiting[i] != right) {
                return 1 + i;
            }
        }
        return told > due ? 1 + due : 0;
    }

    public int keep() {
        image.become(now);
        imageKept = true;
        return image.guards;
    }

    public int back() {
        if (!imageKept) {
            return NO;
        }
        now.become(image);
        return now.guards;
    }

    public int count(int what) {
        switch (what) {
            case 0: return now.guards;
            case 1: return now.night;
            case 2: return now.rules[SIGHT];
            case 3: return now.rules[RAIN];
            case 4: return now.rules[COURAGE];
            case 5: return now.rules[FORCE];
            case 6: return now.book.texts;
            case 7: return waits;
            case 8: return taped;
            case 9: return now.z;
            default: return BAD;
        }
    }

    // ---- what several calls need

    private boolean isGuard(int guard) {
        return isWithin(guard, 0, now.guards - 1);
    }

    private static boolean isKind(int kind) {
        return isWithin(kind, 0, Kinds.KINDS - 1);
    }

    private static boolean isPost(int post) {
        return isWithin(post, 0, POSTS - 1);
    }

    private static boolean isSheet(int sheet) {
        return isWithin(sheet, 0, SHEETS - 1);
    }

    private static boolean isSlot(int slot) {
        return isWithin(slot, 0, SLOTS - 1);
    }

    private static boolean isWithin(int v, int least, int most) {
        return v >= least && v <= most;
    }

    private static int heldWithin99(int v) {
        return Math.max(0, Math.min(99, v));
    }

    private int countedBehind(int n) {
        for (int i = 0; i < n; i++) {
            thought.passNight();
        }
        return thought.counted();
    }

    /** 0 stands for none, as the first RAID is behind one NIGHT at least. */
    private int firstRaid(int most) {
        for (int i = 1; i <= most; i++) {
            if (thought.passNight()) {
                return i;
            }
        }
        return 0;
    }

    private void sumDifferences(Sheet row) {
        Arrays.fill(differences, 0);
        thought.become(now);
        for (int k = 0; k < row.places; k++) {
            if (row.isNumber(k)) {
                for (int g = 0; g < thought.guards; g++) {
                    differences[g] += Math.abs(thought.doubt[g] - row.numbers[k]);
                }
            }
            thought.passNight();
        }
    }

    private void tapeNumber(int v) {
        for (int shift = 24; shift >= 0 && taped < MOST_BYTES; shift -= 8) {
            tape[taped] = (byte) (v >>> shift);
            taped++;
        }
    }

    /** What the KINDS do; one that is not named in a method does as the one above it. */
    private static final class Kinds {
        static final int KINDS = 6;
        private static final int STRAW = 0, COATED = 1, MAN = 2, GENERAL = 3, SENTRY = 4, LANTERN = 5;
        private static final int[] ABOVE = {NONE, STRAW, STRAW, COATED, MAN, STRAW};

        /** A KIND is under itself here, as a GUARD may be taken for one of its own KIND. */
        static boolean isUnder(int kind, int other) {
            int at = kind;
            for (int i = 0; i < KINDS && at >= 0 && at < KINDS; i++) {
                if (at == other) {
                    return true;
                }
                at = ABOVE[at];
            }
            return false;
        }

        static boolean lives(int kind) {
            return kind == MAN || kind == SENTRY;
        }

        static int looks(int kind, int plain, int night) {
            switch (kind) {
                case COATED: return plain + 12;
                case GENERAL: return 2 * (plain + 12);
                case MAN: case SENTRY: return 99;
                case LANTERN: return night % 2 == 1 ? plain + 20 : plain;
                default: return plain;
            }
        }

        static int falls(int kind, int wear) {
            switch (kind) {
                case COATED: case GENERAL: return wear / 2 + 4;
                case MAN: case SENTRY: return 0;
                case LANTERN: return 2 * (wear / 2);
                default: return wear / 2;
            }
        }

        static int fights(int kind) {
            return kind == MAN ? 10 : kind == SENTRY ? 15 : 0;
        }

        static int worth(int kind, int wear) {
            switch (kind) {
                case COATED: return wear + 5;
                case GENERAL: return 2 * (wear + 5);
                case MAN: return 99 - wear;
                case SENTRY: return 99 - wear - 7;
                case LANTERN: return 8;
                default: return wear;
            }
        }
    }

    /** All that AN IMAGE keeps. */
    private static final class Border {
        int guards = 0;
        final int[] kind = new int[MOST_GUARDS];
        final int[] post = new int[MOST_GUARDS];
        final int[] wear = new int[MOST_GUARDS];
        final int[] doubt = new int[MOST_GUARDS];
        final int[] up = new int[MOST_GUARDS];
        final int[] rules = {3, 30, 200, 20};
        final int[] tolls = {0, 0, 0};
        int night = 0;
        int z = 1;
        final Book book = new Book();

        void become(Border other) {
            guards = other.guards;
            System.arraycopy(other.kind, 0, kind, 0, MOST_GUARDS);
            System.arraycopy(other.post, 0, post, 0, MOST_GUARDS);
            System.arraycopy(other.wear, 0, wear, 0, MOST_GUARDS);
            System.arraycopy(other.doubt, 0, doubt, 0, MOST_GUARDS);
            System.arraycopy(other.up, 0, up, 0, MOST_GUARDS);
            System.arraycopy(other.rules, 0, rules, 0, rules.length);
            System.arraycopy(other.tolls, 0, tolls, 0, tolls.length);
            night = other.night;
            z = other.z;
            book.become(other.book);
        }

        /** The caller has seen that there is room and that the POST is nobody's. */
        int enlist(int ofKind, int ownPost, int ownWear) {
            int number = guards;
            if (number < MOST_GUARDS) {
                kind[number] = ofKind;
                post[number] = ownPost;
                wear[number] = ownWear;
                doubt[number] = 0;
                up[number] = 1;
                guards++;
            }
            return number;
        }

        void enlistDrawn() {
            int ofKind = draw() % Kinds.KINDS;
            int ownPost = draw() % POSTS;
            for (int i = 0; i < POSTS && ownerOf(ownPost) != NONE; i++) {
                ownPost = (ownPost + 1) % POSTS;
            }
            enlist(ofKind, ownPost, draw() % 60);
        }

        private int draw() {
            z = z * 1103515245 + 12345;
            return z >>> 8;
        }

        int ownerOf(int somePost) {
            for (int g = 0; g < guards; g++) {
                if (post[g] == somePost) {
                    return g;
                }
            }
            return NONE;
        }

        boolean isInSight(int g, int fromPost) {
            return Math.abs(post[g] - fromPost) <= rules[SIGHT];
        }

        private boolean isNear(int g, int somePost) {
            return Math.abs(post[g] - somePost) <= NEAR;
        }

        int looksOf(int g) {
            Text text = book.textFor(LOOK);
            int plain = text == null ? 60 - wear[g] / 2 : heldWithin99(text.valueOf(wear[g], doubt[g], post[g]));
            return Kinds.looks(kind[g], plain, night);
        }

        int counted() {
            int sum = 0;
            for (int g = 0; g < guards; g++) {
                if (up[g] == 1 && doubt[g] < 50) {
                    sum += looksOf(g);
                }
            }
            return sum;
        }

        int strength() {
            int sum = 0;
            for (int g = 0; g < guards; g++) {
                if (up[g] == 1) {
                    sum += Kinds.fights(kind[g]);
                }
            }
            return sum;
        }

        int downBits() {
            int bits = 0;
            for (int g = 0; g < guards; g++) {
                if (up[g] == 0) {
                    bits |= 1 << g;
                }
            }
            return bits;
        }

        int doubts() {
            int sum = 0;
            for (int g = 0; g < guards; g++) {
                sum += doubt[g];
            }
            return sum;
        }

        /** The GUARD itself is left out, as COVERS asks for others. */
        int othersNear(int guard, int somePost) {
            int near = 0;
            for (int g = 0; g < guards; g++) {
                if (g != guard && !Kinds.lives(kind[g]) && isNear(g, somePost)) {
                    near++;
                }
            }
            return near;
        }

        /** Whether there was a RAID. THE NIGHT has no bound here, as it has none in what is only thought. */
        boolean passNight() {
            blow(draw() % 100);
            setUp();
            watch(draw() % POSTS);
            if (draw() % 100 < rules[RAIN]) {
                wet();
            }
            boolean raid = counted() < rules[COURAGE];
            if (raid) {
                tolls[strength() >= rules[FORCE] ? HELD : LOST]++;
            }
            night++;
            return raid;
        }

        private void blow(int wind) {
            for (int g = 0; g < guards; g++) {
                if (up[g] == 1 && Kinds.falls(kind[g], wear[g]) > wind) {
                    up[g] = 0;
                    tolls[FALLEN]++;
                }
            }
        }

        /** One that has just been set up and LIVES sets up others too, if its number is yet to come. */
        private void setUp() {
            for (int g = 0; g < guards; g++) {
                if (up[g] == 1 && Kinds.lives(kind[g])) {
                    setUpFirstNear(post[g]);
                }
            }
        }

        private void setUpFirstNear(int somePost) {
            for (int g = 0; g < guards; g++) {
                if (up[g] == 0 && isNear(g, somePost)) {
                    up[g] = 1;
                    return;
                }
            }
        }

        private void watch(int fromPost) {
            for (int g = 0; g < guards; g++) {
                if (isInSight(g, fromPost)) {
                    int more = up[g] == 0 ? 20 : looksOf(g) < 40 ? 9 : -3;
                    doubt[g] = heldWithin99(doubt[g] + more);
                }
            }
        }

        private void wet() {
            for (int g = 0; g < guards; g++) {
                if (!Kinds.lives(kind[g])) {
                    wear[g] = heldWithin99(wear[g] + 3);
                }
            }
        }
    }

    /** The TEXTS of a border by their numbers, and which of them counts for each KEY. */
    private static final class Book {
        int texts = 0;
        private final Text[] rows = new Text[MOST_TEXTS];
        final int[] counting = {NONE, NONE, NONE};

        void become(Book other) {
            texts = other.texts;
            for (int i = 0; i < MOST_TEXTS; i++) {
                rows[i] = other.rows[i];
            }
            System.arraycopy(other.counting, 0, counting, 0, KEYS);
        }

        int take(Reader reader) {
            if (texts >= MOST_TEXTS) {
                return FULL;
            }
            int number = texts;
            rows[number] = new Text(reader);
            counting[reader.key] = number;
            texts++;
            return number;
        }

        Text rowOf(int number) {
            return isWithin(number, 0, texts - 1) ? rows[number] : null;
        }

        Text textFor(int key) {
            int number = counting[key];
            return isWithin(number, 0, texts - 1) ? rows[number] : null;
        }
    }

    /** A TEXT, worked out from left to right: what a sign works on stands ahead of it. */
    private static final class Text {
        final int key;
        final int pieces;
        private final int[] code;
        private final int[] stack;

        Text(Reader reader) {
            key = reader.key;
            pieces = reader.pieces;
            code = Arrays.copyOf(reader.code, reader.length);
            // Only a NUMBER or a NAME comes onto it, so it is never higher than the code is long.
            stack = new int[code.length];
        }

        /** What it gives, its NAMES standing for these three in their order. */
        int valueOf(int first, int second, int third) {
            int height = 0;
            for (int i = 0; i < code.length; i++) {
                int piece = code[i];
                if (piece >= Reader.LAST_NAME) {
                    if (height < stack.length) {
                        stack[height] = piece >= 0 ? piece
                            : piece == Reader.FIRST_NAME ? first
                            : piece == Reader.LAST_NAME ? third : second;
                        height++;
                    }
                } else if (piece == -'!') {
                    if (height > 0) {
                        stack[height - 1] = stack[height - 1] == 0 ? 1 : 0;
                    }
                } else if (height > 1) {
                    height--;
                    stack[height - 1] = workedOut(-piece, stack[height - 1], stack[height]);
                }
            }
            return height > 0 ? stack[0] : 0;
        }

        private static int workedOut(int sign, int a, int b) {
            switch (sign) {
                case '+': return a + b;
                case '-': return a - b;
                case '*': return a * b;
                case '/': return b == 0 ? 0 : a / b;
                case '<': return a < b ? 1 : 0;
                case '=': return a == b ? 1 : 0;
                case '>': return a > b ? 1 : 0;
                case '&': return a != 0 && b != 0 ? 1 : 0;
                case '|': return a != 0 || b != 0 ? 1 : 0;
                default: return 0;
            }
        }
    }

    /**
     * Reads bytes as a TEXT. Signs wait on a stack until what binds tighter than they do has been
     * put down, so that no depth of brackets needs a depth of calls.
     */
    private static final class Reader {
        /** In the code, a NUMBER is itself, the NAMES of a KEY go down from here, a sign is below 0. */
        static final int FIRST_NAME = -1, LAST_NAME = -3;
        private static final int BLANK = 0, LETTERS = 1, DIGITS = 2, SIGN = 3;
        private static final int MOST_OPEN = 8, MOST_DIGITS = 4, TEST_TIGHTNESS = 3;

        int key;
        int pieces;
        final int[] code = new int[MOST_BYTES];
        int length;
        private final int[] stack = new int[MOST_BYTES];
        private int height;
        private int brackets;
        private int bangs;
        private boolean pieceDue;
        /** By how many brackets are open: whether the TEST being read there has its < = > already. */
        private final boolean[] compared = new boolean[MOST_OPEN + 1];

        /** The place of the FAULT; NONE: there is none, and key, pieces, code, length tell the TEXT. */
        int read(byte[] tape, int bytes) {
            start();
            int place = placeBehindBlanks(tape, 0, bytes);
            int end = endOf(tape, place, bytes);
            key = keyOf(tape, place, end);
            if (key == NONE) {
                return place;
            }
            for (int i = 0; i < bytes; i++) {
                boolean behindWord = end > 0 && sortOf(tape[end - 1]) != SIGN;
                place = placeBehindBlanks(tape, end, bytes);
                if (place >= bytes) {
                    break;
                }
                boolean isWord = sortOf(tape[place]) != SIGN;
                if (isWord && behindWord && place == end) {
                    return place;
                }
                end = endOf(tape, place, bytes);
                if (!goesOnWith(tape, place, end)) {
                    return place;
                }
            }
            if (pieceDue || brackets > 0) {
                return bytes;
            }
            putDownFrom(0);
            return NONE;
        }

        private void start() {
            pieces = 0;
            length = 0;
            height = 0;
            brackets = 0;
            bangs = 0;
            pieceDue = true;
            compared[0] = false;
        }

        private static int sortOf(byte b) {
            return b == ' ' ? BLANK : b >= 'a' && b <= 'z' ? LETTERS : b >= '0' && b <= '9' ? DIGITS : SIGN;
        }

        private static int placeBehindBlanks(byte[] tape, int from, int bytes) {
            int place = from;
            while (place < bytes && sortOf(tape[place]) == BLANK) {
                place++;
            }
            return place;
        }

        private static int endOf(byte[] tape, int place, int bytes) {
            if (place >= bytes) {
                return bytes;
            }
            int sort = sortOf(tape[place]);
            int end = place + 1;
            while (sort != SIGN && end < bytes && sortOf(tape[end]) == sort) {
                end++;
            }
            return end;
        }

        private static int keyOf(byte[] tape, int place, int end) {
            if (isWord(tape, place, end, "look")) {
                return LOOK;
            }
            if (isWord(tape, place, end, "fee")) {
                return FEE;
            }
            return isWord(tape, place, end, "fine") ? FINE : NONE;
        }

        private static boolean isWord(byte[] tape, int place, int end, String word) {
            if (end - place != word.length()) {
                return false;
            }
            for (int i = 0; i < word.length(); i++) {
                if (tape[place + i] != word.charAt(i)) {
                    return false;
                }
            }
            return true;
        }

        private boolean goesOnWith(byte[] tape, int place, int end) {
            switch (sortOf(tape[place])) {
                case DIGITS: return pieceDue && takesNumber(tape, place, end);
                case LETTERS: return pieceDue && end - place == 1 && takesName(tape[place]);
                default: return pieceDue ? opens(tape[place]) : tape[place] == ')' ? closes() : joins(tape[place]);
            }
        }

        private boolean takesNumber(byte[] tape, int place, int end) {
            if (end - place > MOST_DIGITS) {
                return false;
            }
            int number = 0;
            for (int i = place; i < end; i++) {
                number = 10 * number + (tape[i] - '0');
            }
            takePiece(number);
            return true;
        }

        private boolean takesName(int letter) {
            String names = key == LOOK ? "wdp" : key == FEE ? "hl" : "wd";
            int which = names.indexOf((char) letter);
            if (which < 0) {
                return false;
            }
            takePiece(FIRST_NAME - which);
            return true;
        }

        private void takePiece(int piece) {
            pieces++;
            putDown(piece);
            endPiece();
        }

        private boolean opens(int sign) {
            if (sign == '!' && bangs < MOST_OPEN) {
                bangs++;
                push(sign);
                return true;
            }
            if (sign == '(' && brackets < MOST_OPEN) {
                brackets++;
                compared[brackets] = false;
                push(sign);
                return true;
            }
            return false;
        }

        private boolean closes() {
            if (brackets == 0) {
                return false;
            }
            putDownFrom(0);
            if (height > 0) {
                height--;
            }
            brackets--;
            endPiece();
            return true;
        }

        /** Every ! that is right ahead of the PIECE that has just ended has its PIECE now. */
        private void endPiece() {
            while (height > 0 && stack[height - 1] == '!') {
                height--;
                bangs--;
                putDown(-'!');
            }
            pieceDue = false;
        }

        private boolean joins(int sign) {
            int tightness = tightnessOf(sign);
            boolean isTest = tightness == TEST_TIGHTNESS;
            if (tightness == 0 || isTest && compared[brackets]) {
                return false;
            }
            putDownFrom(tightness);
            push(sign);
            if (tightness <= TEST_TIGHTNESS) {
                compared[brackets] = isTest;
            }
            pieceDue = true;
            return true;
        }

        private static int tightnessOf(int sign) {
            switch (sign) {
                case '|': return 1;
                case '&': return 2;
                case '<': case '=': case '>': return TEST_TIGHTNESS;
                case '+': case '-': return 4;
                case '*': case '/': return 5;
                default: return 0;
            }
        }

        /** Puts down the signs back to the last open bracket, as long as they bind so tightly. */
        private void putDownFrom(int tightness) {
            while (height > 0 && stack[height - 1] != '(' && tightnessOf(stack[height - 1]) >= tightness) {
                height--;
                putDown(-stack[height]);
            }
        }

        private void putDown(int piece) {
            if (length < code.length) {
                code[length] = piece;
                length++;
            }
        }

        private void push(int sign) {
            if (height < stack.length) {
                stack[height] = sign;
                height++;
            }
        }
    }

    /** A row of places; one that is NO NUMBER holds NONE, which no number of a SHEET is. */
    private static final class Sheet {
        int sort = MISSING;
        int places = 0;
        final int[] numbers = new int[MOST_PLACES];

        void start(int ofSort, int many) {
            sort = ofSort;
            places = many;
            Arrays.fill(numbers, 0);
        }

        void become(Sheet other) {
            sort = other.sort;
            places = other.places;
            System.arraycopy(other.numbers, 0, numbers, 0, MOST_PLACES);
        }

        boolean isNumber(int place) {
            return numbers[place] != NONE;
        }

        boolean hasPlaces(int from, int many) {
            return from >= 0 && many >= 0 && from <= places && many <= places - from;
        }
    }

    private static final class Slot {
        int thing = HOLDS_NOTHING;
        int kind = 0;
        int wear = 0;
        int number = 0;
        final Sheet row = new Sheet();
    }
}
