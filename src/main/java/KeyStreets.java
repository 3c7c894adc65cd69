/**
 * A city laid out round a scale: its streets change the tune that is carried through them.
 *
 * <p>The document ../shared/DOC.md tells every call. A tune is held as one long (see Tunes), so that
 * no call makes an object but city(), which makes its streets.
 */
public final class KeyStreets {
    public static final int NONE = -1, UNKNOWN = -101, OUTSIDE = -102, STATE = -103, FULL = -104;

    private static final int NOTES = 12;
    private static final int MOST_NOTES = 8;
    private static final int MOST_LETTERS = 44;
    private static final int LAST_CODE = 126;
    private static final int MOST_STREETS = 8;
    private static final int MOST_SEEN = 6;
    private static final int MOST_WALKED = 999;
    private static final int MOST_WAYS = 16;
    private static final int LONGEST_WAY = 5;
    private static final int MOST_BECOME = 3;
    private static final int MOST_AGAIN = 24;
    private static final int MOST_TIMES = 60;
    private static final int LAST_COUNT = 12;
    private static final int LAST_STREET_WHAT = 8;

    private static final int KIND_STREET = 0;
    private static final int KIND_MINOR = 1;
    private static final int KIND_BRIDGE = 2;
    private static final int KIND_POLICE = 3;
    private static final int KIND_PICARDY = 4;
    private static final String KIND_LETTERS = "smbpi";

    private static final int CARRIED = 0;
    private static final int TOLD_OF = 1;
    private static final long NO_TUNE = 0L;

    private final Page page = new Page();
    private final Walks walks = new Walks();
    private final City city = walks.city;
    private final Now now = walks.now;
    private final Now image = new Now();
    /** How often a city was read; it tells one city from the next, too. */
    private int reads;
    /** What reads was when the image was kept; 0: none was kept. */
    private int imageRead;
    private int ways;

    public KeyStreets() {
    }

    // ---- texts

    public int letter(int code) {
        if (code < 1 || code > LAST_CODE) {
            return OUTSIDE;
        }
        if (page.length >= MOST_LETTERS) {
            return FULL;
        }
        page.add(code);
        return page.length;
    }

    public int blank() {
        int had = page.length;
        page.length = 0;
        return had;
    }

    public int fault() {
        return page.firstFault();
    }

    public int city() {
        if (!page.isCity()) {
            return STATE;
        }
        city.read(page);
        now.enter(page, city.size);
        page.length = 0;
        reads++;
        return city.size;
    }

    public int tune(int which) {
        if (which != CARRIED && which != TOLD_OF) {
            return UNKNOWN;
        }
        long read = page.asTune();
        if (read == NO_TUNE) {
            return STATE;
        }
        now.setTune(which, read);
        page.length = 0;
        return Tunes.length(read);
    }

    public int told(int which, int what) {
        long tune = now.tuneOf(which);
        if (tune == NO_TUNE) {
            return UNKNOWN;
        }
        switch (what) {
            case 0:
                return Tunes.length(tune);
            case 1:
                return Tunes.tritones(tune);
            case 2:
                return Tunes.key(tune);
            case 3:
                return Tunes.inKey(tune, Tunes.key(tune));
            case 4:
                return Tunes.bits(tune);
            default:
                return what >= 10 && what < 10 + MOST_NOTES ? Tunes.note(tune, what - 10) : OUTSIDE;
        }
    }

    public int street(int street, int what) {
        Street asked = city.at(street);
        if (asked == null) {
            return UNKNOWN;
        }
        switch (what) {
            case 0:
                return asked.kind();
            case 1:
                return asked.one;
            case 2:
                return asked.other;
            case 3:
                return now.tonic(street);
            case 4:
                return leaves(asked, now.tonic(street));
            case 5:
                return again(asked, now.tonic(street));
            case 6:
                return tonics(asked, street);
            case 7:
                return ask(asked, tonics(asked, street));
            case 8:
                return now.walks(street);
            default:
                return OUTSIDE;
        }
    }

    public int as(int street, int kind) {
        Street asked = city.at(street);
        if (asked == null) {
            return UNKNOWN;
        }
        switch (kind) {
            case KIND_STREET:
                return street;
            case KIND_MINOR:
                return asked instanceof Minor ? street : NONE;
            case KIND_BRIDGE:
                return asked instanceof Bridge ? street : NONE;
            case KIND_POLICE:
                return asked instanceof Police ? street : NONE;
            case KIND_PICARDY:
                return asked instanceof Picardy ? street : NONE;
            default:
                return OUTSIDE;
        }
    }

    public int comes(int street, int note) {
        Street asked = city.at(street);
        if (asked == null) {
            return UNKNOWN;
        }
        if (!isNote(note)) {
            return OUTSIDE;
        }
        return asked.alone(note, now.tonic(street));
    }

    // ---- what is done

    public int walk(int street) {
        Street asked = city.at(street);
        if (asked == null) {
            return UNKNOWN;
        }
        if (now.carried == NO_TUNE || !asked.endsAt(now.corner) || !asked.open(now.carried, now.night)) {
            return STATE;
        }
        if (now.walked >= MOST_WALKED) {
            return FULL;
        }
        now.carried = asked.carry(now.carried, now.tonic(street));
        now.corner = asked.across(now.corner);
        now.addWalk(street);
        return now.corner;
    }

    public int stand(int corner) {
        if (corner < 0 || corner >= city.corners) {
            return UNKNOWN;
        }
        int was = now.corner;
        now.corner = corner;
        return was;
    }

    public int dusk() {
        if (noCity()) {
            return STATE;
        }
        now.night = !now.night;
        return now.night ? 1 : 0;
    }

    public int sing(int which, int place, int note) {
        long tune = now.tuneOf(which);
        int was = Tunes.note(tune, place);
        if (was == NONE) {
            return UNKNOWN;
        }
        if (!isNote(note)) {
            return OUTSIDE;
        }
        now.setTune(which, Tunes.with(tune, place, note));
        return was;
    }

    public int raise(int street, int tonic) {
        if (city.at(street) == null) {
            return UNKNOWN;
        }
        if (!isNote(tonic)) {
            return OUTSIDE;
        }
        int was = now.tonic(street);
        now.setTonic(street, tonic);
        return was;
    }

    // ---- what would be

    public int way(int what) {
        boolean asksStreet = what >= 10 && what < 10 + LONGEST_WAY;
        if (what != 0 && what != 1 && !asksStreet) {
            return OUTSIDE;
        }
        if (noCity() || noTunes() || ways >= MOST_WAYS) {
            return STATE;
        }
        ways++;
        int length = walks.findWay();
        if (length == NONE || what == 0) {
            return length;
        }
        return what == 1 ? walks.wayEnd : walks.wayStreet(what - 10, length);
    }

    public int become(int streets) {
        if (streets < 0 || streets > MOST_BECOME) {
            return OUTSIDE;
        }
        if (noCity() || now.carried == NO_TUNE) {
            return STATE;
        }
        return walks.tunesBehind(streets);
    }

    public int apart() {
        if (noTunes()) {
            return STATE;
        }
        return Tunes.unlike(now.carried, now.toldOf);
    }

    public int near() {
        if (noCity() || noTunes()) {
            return STATE;
        }
        return walks.nearest();
    }

    // ---- what is seen

    public int see(int street, int note, int out) {
        if (city.at(street) == null) {
            return UNKNOWN;
        }
        if (!isNote(note) || !isNote(out)) {
            return OUTSIDE;
        }
        if (now.seen >= MOST_SEEN) {
            return FULL;
        }
        now.addSight(street, note, out);
        return now.seen;
    }

    public int forget() {
        int was = now.seen;
        now.seen = 0;
        return was;
    }

    public int wander(int times, int seed, int what) {
        if (times < 1 || times > MOST_TIMES || seed < 0 || what < 0 || what > 2) {
            return OUTSIDE;
        }
        if (noCity() || noTunes()) {
            return STATE;
        }
        walks.wanderOff(times, seed);
        if (what == 0) {
            return walks.wanderHits;
        }
        return what == 1 ? walks.wanderEnd : (int) walks.wanderSeed;
    }

    // ---- what is told of all

    public int image() {
        if (noCity()) {
            return STATE;
        }
        image.copy(now);
        imageRead = reads;
        return now.walked;
    }

    public int restore() {
        if (imageRead == 0 || imageRead != reads) {
            return STATE;
        }
        now.copy(image);
        return now.walked;
    }

    public int count(int what) {
        switch (what) {
            case 0:
                return city.corners;
            case 1:
                return city.size;
            case 2:
                return now.corner;
            case 3:
                return now.night ? 1 : 0;
            case 4:
                return city.countAt(now.corner);
            case 5:
                return now.carried == NO_TUNE ? 0 : walks.countOpen();
            case 6:
                return now.walked;
            case 7:
                return Tunes.length(now.carried);
            case 8:
                return Tunes.length(now.toldOf);
            case 9:
                return now.seen;
            case 10:
                return page.length;
            case 11:
                return reads;
            case 12:
                return ways;
            default:
                return OUTSIDE;
        }
    }

    public long digest() {
        long h = 1187L;
        for (int street = 0; street < city.size; street++) {
            for (int what = 0; what <= LAST_STREET_WHAT; what++) {
                h = mix(h, street(street, what));
            }
            for (int note = 0; note < NOTES; note++) {
                h = mix(h, comes(street, note));
            }
        }
        for (int which = CARRIED; which <= TOLD_OF; which++) {
            h = digestTune(h, which);
        }
        if (!noCity() && !noTunes()) {
            h = mix(h, become(2));
            h = mix(h, near());
        }
        for (int place = 0; place < page.length; place++) {
            h = mix(h, page.at(place));
        }
        for (int what = 0; what <= LAST_COUNT; what++) {
            h = mix(h, count(what));
        }
        return h;
    }

    private long digestTune(long h, int which) {
        if (now.tuneOf(which) == NO_TUNE) {
            return h;
        }
        long mixed = h;
        for (int what = 0; what <= 4; what++) {
            mixed = mix(mixed, told(which, what));
        }
        for (int what = 10; what < 10 + MOST_NOTES; what++) {
            mixed = mix(mixed, told(which, what));
        }
        return mixed;
    }

    private static long mix(long h, int number) {
        return 31L * h + number;
    }

    private boolean noCity() {
        return city.size == 0;
    }

    private boolean noTunes() {
        return now.carried == NO_TUNE || now.toldOf == NO_TUNE;
    }

    private static boolean isNote(int number) {
        return number >= 0 && number < NOTES;
    }

    private static int leaves(Street street, int tonic) {
        int bits = 0;
        for (int note = 0; note < NOTES; note++) {
            if (street.alone(note, tonic) == note) {
                bits |= 1 << note;
            }
        }
        return bits;
    }

    private int again(Street street, int tonic) {
        if (now.carried == NO_TUNE) {
            return NONE;
        }
        long tune = now.carried;
        for (int times = 1; times <= MOST_AGAIN; times++) {
            tune = street.carry(tune, tonic);
            if (tune == now.carried) {
                return times;
            }
        }
        return NONE;
    }

    private int tonics(Street street, int number) {
        int bits = 0;
        for (int tonic = 0; tonic < NOTES; tonic++) {
            if (now.fits(street, number, tonic)) {
                bits |= 1 << tonic;
            }
        }
        return bits;
    }

    private static int ask(Street street, int tonics) {
        if (tonics == 0) {
            return NONE;
        }
        int best = NONE;
        int fewest = NOTES + 1;
        for (int note = 0; note < NOTES; note++) {
            int left = leftAtWorst(street, note, tonics);
            if (left < fewest) {
                fewest = left;
                best = note;
            }
        }
        return best;
    }

    /** How many of the tonics, at worst, make one and the same note of this one. */
    private static int leftAtWorst(Street street, int note, int tonics) {
        // Four bits for each note that may come out: a count is 12 at most.
        long counts = 0L;
        int worst = 0;
        for (int tonic = 0; tonic < NOTES; tonic++) {
            if ((tonics >> tonic & 1) == 1) {
                int shift = 4 * street.alone(note, tonic);
                counts += 1L << shift;
                worst = Math.max(worst, (int) (counts >>> shift & 15L));
            }
        }
        return worst;
    }

    /**
     * Tunes as longs: four bits a place, the first place lowest, a note and 1; 0 where there is no
     * note any more. So like tunes are like numbers, and 0 is no tune.
     */
    private static final class Tunes {
        private static final int MAJOR = 0b101010110101;
        private static final int MINOR = 0b010110101101;

        private Tunes() {
        }

        static int note(long tune, int place) {
            if (place < 0 || place >= MOST_NOTES) {
                return NONE;
            }
            return (int) (tune >>> 4 * place & 15L) - 1;
        }

        static long with(long tune, int place, int note) {
            int shift = 4 * place;
            return tune & ~(15L << shift) | (note + 1L) << shift;
        }

        static int length(long tune) {
            int length = 0;
            while (length < MOST_NOTES && note(tune, length) != NONE) {
                length++;
            }
            return length;
        }

        /** By how many a note is above another one, 0 to 11; both are 0 to 11. */
        static int above(int note, int other) {
            return (note - other + NOTES) % NOTES;
        }

        static int tritones(long tune) {
            int tritones = 0;
            // Not by length(): calls from digest() would go nine deep.
            for (int place = 1; place < MOST_NOTES && note(tune, place) != NONE; place++) {
                if (Math.abs(note(tune, place) - note(tune, place - 1)) == 6) {
                    tritones++;
                }
            }
            return tritones;
        }

        static int bits(long tune) {
            int bits = 0;
            int length = length(tune);
            for (int place = 0; place < length; place++) {
                bits |= 1 << note(tune, place);
            }
            return bits;
        }

        static int key(long tune) {
            int best = 0;
            int most = inKey(tune, 0);
            for (int key = 1; key < 2 * NOTES; key++) {
                int has = inKey(tune, key);
                if (has > most) {
                    most = has;
                    best = key;
                }
            }
            return best;
        }

        static int inKey(long tune, int key) {
            int scale = key < NOTES ? MAJOR : MINOR;
            int tonic = key % NOTES;
            int length = length(tune);
            int has = 0;
            for (int place = 0; place < length; place++) {
                has += scale >> above(note(tune, place), tonic) & 1;
            }
            return has;
        }

        static int unlike(long tune, long other) {
            int unlike = 0;
            for (int place = 0; place < MOST_NOTES; place++) {
                if (note(tune, place) != note(other, place)) {
                    unlike++;
                }
            }
            return unlike;
        }
    }

    /** A plain street, and what all kinds of streets have. */
    private static class Street {
        final int one;
        final int other;

        Street(int one, int other) {
            this.one = one;
            this.other = other;
        }

        int kind() {
            return KIND_STREET;
        }

        /** Which note a tune has at a place behind this street; the place has a note ahead of it. */
        int heard(long tune, int place, int tonic) {
            return (Tunes.note(tune, place) + tonic) % NOTES;
        }

        boolean open(long tune, boolean night) {
            return true;
        }

        final boolean endsAt(int corner) {
            return corner == one || corner == other;
        }

        final int across(int corner) {
            return corner == one ? other : one;
        }

        final long carry(long tune, int tonic) {
            long made = NO_TUNE;
            for (int place = 0; place < MOST_NOTES && Tunes.note(tune, place) != NONE; place++) {
                made = Tunes.with(made, place, heard(tune, place, tonic));
            }
            return made;
        }

        /** As carry and ==, but it ends at the first unlike note: the way asks it most often. */
        final boolean makes(long tune, int tonic, long wanted) {
            int place = 0;
            while (place < MOST_NOTES && Tunes.note(tune, place) != NONE) {
                if (heard(tune, place, tonic) != Tunes.note(wanted, place)) {
                    return false;
                }
                place++;
            }
            return Tunes.note(wanted, place) == NONE;
        }

        final int alone(int note, int tonic) {
            return heard(Tunes.with(NO_TUNE, 0, note), 0, tonic);
        }
    }

    private static class Minor extends Street {
        Minor(int one, int other) {
            super(one, other);
        }

        int kind() {
            return KIND_MINOR;
        }

        int heard(long tune, int place, int tonic) {
            int note = Tunes.note(tune, place);
            int degree = Tunes.above(note, tonic);
            boolean lowered = degree == 4 || degree == 9 || degree == 11;
            return lowered ? (note + NOTES - 1) % NOTES : note;
        }
    }

    private static final class Picardy extends Minor {
        Picardy(int one, int other) {
            super(one, other);
        }

        int kind() {
            return KIND_PICARDY;
        }

        int heard(long tune, int place, int tonic) {
            int note = super.heard(tune, place, tonic);
            boolean last = Tunes.note(tune, place + 1) == NONE;
            return last && Tunes.above(note, tonic) == 3 ? (tonic + 4) % NOTES : note;
        }
    }

    private static final class Bridge extends Street {
        Bridge(int one, int other) {
            super(one, other);
        }

        int kind() {
            return KIND_BRIDGE;
        }

        int heard(long tune, int place, int tonic) {
            return Tunes.above(tonic, Tunes.note(tune, place));
        }

        boolean open(long tune, boolean night) {
            return !night || Tunes.tritones(tune) == 0;
        }
    }

    private static final class Police extends Street {
        Police(int one, int other) {
            super(one, other);
        }

        int kind() {
            return KIND_POLICE;
        }

        int heard(long tune, int place, int tonic) {
            return Tunes.note(tune, 0);
        }
    }

    /** The page: a text that may be a tune or a city. */
    private static final class Page {
        private static final int FIRST_STREET = 2;
        private static final int STREET_STEP = 5;
        private static final int LONGEST_CITY = FIRST_STREET + MOST_STREETS * STREET_STEP - 1;
        private static final int SHORTEST_CITY = FIRST_STREET + 2 * STREET_STEP - 1;

        private final int[] letters = new int[MOST_LETTERS];
        int length;

        void add(int code) {
            if (length >= 0 && length < letters.length) {
                letters[length] = code;
                length++;
            }
        }

        int at(int place) {
            return place >= 0 && place < length && place < letters.length ? letters[place] : 0;
        }

        int noteAt(int place) {
            int note = at(place) - 'a';
            return isNote(note) ? note : NONE;
        }

        int digitAt(int place) {
            return at(place) - '0';
        }

        int kindOf(int street) {
            return KIND_LETTERS.indexOf((char) at(FIRST_STREET + street * STREET_STEP));
        }

        int oneEndOf(int street) {
            return digitAt(FIRST_STREET + street * STREET_STEP + 1);
        }

        int otherEndOf(int street) {
            return digitAt(FIRST_STREET + street * STREET_STEP + 2);
        }

        int tonicOf(int street) {
            return noteAt(FIRST_STREET + street * STREET_STEP + 3);
        }

        long asTune() {
            if (length < 1 || length > MOST_NOTES) {
                return NO_TUNE;
            }
            long tune = NO_TUNE;
            for (int place = 0; place < length; place++) {
                int note = noteAt(place);
                if (note == NONE) {
                    return NO_TUNE;
                }
                tune = Tunes.with(tune, place, note);
            }
            return tune;
        }

        boolean isCity() {
            boolean endsBehindStreet = (length + 1 - FIRST_STREET) % STREET_STEP == 0;
            return length >= SHORTEST_CITY && endsBehindStreet && firstFault() == length;
        }

        int streets() {
            return (length + 1 - FIRST_STREET) / STREET_STEP;
        }

        int firstFault() {
            for (int place = 0; place < length; place++) {
                if (!belongs(place)) {
                    return place;
                }
            }
            return length;
        }

        /** Whether some city has this letter here; those ahead of it belong. */
        private boolean belongs(int place) {
            if (place == 0) {
                return digitAt(0) >= 2 && digitAt(0) <= 5;
            }
            if (place == 1) {
                return at(1) == ';';
            }
            if (place >= LONGEST_CITY) {
                return false;
            }
            switch ((place - FIRST_STREET) % STREET_STEP) {
                case 0:
                    return KIND_LETTERS.indexOf((char) at(place)) >= 0;
                case 1:
                    return isCorner(digitAt(place));
                case 2:
                    return isCorner(digitAt(place)) && digitAt(place) != digitAt(place - 1);
                case 3:
                    return noteAt(place) != NONE;
                default:
                    return at(place) == ',';
            }
        }

        private boolean isCorner(int number) {
            return number >= 0 && number < digitAt(0);
        }
    }

    /** What of a city stays as it was read; no corners and no streets, if there is none. */
    private static final class City {
        private final Street[] streets = new Street[MOST_STREETS];
        int corners;
        int size;

        void read(Page page) {
            corners = page.digitAt(0);
            size = Math.min(page.streets(), streets.length);
            for (int street = 0; street < size; street++) {
                streets[street] = make(page.kindOf(street), page.oneEndOf(street), page.otherEndOf(street));
            }
        }

        private static Street make(int kind, int one, int other) {
            switch (kind) {
                case KIND_MINOR:
                    return new Minor(one, other);
                case KIND_BRIDGE:
                    return new Bridge(one, other);
                case KIND_POLICE:
                    return new Police(one, other);
                case KIND_PICARDY:
                    return new Picardy(one, other);
                default:
                    return new Street(one, other);
            }
        }

        /** The street of this number; null: it names none. */
        Street at(int street) {
            return street >= 0 && street < size && street < streets.length ? streets[street] : null;
        }

        /** The street of this number, if it ends at the corner; else null. */
        Street from(int corner, int street) {
            Street found = at(street);
            return found != null && found.endsAt(corner) ? found : null;
        }

        int countAt(int corner) {
            int count = 0;
            for (int street = 0; street < size; street++) {
                if (from(corner, street) != null) {
                    count++;
                }
            }
            return count;
        }

        /** The number of the so-manieth street, from 0, that ends at the corner. */
        int numberAt(int corner, int manieth) {
            int passed = 0;
            for (int street = 0; street < size; street++) {
                if (from(corner, street) != null) {
                    if (passed == manieth) {
                        return street;
                    }
                    passed++;
                }
            }
            return NONE;
        }
    }

    /** What changes while a city stands: just what an image keeps. */
    private static final class Now {
        private final int[] tonics = new int[MOST_STREETS];
        private final int[] streetWalks = new int[MOST_STREETS];
        private final int[] seenStreets = new int[MOST_SEEN];
        private final int[] seenNotes = new int[MOST_SEEN];
        private final int[] seenOuts = new int[MOST_SEEN];
        long carried = NO_TUNE;
        long toldOf = NO_TUNE;
        int corner;
        boolean night;
        int walked;
        int seen;

        void enter(Page page, int streets) {
            for (int street = 0; street < streets; street++) {
                setTonic(street, page.tonicOf(street));
            }
            for (int street = 0; street < streetWalks.length; street++) {
                streetWalks[street] = 0;
            }
            corner = 0;
            night = false;
            walked = 0;
            seen = 0;
        }

        void copy(Now from) {
            System.arraycopy(from.tonics, 0, tonics, 0, MOST_STREETS);
            System.arraycopy(from.streetWalks, 0, streetWalks, 0, MOST_STREETS);
            System.arraycopy(from.seenStreets, 0, seenStreets, 0, MOST_SEEN);
            System.arraycopy(from.seenNotes, 0, seenNotes, 0, MOST_SEEN);
            System.arraycopy(from.seenOuts, 0, seenOuts, 0, MOST_SEEN);
            carried = from.carried;
            toldOf = from.toldOf;
            corner = from.corner;
            night = from.night;
            walked = from.walked;
            seen = from.seen;
        }

        long tuneOf(int which) {
            if (which == CARRIED) {
                return carried;
            }
            return which == TOLD_OF ? toldOf : NO_TUNE;
        }

        void setTune(int which, long tune) {
            if (which == CARRIED) {
                carried = tune;
            } else {
                toldOf = tune;
            }
        }

        int tonic(int street) {
            return street >= 0 && street < tonics.length ? tonics[street] : 0;
        }

        void setTonic(int street, int tonic) {
            if (street >= 0 && street < tonics.length) {
                tonics[street] = tonic;
            }
        }

        int walks(int street) {
            return street >= 0 && street < streetWalks.length ? streetWalks[street] : 0;
        }

        void addWalk(int street) {
            if (street >= 0 && street < streetWalks.length) {
                streetWalks[street]++;
                walked++;
            }
        }

        void addSight(int street, int note, int out) {
            if (seen >= 0 && seen < MOST_SEEN) {
                seenStreets[seen] = street;
                seenNotes[seen] = note;
                seenOuts[seen] = out;
                seen++;
            }
        }

        /** Whether all that is seen of a street is so, if it begins from this tonic. */
        boolean fits(Street street, int number, int tonic) {
            for (int sight = 0; sight < seen && sight < MOST_SEEN; sight++) {
                if (seenStreets[sight] == number && street.alone(seenNotes[sight], tonic) != seenOuts[sight]) {
                    return false;
                }
            }
            return true;
        }
    }

    /** What would be: walks through the city that change nothing of it. */
    private static final class Walks {
        private static final int SLOTS = 1024;
        private static final long TWO_TO_31 = 1L << 31;

        final City city = new City();
        final Now now = new Now();
        private final int[] wayStreets = new int[LONGEST_WAY];
        /** The unlike tunes that were met, each in a slot by its number: 512 at most. */
        private final long[] slots = new long[SLOTS];
        private int met;
        int wayEnd;
        int wanderHits;
        int wanderEnd;
        long wanderSeed;

        /** The street of this number, if one can go through it from the corner with the tune; else null. */
        private Street passage(int corner, int street, long tune) {
            Street found = city.from(corner, street);
            return found != null && found.open(tune, now.night) ? found : null;
        }

        int countOpen() {
            int count = 0;
            for (int street = 0; street < city.size; street++) {
                if (passage(now.corner, street, now.carried) != null) {
                    count++;
                }
            }
            return count;
        }

        int nearest() {
            int best = NONE;
            int least = MOST_NOTES + 1;
            for (int street = 0; street < city.size; street++) {
                Street through = passage(now.corner, street, now.carried);
                if (through != null) {
                    int unlike = Tunes.unlike(through.carry(now.carried, now.tonic(street)), now.toldOf);
                    if (unlike < least) {
                        least = unlike;
                        best = street;
                    }
                }
            }
            return best;
        }

        /** How few streets; NONE: no way. wayStreet and wayEnd tell the rest then. */
        int findWay() {
            if (now.carried == now.toldOf) {
                wayEnd = now.corner;
                return 0;
            }
            // No street makes a tune longer or shorter.
            if (Tunes.length(now.carried) != Tunes.length(now.toldOf)) {
                return NONE;
            }
            for (int length = 1; length <= LONGEST_WAY; length++) {
                if (seekWay(now.carried, now.corner, 0, length)) {
                    return length;
                }
            }
            return NONE;
        }

        private boolean seekWay(long tune, int corner, int depth, int length) {
            if (depth < 0 || depth >= length || depth >= wayStreets.length) {
                return false;
            }
            boolean last = depth == length - 1;
            for (int street = 0; street < city.size; street++) {
                Street through = passage(corner, street, tune);
                if (through == null) {
                    continue;
                }
                int tonic = now.tonic(street);
                int end = through.across(corner);
                boolean found = last
                        ? through.makes(tune, tonic, now.toldOf)
                        : seekWay(through.carry(tune, tonic), end, depth + 1, length);
                if (found) {
                    wayStreets[depth] = street;
                    wayEnd = last ? end : wayEnd;
                    return true;
                }
            }
            return false;
        }

        int wayStreet(int manieth, int length) {
            return manieth >= 0 && manieth < length && manieth < wayStreets.length ? wayStreets[manieth] : NONE;
        }

        int tunesBehind(int streets) {
            met = 0;
            for (int slot = 0; slot < slots.length; slot++) {
                slots[slot] = NO_TUNE;
            }
            meetTunes(now.carried, now.corner, Math.min(streets, MOST_BECOME));
            return met;
        }

        private void meetTunes(long tune, int corner, int left) {
            if (left <= 0) {
                meet(tune);
                return;
            }
            for (int street = 0; street < city.size; street++) {
                Street through = passage(corner, street, tune);
                if (through != null) {
                    meetTunes(through.carry(tune, now.tonic(street)), through.across(corner), left - 1);
                }
            }
        }

        private void meet(long tune) {
            // A prime, so that each note of the tune tells in the slot.
            int slot = (int) (tune % 1021L);
            for (int tried = 0; tried < SLOTS; tried++) {
                if (slot < 0 || slot >= slots.length) {
                    slot = 0;
                }
                if (slots[slot] == tune) {
                    return;
                }
                if (slots[slot] == NO_TUNE) {
                    slots[slot] = tune;
                    met++;
                    return;
                }
                slot++;
            }
        }

        void wanderOff(int times, int seed) {
            long tune = now.carried;
            wanderHits = 0;
            wanderEnd = now.corner;
            wanderSeed = seed;
            for (int time = 0; time < times && time < MOST_TIMES; time++) {
                int street = drawStreet(wanderEnd);
                Street through = passage(wanderEnd, street, tune);
                if (through != null) {
                    tune = through.carry(tune, now.tonic(street));
                    wanderEnd = through.across(wanderEnd);
                }
                if (tune == now.toldOf) {
                    wanderHits++;
                }
            }
        }

        /** A street from the corner; NONE, and no draw, if there is none. */
        private int drawStreet(int corner) {
            int streets = city.countAt(corner);
            if (streets <= 0) {
                return NONE;
            }
            wanderSeed = (1103515245L * wanderSeed + 12345L) % TWO_TO_31;
            return city.numberAt(corner, (int) (wanderSeed / 65536L % streets));
        }
    }
}
