/** Each promise of the document by itself: ordinary inputs, the edges that it names, wrong inputs. */
public final class PromisesTest {
    private static final int NONE = -1, UNKNOWN = -101, OUTSIDE = -102, STATE = -103, FULL = -104;
    private static final int LOW = Integer.MIN_VALUE, HIGH = Integer.MAX_VALUE;
    /** Every kind once, tonic c, from corner 0 to 1; street 5 goes elsewhere; corner 3 has no street. */
    private static final String KINDS = "4;s01c,m01c,b01c,p01c,i01c,s12a";

    private static final Checks C = new Checks();

    public static void main(String[] args) {
        newObject();
        letter();
        blank();
        fault();
        city();
        tune();
        told();
        toldKey();
        street();
        streetAgain();
        streetTonicsAndAsk();
        as();
        comes();
        walk();
        walkByNight();
        walkFull();
        stand();
        dusk();
        sing();
        raise();
        way();
        become();
        apart();
        near();
        see();
        forget();
        wander();
        image();
        restore();
        count();
        digest();
        C.end("PromisesTest");
    }

    private static void newObject() {
        KeyStreets x = new KeyStreets();
        for (int what = 0; what <= 12; what++) C.due("1 count(" + what + ")", x.count(what), 0);
        C.due("1 told(0, 0)", x.told(0, 0), UNKNOWN);
        C.due("1 told(1, 0)", x.told(1, 0), UNKNOWN);
        C.due("1 street(0, 0)", x.street(0, 0), UNKNOWN);
        C.due("1 as(0, 0)", x.as(0, 0), UNKNOWN);
        C.due("1 comes(0, 0)", x.comes(0, 0), UNKNOWN);
        C.due("1 walk(0)", x.walk(0), UNKNOWN);
        C.due("1 stand(0)", x.stand(0), UNKNOWN);
        C.due("1 dusk()", x.dusk(), STATE);
        C.due("1 sing(0, 0, 0)", x.sing(0, 0, 0), UNKNOWN);
        C.due("1 raise(0, 0)", x.raise(0, 0), UNKNOWN);
        C.due("1 way(0)", x.way(0), STATE);
        C.due("1 become(0)", x.become(0), STATE);
        C.due("1 apart()", x.apart(), STATE);
        C.due("1 near()", x.near(), STATE);
        C.due("1 see(0, 0, 0)", x.see(0, 0, 0), UNKNOWN);
        C.due("1 forget()", x.forget(), 0);
        C.due("1 wander(1, 0, 0)", x.wander(1, 0, 0), STATE);
        C.due("1 image()", x.image(), STATE);
        C.due("1 restore()", x.restore(), STATE);
    }

    private static void letter() {
        KeyStreets x = new KeyStreets();
        C.due("2 letter(0)", x.letter(0), OUTSIDE);
        C.due("2 letter(127)", x.letter(127), OUTSIDE);
        C.due("2 letter(low)", x.letter(LOW), OUTSIDE);
        C.due("2 letter(high)", x.letter(HIGH), OUTSIDE);
        C.due("2 letter(1)", x.letter(1), 1);
        C.due("2 letter(126)", x.letter(126), 2);
        for (int i = 3; i <= 44; i++) C.due("2 letter " + i, x.letter('a'), i);
        C.due("2 letter 45", x.letter('a'), FULL);
        C.due("2 letter 45, wrong", x.letter(0), OUTSIDE);
        C.due("2 page", x.count(10), 44);
    }

    private static void blank() {
        KeyStreets x = new KeyStreets();
        C.due("3 blank, empty", x.blank(), 0);
        Checks.write(x, "abc");
        C.due("3 blank", x.blank(), 3);
        C.due("3 blank again", x.blank(), 0);
        C.due("3 letter behind blank", x.letter('d'), 1);
    }

    private static void dueFault(String text, int want) {
        KeyStreets x = new KeyStreets();
        Checks.write(x, text);
        C.due("4 fault of " + text, x.fault(), want);
        C.due("4 page stays", x.count(10), text.length());
    }

    private static void fault() {
        dueFault("", 0);
        dueFault("1", 0);
        dueFault("6", 0);
        dueFault("2", 1);
        dueFault("5", 1);
        dueFault("2,", 1);
        dueFault("2;", 2);
        dueFault("2;x", 2);
        dueFault("2;s", 3);
        dueFault("2;s2", 3);
        dueFault("3;s2", 4);
        dueFault("2;s00", 4);
        dueFault("2;s02", 4);
        dueFault("2;s10", 5);
        dueFault("2;s10m", 5);
        dueFault("2;s10l", 6);
        dueFault("2;s10l;", 6);
        dueFault("2;s10l,", 7);
        dueFault("2;s10l,,", 7);
        dueFault("2;s10l,b01a", 11);
        dueFault("2;s10l,b01aa", 11);
        String eight = "2;s01a,m01b,b01c,p01d,i01e,s10f,s10g,s10h";
        dueFault(eight, 41);
        dueFault(eight + ",", 41);
        dueFault(eight + "xyz", 41);
    }

    private static void dueCity(String text, int want) {
        KeyStreets x = new KeyStreets();
        Checks.write(x, text);
        C.due("5 city of " + text, x.city(), want);
        C.due("5 page behind " + text, x.count(10), want < 0 ? text.length() : 0);
        C.due("5 streets behind " + text, x.count(1), Math.max(want, 0));
        C.due("5 reads behind " + text, x.count(11), want < 0 ? 0 : 1);
    }

    private static void city() {
        dueCity("", STATE);
        dueCity("2;", STATE);
        dueCity("2;s01a", STATE);
        dueCity("2;s01a,", STATE);
        dueCity("2;s01a,m10", STATE);
        dueCity("2;s01a,m10l", 2);
        dueCity("2;s01a,m10l,", STATE);
        dueCity("2;s01a,m11l", STATE);
        dueCity("5;s43a,m40l,i34f", 3);
        dueCity("2;s01a,m01b,b01c,p01d,i01e,s10f,s10g,s10h", 8);
        dueCity("2;s01a,m01b,b01c,p01d,i01e,s10f,s10g,s10h,", STATE);

        KeyStreets x = Checks.withTunes(KINDS, "ab", "cd");
        x.walk(0);
        x.see(0, 1, 2);
        x.dusk();
        x.image();
        Checks.write(x, "2;s01f");
        C.due("5 no city", x.city(), STATE);
        C.due("5 the city stays", x.count(1), 6);
        Checks.write(x, ",b10g,s01a");
        C.due("5 another city", x.city(), 3);
        C.due("5 corners", x.count(0), 2);
        C.due("5 corner", x.count(2), 0);
        C.due("5 day", x.count(3), 0);
        C.due("5 walked", x.count(6), 0);
        C.due("5 walked street 0", x.street(0, 8), 0);
        C.due("5 tonic", x.street(0, 3), 5);
        C.due("5 seen", x.count(9), 0);
        C.due("5 reads", x.count(11), 2);
        C.due("5 street 3 is gone", x.street(3, 0), UNKNOWN);
        C.due("5 no image of it", x.restore(), STATE);
        C.dueTune("5 tune 0 stays", x, 0, "cd");
        C.dueTune("5 tune 1 stays", x, 1, "cd");
    }

    private static void tune() {
        KeyStreets x = new KeyStreets();
        C.due("6 empty page", x.tune(0), STATE);
        C.due("6 which, and empty page", x.tune(2), UNKNOWN);
        Checks.write(x, "ablm");
        C.due("6 m is none", x.tune(0), STATE);
        C.due("6 page stays", x.blank(), 4);
        Checks.write(x, "abcdefghi");
        C.due("6 nine notes", x.tune(1), STATE);
        x.blank();
        Checks.write(x, "abcdefgh");
        C.due("6 which -1", x.tune(-1), UNKNOWN);
        C.due("6 which low", x.tune(LOW), UNKNOWN);
        C.due("6 eight notes", x.tune(1), 8);
        C.due("6 page is empty", x.count(10), 0);
        C.due("6 there is no tune 0", x.count(7), 0);
        C.due("6 notes of tune 1", x.count(8), 8);
        Checks.write(x, "l");
        C.due("6 another one", x.tune(1), 1);
        C.dueTune("6 another one", x, 1, "l");
        Checks.write(x, "A");
        C.due("6 capital", x.tune(0), STATE);
    }

    private static void told() {
        KeyStreets x = Checks.withTunes(KINDS, "agagbbhe", "");
        C.due("7 notes", x.told(0, 0), 8);
        C.due("7 tritones ag ga ag bh", x.told(0, 1), 4);
        C.due("7 bits", x.told(0, 4), 1 + 2 + 16 + 64 + 128);
        C.due("7 first", x.told(0, 10), 0);
        C.due("7 last", x.told(0, 17), 4);
        for (int what : new int[] {5, 9, 18, -1, LOW, HIGH}) C.due("7 what " + what, x.told(0, what), OUTSIDE);
        C.due("7 no tune 1", x.told(1, 0), UNKNOWN);
        C.due("7 no tune 1, what", x.told(1, 5), UNKNOWN);
        C.due("7 which", x.told(2, 0), UNKNOWN);
        C.due("7 which", x.told(LOW, HIGH), UNKNOWN);
        Checks.readTune(x, 1, "l");
        C.due("7 one note", x.told(1, 0), 1);
        C.due("7 its note", x.told(1, 10), 11);
        C.due("7 no second", x.told(1, 11), NONE);
        C.due("7 no eighth", x.told(1, 17), NONE);
        C.due("7 no tritone", x.told(1, 1), 0);
    }

    private static void dueKey(String tune, int key, int has) {
        KeyStreets x = new KeyStreets();
        Checks.readTune(x, 1, tune);
        C.due("7 key of " + tune, x.told(1, 2), key);
        C.due("7 it has of " + tune, x.told(1, 3), has);
    }

    private static void toldKey() {
        dueKey("a", 0, 1);
        dueKey("b", 1, 1);
        dueKey("acefhjl", 0, 7);
        // The notes of a minor key are those of the major one three above it, which is less.
        dueKey("acdfhik", 3, 7);
        dueKey("ljigecb", 9, 7);
        // Of a, b, c, d no key has all; one with three of them; the least that has so many.
        dueKey("abcd", 1, 3);
        dueKey("be", 2, 2);
        // Each note as often as it comes: a major has but a and c, b major all but c.
        dueKey("abcbbb", 1, 5);
    }

    private static void street() {
        KeyStreets x = Checks.inCity("5;s43l,m01c,b20g,p12a,i34a");
        int[][] due = {{0, 4, 3, 11}, {1, 0, 1, 2}, {2, 2, 0, 6}, {3, 1, 2, 0}, {4, 3, 4, 0}};
        for (int s = 0; s < due.length; s++) {
            for (int what = 0; what < 4; what++) C.due("8 street(" + s + ", " + what + ")", x.street(s, what), due[s][what]);
            C.due("8 again, no tune", x.street(s, 5), NONE);
            C.due("8 walked", x.street(s, 8), 0);
        }
        C.due("8 leaves, s l", x.street(0, 4), 0);
        // Degrees 4, 9, 11 above c are g, l, b.
        C.due("8 leaves, m c", x.street(1, 4), 4095 - (1 << 6) - (1 << 11) - (1 << 1));
        C.due("8 leaves, b g", x.street(2, 4), (1 << 3) + (1 << 9));
        C.due("8 leaves, p", x.street(3, 4), 4095);
        // Alone a note is the last one: degree 4 comes back, degree 3 goes up.
        C.due("8 leaves, i a", x.street(4, 4), 4095 - (1 << 3) - (1 << 9) - (1 << 11));
        x.raise(0, 0);
        C.due("8 leaves, s a", x.street(0, 4), 4095);
        x.raise(2, 7);
        C.due("8 leaves, b h", x.street(2, 4), 0);
        for (int what : new int[] {9, -1, LOW, HIGH}) C.due("8 what " + what, x.street(0, what), OUTSIDE);
        for (int s : new int[] {5, -1, LOW, HIGH}) C.due("8 street " + s, x.street(s, 99), UNKNOWN);
        Checks.readTune(x, 0, "abc");
        x.stand(1);
        x.walk(1);
        x.walk(1);
        C.due("8 walked twice", x.street(1, 8), 2);
        C.due("8 walked never", x.street(2, 8), 0);
    }

    private static void dueAgain(String street, String tune, int want) {
        KeyStreets x = Checks.withTunes("2;" + street + ",s01a", tune, "");
        C.due("8 again of " + tune + " by " + street, x.street(0, 5), want);
        x.dusk();
        C.due("8 again of " + tune + " by " + street + " at night", x.street(0, 5), want);
        C.dueTune("8 again changes nothing", x, 0, tune);
    }

    private static void streetAgain() {
        dueAgain("s01a", "abc", 1);
        dueAgain("s01b", "abc", 12);
        dueAgain("s01d", "abc", 4);
        dueAgain("s01l", "a", 12);
        dueAgain("b01g", "ag", 2);
        dueAgain("b01a", "ag", 1);
        dueAgain("p01g", "aaaa", 1);
        dueAgain("p01g", "aaab", NONE);
        dueAgain("m01a", "acdfhik", 1);
        dueAgain("m01a", "ae", NONE);
        dueAgain("i01a", "ae", 1);
        dueAgain("i01a", "ea", NONE);
    }

    private static void streetTonicsAndAsk() {
        KeyStreets x = Checks.inCity(KINDS);
        for (int s = 0; s < 6; s++) C.due("8 tonics, nothing seen", x.street(s, 6), 4095);
        C.due("8 ask, s: each note tells all", x.street(0, 7), 0);
        C.due("8 ask, b: each note tells all", x.street(2, 7), 0);
        C.due("8 ask, p: no note tells anything", x.street(3, 7), 0);
        x.see(1, 4, 3);
        // e came out as d: e has degree 4, 9 or 11, so it begins from a, h or f.
        C.due("8 tonics, m", x.street(1, 6), (1 << 0) + (1 << 7) + (1 << 5));
        C.due("8 tonics of another one", x.street(4, 6), 4095);
        // None of these lowers a or b; f lowers c (degree 9), so that two are left at worst.
        C.due("8 ask, m", x.street(1, 7), 2);
        x.see(1, 4, 4);
        C.due("8 tonics, none", x.street(1, 6), 0);
        C.due("8 ask, none", x.street(1, 7), NONE);
        x.forget();
        x.see(4, 3, 4);
        // Only a note of degree 3 comes out higher.
        C.due("8 tonics, i", x.street(4, 6), 1);
        C.due("8 ask, one tonic", x.street(4, 7), 0);
        x.see(3, 5, 5);
        C.due("8 tonics, p", x.street(3, 6), 4095);
        x.see(3, 5, 6);
        C.due("8 tonics, p, not so", x.street(3, 6), 0);
    }

    private static void as() {
        KeyStreets x = Checks.inCity(KINDS);
        int[][] due = {{0, NONE, NONE, NONE, NONE}, {1, 1, NONE, NONE, NONE}, {2, NONE, 2, NONE, NONE},
            {3, NONE, NONE, 3, NONE}, {4, 4, NONE, NONE, 4}, {5, NONE, NONE, NONE, NONE}};
        for (int s = 0; s < due.length; s++) {
            for (int k = 0; k < 5; k++) C.due("9 as(" + s + ", " + k + ")", x.as(s, k), due[s][k]);
        }
        for (int k : new int[] {5, -1, LOW, HIGH}) C.due("9 kind " + k, x.as(0, k), OUTSIDE);
        for (int s : new int[] {6, -1, LOW, HIGH}) C.due("9 street " + s, x.as(s, 5), UNKNOWN);
    }

    private static void comes() {
        KeyStreets x = Checks.inCity(KINDS);
        // By the notes a to l, tonic c.
        String[] due = {"cdefghijklab", "aacdeffhijkk", "cbalkjihgfed", "abcdefghijkl", "aacdegghijkk"};
        for (int s = 0; s < due.length; s++) {
            for (int n = 0; n < 12; n++) C.due("10 comes(" + s + ", " + n + ")", x.comes(s, n), due[s].charAt(n) - 'a');
        }
        for (int n : new int[] {12, -1, LOW, HIGH}) C.due("10 note " + n, x.comes(0, n), OUTSIDE);
        for (int s : new int[] {6, -1, LOW, HIGH}) C.due("10 street " + s, x.comes(s, 12), UNKNOWN);
    }

    private static void dueWalk(int street, String tune, String want) {
        KeyStreets x = Checks.withTunes(KINDS, tune, "");
        C.due("11 walk(" + street + ")", x.walk(street), 1);
        C.dueTune("11 " + tune + " through " + street, x, 0, want);
    }

    private static void walk() {
        dueWalk(0, "akl", "cab");
        dueWalk(1, "cglbf", "cfkaf");
        dueWalk(2, "acbl", "cabd");
        dueWalk(3, "gab", "ggg");
        dueWalk(4, "ggf", "ffg");
        dueWalk(4, "ffg", "ffg");
        dueWalk(4, "gl", "fk");
        dueWalk(4, "g", "g");
        KeyStreets x = Checks.inCity(KINDS);
        C.due("11 no tune", x.walk(0), STATE);
        C.due("11 no tune, no street", x.walk(6), UNKNOWN);
        Checks.readTune(x, 0, "a");
        C.due("11 it does not end here", x.walk(5), STATE);
        for (int s : new int[] {6, -1, LOW, HIGH}) C.due("11 street " + s, x.walk(s), UNKNOWN);
        C.due("11 nothing was walked", x.count(6), 0);
        C.due("11 there", x.walk(0), 1);
        C.due("11 back", x.walk(0), 0);
        C.due("11 there again", x.walk(1), 1);
        C.due("11 on", x.walk(5), 2);
        C.due("11 walked", x.count(6), 4);
        C.dueTune("11 a up to c, to e, down to e", x, 0, "e");
    }

    private static void walkByNight() {
        KeyStreets x = Checks.withTunes(KINDS, "ag", "");
        x.dusk();
        C.due("11 bridge by night", x.walk(2), STATE);
        C.due("11 one is where one was", x.count(2), 0);
        C.due("11 nothing was walked", x.count(6), 0);
        C.dueTune("11 the tune is as it was", x, 0, "ag");
        C.due("11 another one by night", x.walk(0), 1);
        x.dusk();
        C.due("11 bridge by day", x.walk(2), 0);
        x.dusk();
        x.sing(0, 0, 1);
        x.sing(0, 1, 2);
        C.due("11 bridge by night, no tritone", x.walk(2), 1);
    }

    private static void walkFull() {
        KeyStreets x = Checks.withTunes("2;s01b,s01b", "a", "");
        for (int i = 1; i <= 999; i++) C.due("11 walk " + i, x.walk(i % 2), i % 2);
        C.due("11 999 were walked", x.walk(0), FULL);
        C.due("11 999 were walked, street", x.walk(2), UNKNOWN);
        C.due("11 walked", x.count(6), 999);
    }

    private static void stand() {
        KeyStreets x = Checks.withTunes(KINDS, "a", "");
        C.due("12 stand(3)", x.stand(3), 0);
        C.due("12 stand(1)", x.stand(1), 3);
        C.due("12 the same", x.stand(1), 1);
        C.due("12 stand(0)", x.stand(0), 1);
        C.due("12 back", x.stand(1), 0);
        for (int c : new int[] {4, -1, LOW, HIGH}) C.due("12 corner " + c, x.stand(c), UNKNOWN);
        C.due("12 corner", x.count(2), 1);
        C.due("12 nothing was walked", x.count(6), 0);
        C.dueTune("12 nothing was carried", x, 0, "a");
    }

    private static void dusk() {
        KeyStreets x = new KeyStreets();
        C.due("13 no city", x.dusk(), STATE);
        C.due("13 day", x.count(3), 0);
        x = Checks.inCity(KINDS);
        C.due("13 night", x.dusk(), 1);
        C.due("13 it is night", x.count(3), 1);
        C.due("13 day", x.dusk(), 0);
        C.due("13 it is day", x.count(3), 0);
    }

    private static void sing() {
        KeyStreets x = Checks.withTunes(KINDS, "abc", "l");
        C.due("14 sing", x.sing(0, 1, 11), 1);
        C.due("14 sing last", x.sing(0, 2, 0), 2);
        C.due("14 sing other", x.sing(1, 0, 6), 11);
        C.dueTune("14 tune 0", x, 0, "ala");
        C.dueTune("14 tune 1", x, 1, "g");
        for (int p : new int[] {3, 8, -1, LOW, HIGH}) C.due("14 place " + p, x.sing(0, p, 12), UNKNOWN);
        for (int w : new int[] {2, -1, LOW, HIGH}) C.due("14 which " + w, x.sing(w, 0, 0), UNKNOWN);
        for (int n : new int[] {12, -1, LOW, HIGH}) C.due("14 note " + n, x.sing(0, 0, n), OUTSIDE);
        C.due("14 place 1 of tune 1", x.sing(1, 1, 0), UNKNOWN);
        C.dueTune("14 refusals change nothing", x, 0, "ala");
    }

    private static void raise() {
        KeyStreets x = Checks.inCity(KINDS);
        C.due("15 raise", x.raise(0, 11), 2);
        C.due("15 raise again", x.raise(0, 0), 11);
        C.due("15 the other", x.street(1, 3), 2);
        for (int t : new int[] {12, -1, LOW, HIGH}) C.due("15 tonic " + t, x.raise(0, t), OUTSIDE);
        for (int s : new int[] {6, -1, LOW, HIGH}) C.due("15 street " + s, x.raise(s, 12), UNKNOWN);
        C.due("15 tonic", x.street(0, 3), 0);
        C.due("15 comes", x.comes(0, 5), 5);
    }

    private static void way() {
        // From a by 2 or 3 up: 5 up needs both, at least.
        KeyStreets x = Checks.withTunes("3;s01c,s12d,s02d,s02d", "ab", "fg");
        C.due("16 how few", x.way(0), 2);
        C.due("16 at which corner", x.way(1), 2);
        C.due("16 first", x.way(10), 0);
        C.due("16 second", x.way(11), 1);
        C.due("16 no third", x.way(12), NONE);
        C.due("16 no fifth", x.way(14), NONE);
        for (int what : new int[] {2, 9, 15, -1, LOW, HIGH}) C.due("16 what " + what, x.way(what), OUTSIDE);
        C.due("16 done", x.count(12), 6);
        Checks.readTune(x, 1, "ab");
        C.due("16 none is needed", x.way(0), 0);
        C.due("16 one stays", x.way(1), 0);
        C.due("16 no first", x.way(10), NONE);
        Checks.readTune(x, 1, "abc");
        C.due("16 another length", x.way(0), NONE);
        C.due("16 another length, corner", x.way(1), NONE);
        C.due("16 done", x.count(12), 11);
        for (int i = 0; i < 5; i++) C.due("16 to the sixteenth", x.way(0), NONE);
        C.due("16 the seventeenth", x.way(0), STATE);
        C.due("16 the seventeenth, what", x.way(2), OUTSIDE);
        C.due("16 done", x.count(12), 16);
        Checks.write(x, "2;s01a,s01a");
        x.city();
        C.due("16 in another city", x.way(0), STATE);

        x = Checks.withTunes("2;s01b,s01b", "a", "f");
        C.due("16 five", x.way(0), 5);
        C.due("16 five, corner", x.way(1), 1);
        C.due("16 five, fifth", x.way(14), 0);
        x.sing(1, 0, 6);
        C.due("16 six are too many", x.way(0), NONE);
        C.due("16 six are too many, street", x.way(10), NONE);
        C.due("16 nothing is walked", x.count(6), 0);
        wayByNight();
        C.due("16 no tune 1", Checks.withTunes(KINDS, "a", "").way(0), STATE);
        C.due("16 no tune 0", Checks.withTunes(KINDS, "", "a").way(0), STATE);
    }

    private static void wayByNight() {
        // By day over the bridge at once; by night only where no tritone is, by police first.
        KeyStreets x = Checks.withTunes("2;b01g,p01a", "ag", "ga");
        C.due("16 by day", x.way(0), 1);
        x.dusk();
        C.due("16 by night", x.way(0), NONE);
        Checks.readTune(x, 1, "gg");
        C.due("16 police first", x.way(0), 2);
        C.due("16 police first", x.way(10), 1);
        C.due("16 bridge then", x.way(11), 0);
    }

    private static void become() {
        KeyStreets x = Checks.withTunes("3;s01c,s12d,s02d,s02d", "ab", "");
        C.due("17 none", x.become(0), 1);
        C.due("17 one: by 2 or by 3", x.become(1), 2);
        // 0-1-0: 4, 0-1-2: 5, 0-2-0: 6, 0-2-1: 6
        C.due("17 two: by 4, 5, 6", x.become(2), 3);
        // from 0 (4, 6): 6, 7, 8, 9; from 2 (5): 8, 8; from 1 (6): 8, 9
        C.due("17 three: by 6, 7, 8, 9", x.become(3), 4);
        for (int n : new int[] {4, -1, LOW, HIGH}) C.due("17 streets " + n, x.become(n), OUTSIDE);
        C.due("17 no tune 0", Checks.withTunes("2;s01a,s01a", "", "a").become(1), STATE);
        C.due("17 no tune 0, streets", Checks.withTunes("2;s01a,s01a", "", "a").become(4), OUTSIDE);
        KeyStreets alone = Checks.withTunes(KINDS, "a", "");
        alone.stand(3);
        C.due("17 no street, none", alone.become(0), 1);
        C.due("17 no street, one", alone.become(1), 0);
        KeyStreets night = Checks.withTunes("2;b01a,s01b", "ag", "");
        C.due("17 by day", night.become(1), 2);
        night.dusk();
        C.due("17 by night", night.become(1), 1);
        C.due("17 by night, three", night.become(3), 1);
    }

    private static void dueApart(String tune, String other, int want) {
        KeyStreets x = new KeyStreets();
        Checks.readTune(x, 0, tune);
        C.due("18 no tune 1", x.apart(), STATE);
        Checks.readTune(x, 1, other);
        C.due("18 " + tune + " and " + other, x.apart(), want);
    }

    private static void apart() {
        dueApart("a", "a", 0);
        dueApart("a", "l", 1);
        dueApart("abc", "acb", 2);
        dueApart("abc", "abcdefgh", 5);
        dueApart("bbcdefgh", "a", 8);
        KeyStreets x = new KeyStreets();
        Checks.readTune(x, 1, "a");
        C.due("18 no tune 0", x.apart(), STATE);
    }

    private static void near() {
        KeyStreets x = Checks.withTunes("3;s12a,s01b,m01a,b01c,s10b", "ace", "bde");
        // b: bdf, 1 apart; minor: acd, 3; bridge: c, a, k, 3; 4 is as 1.
        C.due("19 near", x.near(), 1);
        x.stand(2);
        C.due("19 from another corner", x.near(), 0);
        KeyStreets alone = Checks.withTunes(KINDS, "a", "b");
        alone.stand(3);
        C.due("19 no street", alone.near(), NONE);
        KeyStreets night = Checks.withTunes("2;b01g,s01b", "ag", "ga");
        C.due("19 by day", night.near(), 0);
        night.dusk();
        C.due("19 by night", night.near(), 1);
        KeyStreets closed = Checks.withTunes("2;b01g,b01b", "ag", "ga");
        closed.dusk();
        C.due("19 one can go nowhere", closed.near(), NONE);
        C.due("19 no tune 1", Checks.withTunes(KINDS, "a", "").near(), STATE);
        C.due("19 no tune 0", Checks.withTunes(KINDS, "", "a").near(), STATE);
        KeyStreets none = new KeyStreets();
        Checks.readTune(none, 0, "a");
        Checks.readTune(none, 1, "a");
        C.due("19 no city", none.near(), STATE);
    }

    private static void see() {
        KeyStreets x = Checks.inCity(KINDS);
        for (int n : new int[] {12, -1, LOW, HIGH}) {
            C.due("20 note " + n, x.see(0, n, 0), OUTSIDE);
            C.due("20 out " + n, x.see(0, 0, n), OUTSIDE);
        }
        for (int s : new int[] {6, -1, LOW, HIGH}) C.due("20 street " + s, x.see(s, 12, 12), UNKNOWN);
        for (int i = 1; i <= 6; i++) C.due("20 see", x.see(5, i, 11), i);
        C.due("20 the seventh", x.see(0, 0, 0), FULL);
        C.due("20 the seventh, note", x.see(0, 12, 0), OUTSIDE);
        C.due("20 seen", x.count(9), 6);
    }

    private static void forget() {
        KeyStreets x = Checks.inCity(KINDS);
        C.due("21 nothing", x.forget(), 0);
        x.see(0, 0, 1);
        x.see(0, 0, 2);
        C.due("21 tonics", x.street(0, 6), 0);
        C.due("21 forget", x.forget(), 2);
        C.due("21 forget again", x.forget(), 0);
        C.due("21 tonics", x.street(0, 6), 4095);
        C.due("21 see", x.see(0, 0, 1), 1);
    }

    private static void wander() {
        // Seed 1 gives 1103527590; by 65536 that is 16838.
        KeyStreets x = Checks.withTunes("3;s01b,s02c", "a", "b");
        C.due("22 seed", x.wander(1, 1, 2), 1103527590);
        C.due("22 16838 is even: street 0", x.wander(1, 1, 1), 1);
        C.due("22 it is b there", x.wander(1, 1, 0), 1);
        C.due("22 back: one street only", x.wander(2, 1, 1), 0);
        C.due("22 it is c there", x.wander(2, 1, 0), 1);
        C.due("22 nothing is walked", x.count(6), 0);
        C.dueTune("22 nothing is carried", x, 0, "a");
        for (int t : new int[] {0, 61, -1, LOW, HIGH}) C.due("22 times " + t, x.wander(t, 1, 0), OUTSIDE);
        for (int s : new int[] {-1, LOW}) C.due("22 seed " + s, x.wander(1, s, 0), OUTSIDE);
        for (int w : new int[] {3, -1, LOW, HIGH}) C.due("22 what " + w, x.wander(1, 1, w), OUTSIDE);
        C.due("22 seed 0", x.wander(1, 0, 2), 12345);
        C.due("22 sixty are well", x.wander(60, HIGH, 0) >= 0 ? 1 : 0, 1);
        wanderByDraws();
        KeyStreets alone = Checks.withTunes(KINDS, "a", "a");
        alone.stand(3);
        C.due("22 no street: one stays", alone.wander(7, 5, 1), 3);
        C.due("22 no street: no draw", alone.wander(7, 5, 2), 5);
        C.due("22 no street: it is so each time", alone.wander(7, 5, 0), 7);
        KeyStreets closed = Checks.withTunes("2;b01a,b01a", "ag", "ag");
        closed.dusk();
        C.due("22 closed: one stays", closed.wander(3, 5, 1), 0);
        C.due("22 closed: with a draw", closed.wander(1, 0, 2), 12345);
        C.due("22 closed: it is so each time", closed.wander(3, 5, 0), 3);
        C.due("22 no tune 1", Checks.withTunes(KINDS, "a", "").wander(1, 1, 0), STATE);
        C.due("22 no tune 0", Checks.withTunes(KINDS, "", "a").wander(1, 1, 0), STATE);
        C.due("22 no tune 0, times", Checks.withTunes(KINDS, "", "a").wander(0, 1, 0), OUTSIDE);
    }

    /** Seed 1 draws 16838, 5758, 10113, 17515: of three the streets 2, 1, 0, 1. */
    private static void wanderByDraws() {
        String tunes = "hklc";
        for (int hit = 0; hit < 4; hit++) {
            KeyStreets x = Checks.withTunes("2;s01b,s10d,s01h", "a", tunes.substring(hit, hit + 1));
            for (int times = 1; times <= 4; times++) {
                C.due("22 hits of " + times, x.wander(times, 1, 0), hit < times ? 1 : 0);
                C.due("22 corner of " + times, x.wander(times, 1, 1), times % 2);
            }
        }
    }

    private static void image() {
        KeyStreets x = new KeyStreets();
        C.due("23 no city", x.image(), STATE);
        x = Checks.withTunes(KINDS, "a", "b");
        C.due("23 image", x.image(), 0);
        x.walk(0);
        C.due("23 image", x.image(), 1);
        x.walk(0);
        C.due("23 the latest", x.restore(), 1);
        C.due("23 its corner", x.count(2), 1);
    }

    private static void restore() {
        KeyStreets x = Checks.withTunes(KINDS, "a", "");
        C.due("24 none was kept", x.restore(), STATE);
        x.walk(0);
        x.see(0, 0, 2);
        x.raise(1, 5);
        x.image();
        x.walk(0);
        x.walk(1);
        x.dusk();
        x.raise(1, 6);
        x.forget();
        x.see(1, 1, 1);
        x.see(1, 1, 1);
        Checks.readTune(x, 0, "fgh");
        Checks.readTune(x, 1, "ijk");
        Checks.write(x, "xy");
        x.way(0);
        C.due("24 restore", x.restore(), 1);
        C.due("24 walked", x.count(6), 1);
        C.due("24 walked 0", x.street(0, 8), 1);
        C.due("24 walked 1", x.street(1, 8), 0);
        C.due("24 corner", x.count(2), 1);
        C.due("24 day", x.count(3), 0);
        C.due("24 tonic", x.street(1, 3), 5);
        C.due("24 seen", x.count(9), 1);
        C.due("24 tonics 0", x.street(0, 6), 4);
        C.due("24 tonics 1", x.street(1, 6), 4095);
        C.dueTune("24 tune 0", x, 0, "c");
        C.due("24 there was no tune 1", x.count(8), 0);
        C.due("24 the page stays", x.count(10), 2);
        C.due("24 ways stay", x.count(12), 1);
        x.walk(0);
        C.due("24 once more", x.restore(), 1);
        x.blank();
        Checks.write(x, KINDS);
        x.city();
        C.due("24 another city", x.restore(), STATE);
        C.due("24 its image", x.image(), 0);
        C.due("24 its image", x.restore(), 0);
    }

    private static void count() {
        KeyStreets x = Checks.withTunes("4;b01a,s12a,b02a,s10a,s23a", "ag", "abc");
        x.dusk();
        x.walk(3);
        x.walk(3);
        x.see(0, 0, 0);
        Checks.write(x, "abcde");
        x.way(0);
        x.way(0);
        int[] due = {4, 5, 0, 1, 3, 1, 2, 2, 3, 1, 5, 1, 2};
        for (int what = 0; what < due.length; what++) C.due("25 count(" + what + ")", x.count(what), due[what]);
        x.dusk();
        C.due("25 open by day", x.count(5), 3);
        C.due("25 day", x.count(3), 0);
        for (int what : new int[] {13, -1, LOW, HIGH}) C.due("25 what " + what, x.count(what), OUTSIDE);
        KeyStreets none = Checks.withTunes(KINDS, "", "a");
        C.due("25 that end here", none.count(4), 5);
        C.due("25 no tune: none is open", none.count(5), 0);
    }

    private static long mixAll(long h, int... numbers) {
        long mixed = h;
        for (int n : numbers) mixed = 31 * mixed + n;
        return mixed;
    }

    private static void digest() {
        KeyStreets x = new KeyStreets();
        int[] nothing = new int[13];
        C.due("26 new", x.digest(), mixAll(1187, nothing));
        Checks.write(x, "~a");
        int[] letters = new int[13];
        letters[10] = 2;
        C.due("26 letters", x.digest(), mixAll(mixAll(1187, 126, 97), letters));
        x.blank();
        Checks.readTune(x, 1, "al");
        long h = mixAll(1187, 2, 0, 0, 2, 2049, 0, 11, -1, -1, -1, -1, -1, -1);
        C.due("26 a tune", x.digest(), mixAll(h, 0, 0, 0, 0, 0, 0, 0, 0, 2, 0, 0, 0, 0));
        Checks.readTune(x, 0, "b");
        long both = mixAll(1187, 1, 0, 1, 1, 2, 1, -1, -1, -1, -1, -1, -1, -1);
        both = mixAll(both, 2, 0, 0, 2, 2049, 0, 11, -1, -1, -1, -1, -1, -1);
        C.due("26 both, no city", x.digest(), mixAll(both, 0, 0, 0, 0, 0, 0, 0, 1, 2, 0, 0, 0, 0));
        Checks.write(x, "3;b01a,p12l");
        x.city();
        long city = mixAll(1187, 2, 0, 1, 0, 65, 2, 4095, 0, 0, 0, 11, 10, 9, 8, 7, 6, 5, 4, 3, 2, 1);
        city = mixAll(city, 3, 1, 2, 11, 4095, 1, 4095, 0, 0, 0, 1, 2, 3, 4, 5, 6, 7, 8, 9, 10, 11);
        city = mixAll(city, 1, 0, 1, 1, 2, 1, -1, -1, -1, -1, -1, -1, -1);
        city = mixAll(city, 2, 0, 0, 2, 2049, 0, 11, -1, -1, -1, -1, -1, -1);
        // b over the bridge is l; then by the bridge b, by police l: two tunes.
        city = mixAll(city, 2, 0);
        C.due("26 a city", x.digest(), mixAll(city, 3, 2, 0, 0, 1, 1, 0, 1, 2, 0, 0, 1, 0));
        C.due("26 it changes nothing", x.digest(), mixAll(city, 3, 2, 0, 0, 1, 1, 0, 1, 2, 0, 0, 1, 0));
    }
}
