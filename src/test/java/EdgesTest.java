import java.util.HashSet;
import java.util.Set;

/** Each sentence of the document that names a boundary has a test of its own here, in the document's order. */
public final class EdgesTest {
    private static final int NONE = -1, UNKNOWN = -101, OUTSIDE = -102, STATE = -103, FULL = -104;
    private static final int LOW = Integer.MIN_VALUE, HIGH = Integer.MAX_VALUE;
    /** The longest text that is a city: 41 letters, all kinds, eight streets, five corners. */
    private static final String LONGEST = "5;s01a,m12l,b23b,p34k,i40c,s04j,m30d,i21i";
    private static final String SHORTEST = "2;s01a,m10l";

    private static final Checks C = new Checks();

    public static void main(String[] args) {
        termsNotesGoRound();
        termsDegrees();
        termsTunesOfOneToEight();
        termsCityLetters();
        termsCityOfTwoToEightStreets();
        termsFirstCornerAndDay();
        termsPicardyLastNote();
        termsTritones();
        termsNightAndBridges();
        letterCodes();
        letterFullPage();
        blankEmptyAndFull();
        faultEmptyAndFull();
        cityAnother();
        tuneAnother();
        toldPlaces();
        toldKeysGoRound();
        streetFirstAndLast();
        streetLeavesNoneAndAll();
        streetAgainOnceAndNever();
        streetTonicsAllOneNone();
        streetAskOfTwoTonics();
        walkFull();
        standFirstAndLast();
        singFirstAndLast();
        raiseLeastAndGreatest();
        wayOfNoneToFive();
        wayFirstByNumbers();
        waySixteenTimes();
        becomeNoneToThree();
        becomeOneOfEachTune();
        becomeMost();
        apartNoneToEight();
        nearLikeOnesAndNone();
        seeSix();
        wanderTimesAndSeeds();
        wanderStays();
        wanderInOrder();
        imageKeeps();
        imageDoesNotKeep();
        imageLatest();
        restoreAnotherCity();
        countLeastAndMost();
        digestParts();
        C.end("EdgesTest");
    }

    private static String shifted(String notes, int by) {
        StringBuilder out = new StringBuilder();
        for (char c : notes.toCharArray()) out.append((char) ('a' + (c - 'a' + by) % 12));
        return out.toString();
    }

    private static void dueThrough(String street, String tune, String want) {
        KeyStreets x = Checks.withTunes("2;" + street + ",s01a", tune, "");
        C.due("walk through " + street, x.walk(0), 1);
        C.dueTune(tune + " through " + street, x, 0, want);
    }

    // ---- Terms

    /** "one above the other, and a above l again" */
    private static void termsNotesGoRound() {
        dueThrough("s01b", "kla", "lab");
        dueThrough("s01l", "abl", "lak");
        // a has degree 4 above i, 9 above d, 11 above b.
        dueThrough("m01i", "a", "l");
        dueThrough("m01d", "a", "l");
        dueThrough("m01b", "a", "l");
        dueThrough("b01a", "abl", "alb");
        dueThrough("b01l", "abl", "lka");
        // l has degree 3 above i: the last one is a then.
        dueThrough("i01i", "ll", "la");
        dueThrough("i01i", "aa", "la");
        dueThrough("i01d", "aa", "ll");
    }

    /** "each NOTE of DEGREE 4, 9 or 11 is 1 lower": no other one, from whichever tonic. */
    private static void termsDegrees() {
        KeyStreets x = Checks.inCity("2;s01a,m01a,b01a,p01a,i01a");
        String[] byDegree = {null, "abcddfghiikk", null, null, "abceefghiikk"};
        for (int t = 0; t < 12; t++) {
            if (t == 6) x = Checks.inCity("2;s01a,m01a,b01a,p01a,i01a");
            for (int s = 0; s < 5; s++) x.raise(s, t);
            for (int n = 0; n < 12; n++) {
                int degree = (n - t + 12) % 12;
                String call = "comes of " + n + " from " + t;
                C.due("s " + call, x.comes(0, n), (n + t) % 12);
                C.due("m " + call, x.comes(1, n), (byDegree[1].charAt(degree) - 'a' + t) % 12);
                C.due("b " + call, x.comes(2, n), (t - n + 12) % 12);
                C.due("p " + call, x.comes(3, n), n);
                C.due("i " + call, x.comes(4, n), (byDegree[4].charAt(degree) - 'a' + t) % 12);
            }
        }
    }

    private static void dueRead(String page, int want) {
        for (int which = 0; which < 2; which++) {
            KeyStreets x = new KeyStreets();
            Checks.write(x, page);
            C.due("tune(" + which + ") of " + page, x.tune(which), want);
            C.due("page behind tune of " + page, x.count(10), want < 0 ? page.length() : 0);
            C.due("notes behind tune of " + page, x.count(7 + which), Math.max(want, 0));
            C.due("notes of the other one", x.count(8 - which), 0);
            if (want > 0) C.dueTune("tune " + which, x, which, page);
        }
    }

    /** "A TUNE is a text of one to eight NOTES, a letter each." */
    private static void termsTunesOfOneToEight() {
        dueRead("", STATE);
        for (char c = 'a'; c <= 'l'; c++) dueRead(String.valueOf(c), 1);
        String notes = "lkjihgfa";
        for (int n = 1; n <= 8; n++) dueRead(notes.substring(0, n), n);
        dueRead(notes + "a", STATE);
        dueRead(notes + "am", STATE);
        for (char none : new char[] {'`', 'm', 'A', 'L', '0', ' ', 1, 126}) {
            dueRead(String.valueOf(none), STATE);
            dueRead(none + "bcdefgh", STATE);
            dueRead("abcdefg" + none, STATE);
            dueRead("abc" + none + "efgh", STATE);
        }
        // As long as the page: no tune, and the page stays.
        dueRead("a".repeat(44), STATE);
        KeyStreets x = new KeyStreets();
        C.due("at first there is no tune 0", x.told(0, 0), UNKNOWN);
        C.due("at first there is no tune 1", x.told(1, 0), UNKNOWN);
    }

    private static String lettersFor(String ahead) {
        int place = ahead.length();
        if (place == 0) return "2345";
        if (place == 1) return ";";
        if (place > 40) return "";
        String corners = "01234".substring(0, ahead.charAt(0) - '0');
        switch ((place - 2) % 5) {
            case 0: return "smbpi";
            case 1: return corners;
            case 2: return corners.replace(ahead.substring(place - 1), "");
            case 3: return "abcdefghijkl";
            default: return ",";
        }
    }

    /** "that no CITY has there, behind those ahead of it": each letter that there is, at each place. */
    private static void termsCityLetters() {
        String[] cities = {LONGEST, "2;s01a,m10l,b10b,p01k,i01c,s10j,m10d,i01i"};
        for (String city : cities) {
            for (int place = 0; place <= city.length(); place++) {
                String ahead = city.substring(0, place);
                String good = lettersFor(ahead);
                for (int code = 1; code <= 126; code++) {
                    KeyStreets x = new KeyStreets();
                    Checks.write(x, ahead);
                    x.letter(code);
                    boolean has = good.indexOf(code) >= 0;
                    C.due("fault of " + ahead + (char) code, x.fault(), has ? place + 1 : place);
                    x.letter('?');
                    C.due("fault of " + ahead + (char) code + "?", x.fault(), has ? place + 1 : place);
                }
            }
        }
    }

    /** "two to eight STREETS", "how many CORNERS (2 to 5)" */
    private static void termsCityOfTwoToEightStreets() {
        for (int length = 0; length <= LONGEST.length(); length++) {
            KeyStreets x = new KeyStreets();
            Checks.write(x, LONGEST.substring(0, length));
            boolean whole = length >= 11 && length % 5 == 1;
            int want = whole ? (length - 1) / 5 : STATE;
            C.due("fault of " + length + " letters", x.fault(), length);
            C.due("city of " + length + " letters", x.city(), want);
            C.due("streets of " + length + " letters", x.count(1), Math.max(want, 0));
            C.due("corners of " + length + " letters", x.count(0), whole ? 5 : 0);
            C.due("page behind city of " + length + " letters", x.count(10), whole ? 0 : length);
        }
        for (String behind : new String[] {",", "a", ";", ",s0"}) {
            KeyStreets x = new KeyStreets();
            Checks.write(x, LONGEST + behind);
            C.due("no city: eight and " + behind, x.city(), STATE);
            C.due("no city: fault", x.fault(), 41);
        }
        for (int corners = 2; corners <= 5; corners++) {
            KeyStreets x = Checks.inCity(corners + ";s0" + (corners - 1) + "a,m" + (corners - 1) + "0l");
            C.due("corners", x.count(0), corners);
            C.due("greatest corner", x.street(0, 2), corners - 1);
            C.due("least corner", x.street(0, 1), 0);
            C.due("as told", x.street(1, 1), corners - 1);
        }
    }

    /** "At first there is none; then one is at CORNER 0, it is day." */
    private static void termsFirstCornerAndDay() {
        KeyStreets x = new KeyStreets();
        C.due("no city", x.count(1), 0);
        C.due("no street", x.street(0, 0), UNKNOWN);
        C.due("no corner", x.stand(0), UNKNOWN);
        Checks.write(x, LONGEST);
        x.city();
        C.due("corner 0", x.count(2), 0);
        C.due("day", x.count(3), 0);
        x.stand(4);
        x.dusk();
        Checks.write(x, SHORTEST);
        x.city();
        C.due("corner 0 of the next", x.count(2), 0);
        C.due("day in the next", x.count(3), 0);
    }

    /** "if the last one has DEGREE 3 then, it has 4" */
    private static void termsPicardyLastNote() {
        dueThrough("i01a", "d", "e");
        dueThrough("i01a", "e", "e");
        dueThrough("i01a", "c", "c");
        dueThrough("i01a", "f", "f");
        dueThrough("i01a", "dd", "de");
        dueThrough("i01a", "ee", "de");
        dueThrough("i01a", "ec", "dc");
        dueThrough("i01a", "dddddddd", "ddddddde");
        dueThrough("i01a", "eeeeeeee", "ddddddde");
        dueThrough("i01a", "eeeeeeej", "dddddddi");
        dueThrough("i01a", "eeeeeeel", "dddddddk");
        dueThrough("i01f", "iiiiiiii", "iiiiiiij");
        dueThrough("m01a", "dddddddd", "dddddddd");
        dueThrough("m01a", "eeeeeeee", "dddddddd");
        dueThrough("p01c", "labcdefg", "llllllll");
        dueThrough("p01c", "l", "l");
        dueThrough("s01c", "abcdefgh", "cdefghij");
        dueThrough("b01c", "abcdefgh", "cbalkjih");
    }

    private static void dueTritones(String tune, int want) {
        KeyStreets x = new KeyStreets();
        Checks.readTune(x, 1, tune);
        C.due("tritones of " + tune, x.told(1, 1), want);
    }

    /** "two NOTES of a TUNE, one right behind the other, that are 6 apart" */
    private static void termsTritones() {
        for (int n = 0; n < 12; n++) {
            String note = shifted("a", n);
            dueTritones(note, 0);
            for (int by = 0; by < 12; by++) dueTritones(note + shifted(note, by), by == 6 ? 1 : 0);
        }
        dueTritones("abg", 0);
        dueTritones("agagagag", 7);
        dueTritones("aaaaaaag", 1);
        dueTritones("gaaaaaaa", 1);
        dueTritones("abcdefgh", 0);
    }

    /** "At night nobody goes over a BRIDGE with a TUNE that has any." */
    private static void termsNightAndBridges() {
        String[] tunes = {"ag", "lf", "aaaaaaag", "gaaaaaaa", "abhaaaaa", "af", "ah", "abg", "a", "aaaaaaaa", "abcdefgh"};
        for (int i = 0; i < tunes.length; i++) {
            boolean any = i < 5;
            KeyStreets x = Checks.withTunes("2;b01a,s01a,m01a,p01a,i01a", tunes[i], "l");
            C.due("open by day " + tunes[i], x.count(5), 5);
            x.dusk();
            C.due("open by night " + tunes[i], x.count(5), any ? 4 : 5);
            C.due("over the bridge by night " + tunes[i], x.walk(0), any ? STATE : 1);
            x.dusk();
            C.due("over the bridge by day " + tunes[i], x.walk(0), any ? 1 : 0);
        }
        for (int s = 1; s < 5; s++) {
            KeyStreets x = Checks.withTunes("2;b01a,s01a,m01a,p01a,i01a", "ag", "");
            x.dusk();
            C.due("another kind by night: " + s, x.walk(s), 1);
        }
    }

    // ---- texts

    /** "OUTSIDE: code (1 to 126)" */
    private static void letterCodes() {
        for (int code : new int[] {0, -1, 127, 128, LOW, HIGH, 256 + 'a', 65536 + 'a'}) {
            KeyStreets x = new KeyStreets();
            C.due("letter(" + code + ")", x.letter(code), OUTSIDE);
            C.due("no letter", x.count(10), 0);
        }
        KeyStreets x = new KeyStreets();
        C.due("least code", x.letter(1), 1);
        C.due("greatest code", x.letter(126), 2);
        long h = 1187;
        for (int n : new int[] {1, 126, 0, 0, 0, 0, 0, 0, 0, 0, 0, 0, 2, 0, 0}) h = 31 * h + n;
        C.due("both as they came", x.digest(), h);
    }

    /** "FULL: above 44" */
    private static void letterFullPage() {
        KeyStreets x = new KeyStreets();
        for (int n = 1; n <= 44; n++) C.due("letter " + n, x.letter('a'), n);
        long before = x.digest();
        C.due("letter 45", x.letter('b'), FULL);
        C.due("letter 45 again", x.letter('b'), FULL);
        C.due("letter 45, no code", x.letter(127), OUTSIDE);
        C.due("still 44", x.count(10), 44);
        C.due("as it was", x.digest(), before);
        x.blank();
        C.due("room again", x.letter('b'), 1);
    }

    private static void blankEmptyAndFull() {
        KeyStreets x = new KeyStreets();
        long empty = x.digest();
        C.due("blank, empty", x.blank(), 0);
        Checks.write(x, "a".repeat(44));
        C.due("blank, full", x.blank(), 44);
        C.due("it is empty", x.count(10), 0);
        C.due("as a new one", x.digest(), empty);
        C.due("blank again", x.blank(), 0);
        Checks.write(x, SHORTEST);
        x.city();
        C.due("blank behind city", x.blank(), 0);
        Checks.write(x, "ab");
        x.tune(0);
        C.due("blank behind tune", x.blank(), 0);
    }

    /** "how many letters it has, if there is none" */
    private static void faultEmptyAndFull() {
        KeyStreets x = new KeyStreets();
        C.due("fault, empty", x.fault(), 0);
        Checks.write(x, LONGEST);
        C.due("fault, the longest city", x.fault(), 41);
        Checks.write(x, ",s0");
        C.due("fault, full", x.fault(), 41);
        C.due("the page stays", x.count(10), 44);
        x.blank();
        C.due("fault, empty again", x.fault(), 0);
        Checks.write(x, "a".repeat(44));
        C.due("fault, full of no city", x.fault(), 0);
    }

    /** "another one is gone, with the CORNER, what was walked and SEEN; TUNES stay" */
    private static void cityAnother() {
        KeyStreets x = Checks.withTunes(LONGEST, "a", "b");
        for (int s = 0; s < 5; s++) x.walk(s);
        x.stand(3);
        for (int n = 0; n < 6; n++) x.see(0, n, n);
        x.raise(0, 9);
        C.due("walked", x.count(6), 5);
        Checks.write(x, LONGEST);
        C.due("the same text again", x.city(), 8);
        C.due("corner", x.count(2), 0);
        C.due("walked", x.count(6), 0);
        C.due("seen", x.count(9), 0);
        C.due("tonic as told", x.street(0, 3), 0);
        C.due("tonics", x.street(0, 6), 4095);
        for (int s = 0; s < 8; s++) C.due("walked " + s, x.street(s, 8), 0);
        C.due("tune 0", x.count(7), 1);
        C.due("tune 1", x.count(8), 1);
        C.due("read twice", x.count(11), 2);
        Checks.write(x, SHORTEST);
        C.due("from the most to the fewest", x.city(), 2);
        C.due("two streets", x.count(1), 2);
        C.due("two corners", x.count(0), 2);
        C.due("no third street", x.street(2, 0), UNKNOWN);
        C.due("no third corner", x.stand(2), UNKNOWN);
        C.due("streets here", x.count(4), 2);
        Checks.write(x, LONGEST);
        C.due("from the fewest to the most", x.city(), 8);
        C.due("eighth street", x.street(7, 0), 4);
        C.due("ninth street", x.street(8, 0), UNKNOWN);
    }

    /** "another one is gone": nothing of a longer tune is left. */
    private static void tuneAnother() {
        for (int which = 0; which < 2; which++) {
            KeyStreets x = new KeyStreets();
            Checks.readTune(x, which, "lkjihgfe");
            Checks.readTune(x, which, "a");
            C.due("one note", x.told(which, 0), 1);
            for (int place = 1; place < 8; place++) C.due("no note " + place, x.told(which, 10 + place), NONE);
            Checks.readTune(x, which, "abcdefgh");
            C.due("eight notes", x.told(which, 0), 8);
            C.due("eighth", x.told(which, 17), 7);
        }
    }

    /** "10 to 17 the so-manieth NOTE (NONE: it has not so many)" */
    private static void toldPlaces() {
        for (int length = 1; length <= 8; length++) {
            KeyStreets x = new KeyStreets();
            Checks.readTune(x, 0, "lkjihgfe".substring(0, length));
            for (int place = 0; place < 8; place++) {
                C.due("place " + place + " of " + length, x.told(0, 10 + place), place < length ? 11 - place : NONE);
            }
            for (int what : new int[] {-1, 5, 9, 18, LOW, HIGH}) C.due("told(0, " + what + ")", x.told(0, what), OUTSIDE);
        }
    }

    /** "of 24 [..] of like ones the least": a minor one has the notes of a major one, which is less. */
    private static void toldKeysGoRound() {
        for (int tonic = 0; tonic < 12; tonic++) {
            KeyStreets x = new KeyStreets();
            Checks.readTune(x, 0, shifted("acefhjla", tonic));
            C.due("major " + tonic, x.told(0, 2), tonic);
            C.due("major " + tonic + " has", x.told(0, 3), 8);
            Checks.readTune(x, 1, shifted("acdfhika", tonic));
            C.due("minor " + tonic, x.told(1, 2), (tonic + 3) % 12);
            C.due("minor " + tonic + " has", x.told(1, 3), 8);
            Checks.readTune(x, 0, shifted("a", tonic));
                C.due("one note " + tonic, x.told(0, 2), "acefhjl".indexOf('a' + tonic) >= 0 ? 0 : 1);
            C.due("one note " + tonic + " has", x.told(0, 3), 1);
            C.due("bit " + tonic, x.told(0, 4), 1 << tonic);
        }
        KeyStreets x = new KeyStreets();
        Checks.readTune(x, 0, "llllllll");
        C.due("each as often as it comes", x.told(0, 3), 8);
        C.due("one bit", x.told(0, 4), 2048);
    }

    /** The least and the greatest street, and the next on either side. */
    private static void streetFirstAndLast() {
        for (String city : new String[] {SHORTEST, LONGEST}) {
            KeyStreets x = Checks.withTunes(city, "a", "b");
            int last = city.length() / 5 - 1;
            C.due("streets", x.count(1), last + 1);
            C.due("first kind", x.street(0, 0), 0);
            C.due("last kind", x.street(last, 0), last == 1 ? 1 : 4);
            C.due("last tonic", x.street(last, 3), last == 1 ? 11 : 8);
            C.due("last as a street", x.as(last, 0), last);
            C.due("last comes", x.comes(last, 11) >= 0 ? 1 : 0, 1);
            C.due("last is raised", x.raise(last, 5), last == 1 ? 11 : 8);
            C.due("last is seen", x.see(last, 0, 0), 1);
            for (int what = 0; what <= 8; what++) {
                C.due("street(-1, " + what + ")", x.street(-1, what), UNKNOWN);
                C.due("street(last + 1, " + what + ")", x.street(last + 1, what), UNKNOWN);
            }
            for (int s : new int[] {-1, last + 1, LOW, HIGH}) {
                C.due("as " + s, x.as(s, 0), UNKNOWN);
                C.due("comes " + s, x.comes(s, 0), UNKNOWN);
                C.due("walk " + s, x.walk(s), UNKNOWN);
                C.due("raise " + s, x.raise(s, 0), UNKNOWN);
                C.due("see " + s, x.see(s, 0, 0), UNKNOWN);
            }
            for (int what : new int[] {-1, 9, LOW, HIGH}) C.due("street what " + what, x.street(last, what), OUTSIDE);
            for (int kind : new int[] {-1, 5, LOW, HIGH}) C.due("kind " + kind, x.as(last, kind), OUTSIDE);
            for (int note : new int[] {-1, 12, LOW, HIGH}) C.due("note " + note, x.comes(last, note), OUTSIDE);
        }
    }

    private static void streetLeavesNoneAndAll() {
        KeyStreets x = Checks.inCity("2;s01a,m01a,b01a,p01a,i01a");
        for (int t = 0; t < 12; t++) {
            for (int s = 0; s < 5; s++) x.raise(s, t);
            C.due("s leaves all or none", x.street(0, 4), t == 0 ? 4095 : 0);
            int leaves = 0;
            for (int n = 0; n < 12; n++) if ((2 * n - t + 24) % 12 == 0) leaves += 1 << n;
            C.due("b leaves two or none", x.street(2, 4), leaves);
            C.due("p leaves all", x.street(3, 4), 4095);
            C.due("m leaves nine", Integer.bitCount(x.street(1, 4)), 9);
            C.due("i leaves nine", Integer.bitCount(x.street(4, 4)), 9);
            C.due("m leaves its degree 3", x.street(1, 4) >> (t + 3) % 12 & 1, 1);
            C.due("i leaves its degree 4", x.street(4, 4) >> (t + 4) % 12 & 1, 1);
        }
    }

    /** "at least 1, at most 24": more than twelve never are needed, as a plain street goes round by then. */
    private static void streetAgainOnceAndNever() {
        int[] rounds = {1, 12, 6, 4, 3, 12, 2, 12, 3, 4, 6, 12};
        KeyStreets x = Checks.inCity("2;s01a,b01a,p01a,m01a,i01a");
        for (int s = 0; s < 5; s++) C.due("no tune 0", x.street(s, 5), NONE);
        Checks.readTune(x, 1, "a");
        for (int s = 0; s < 5; s++) C.due("tune 1 alone", x.street(s, 5), NONE);
        Checks.readTune(x, 0, "abcdefgh");
        for (int t = 0; t < 12; t++) {
            x.raise(0, t);
            x.raise(1, t);
            C.due("s again, tonic " + t, x.street(0, 5), rounds[t]);
            C.due("b again, tonic " + t, x.street(1, 5), 2);
        }
        C.due("p never", x.street(2, 5), NONE);
        C.due("m never", x.street(3, 5), NONE);
        C.due("i never", x.street(4, 5), NONE);
        x.raise(1, 0);
        Checks.readTune(x, 0, "agagagag");
        C.due("b at once", x.street(1, 5), 1);
        C.due("m at once", x.street(3, 5), 1);
        x.dusk();
        C.due("b at night, tritones", x.street(1, 5), 1);
        x.raise(1, 1);
        C.due("b at night, twice", x.street(1, 5), 2);
    }

    /** "so that all that is SEEN of it is so", "none, if there are none" */
    private static void streetTonicsAllOneNone() {
        for (int tonic = 0; tonic < 12; tonic++) {
            KeyStreets x = Checks.inCity("2;s01a,b01a");
            x.see(0, 11, (11 + tonic) % 12);
            C.due("s begins from " + tonic, x.street(0, 6), 1 << tonic);
            C.due("s, one left: the least note", x.street(0, 7), 0);
            C.due("b, nothing of it is seen", x.street(1, 6), 4095);
            x.see(1, 11, (tonic + 1) % 12);
            C.due("b begins from " + tonic, x.street(1, 6), 1 << tonic);
            x.see(0, 0, (tonic + 1) % 12);
            C.due("s, none", x.street(0, 6), 0);
            C.due("s, none to ask", x.street(0, 7), NONE);
            C.due("its own tonic is as it was", x.street(0, 3), 0);
        }
        KeyStreets x = Checks.inCity("2;m01a,i01a");
        x.see(0, 0, 11);
        // a came out as l: it has degree 4, 9 or 11, so it begins from i, d or b.
        C.due("m, round", x.street(0, 6), (1 << 8) + (1 << 3) + (1 << 1));
        x.see(1, 0, 11);
        // Alone degree 4 comes back.
        C.due("i, round", x.street(1, 6), (1 << 3) + (1 << 1));
        // a to l: c has 11 above d, 1 above b; a has 9 and 11, b 10 and 0.
        C.due("i, ask", x.street(1, 7), 2);
        // From i, d, b: a is lowered by all; b has 5, 10, 0; c has 6, 11, 1: it tells d from the others.
        C.due("m, ask", x.street(0, 7), 2);
    }

    /** "so that fewest of these are left at worst": each tonic counts, the least and the greatest too. */
    private static void streetAskOfTwoTonics() {
        for (int t = 0; t < 12; t++) {
            KeyStreets x = Checks.inCity("2;m01a,m01a");
            // Degree 4 is lowered, so it begins from t, or 5 or 7 above that; degree 2 is not: 5 above it is out.
            x.see(0, (t + 4) % 12, (t + 3) % 12);
            x.see(0, (t + 2) % 12, (t + 2) % 12);
            C.due("two tonics", x.street(0, 6), 1 << t | 1 << (t + 7) % 12);
            // Degrees 4, 9, 11 above the one are lowered, and 11, 4, 6 above the other: 6 and 9 tell them apart.
            C.due("ask, two tonics", x.street(0, 7), Math.min((t + 6) % 12, (t + 9) % 12));
        }
    }

    // ---- what is done

    /** "FULL: 999 were walked": beyond the 512 calls that are promised, but the sentence is there. */
    private static void walkFull() {
        KeyStreets x = Checks.withTunes("3;s01b,s01b,b01a,s12a", "a", "");
        for (int i = 1; i <= 998; i++) x.walk(i % 2);
        C.due("998 walked", x.image(), 998);
        C.due("walk 999", x.walk(0), 1);
        C.due("999 walked", x.count(6), 999);
        long before = x.digest();
        C.due("walk 1000", x.walk(0), FULL);
        C.due("walk 1000, it does end here", x.walk(3), FULL);
        C.due("no street", x.walk(4), UNKNOWN);
        C.due("as it was", x.digest(), before);
        x.stand(2);
        C.due("it does not end here", x.walk(0), STATE);
        C.due("restored", x.restore(), 998);
        C.due("the last once more", x.walk(0), 1);
        C.due("full again", x.walk(0), FULL);
        Checks.write(x, SHORTEST);
        x.city();
        C.due("another city", x.walk(0), 1);
        C.due("one walked", x.count(6), 1);
    }

    private static void standFirstAndLast() {
        for (int corners = 2; corners <= 5; corners++) {
            KeyStreets x = Checks.inCity(corners + ";s01a,s01a");
            C.due("last corner", x.stand(corners - 1), 0);
            C.due("the same", x.stand(corners - 1), corners - 1);
            for (int c : new int[] {-1, corners, LOW, HIGH}) C.due("corner " + c, x.stand(c), UNKNOWN);
            C.due("where one was", x.count(2), corners - 1);
            C.due("first corner", x.stand(0), corners - 1);
        }
    }

    /** "UNKNOWN: which, place (from 0); OUTSIDE: note (0 to 11)" */
    private static void singFirstAndLast() {
        for (int which = 0; which < 2; which++) {
            KeyStreets x = new KeyStreets();
            C.due("no tune", x.sing(which, 0, 0), UNKNOWN);
            Checks.readTune(x, 1 - which, "a");
            C.due("the other one alone", x.sing(which, 0, 0), UNKNOWN);
            for (int length = 1; length <= 8; length++) {
                Checks.readTune(x, which, "bcdefghi".substring(0, length));
                C.due("first", x.sing(which, 0, 11), 1);
                C.due("last", x.sing(which, length - 1, 0), length == 1 ? 11 : length);
                C.due("behind the last", x.sing(which, length, 0), UNKNOWN);
                C.due("ahead of the first", x.sing(which, -1, 0), UNKNOWN);
                C.due("as long", x.told(which, 0), length);
                C.due("last is a", x.told(which, 9 + length), 0);
            }
            for (int p : new int[] {8, 9, 16, 32, LOW, HIGH}) C.due("place " + p, x.sing(which, p, 0), UNKNOWN);
            for (int n : new int[] {-1, 12, LOW, HIGH}) C.due("note " + n, x.sing(which, 7, n), OUTSIDE);
            C.dueTune("as it is", x, which, "lcdefgha");
            C.dueTune("the other one", x, 1 - which, "a");
        }
    }

    private static void raiseLeastAndGreatest() {
        KeyStreets x = Checks.inCity(LONGEST);
        C.due("to the greatest", x.raise(7, 11), 8);
        C.due("to the least", x.raise(7, 0), 11);
        C.due("to the same", x.raise(7, 0), 0);
        for (int t : new int[] {-1, 12, LOW, HIGH}) C.due("tonic " + t, x.raise(7, t), OUTSIDE);
        C.due("tonic", x.street(7, 3), 0);
        C.due("its neighbour", x.street(6, 3), 3);
    }

    // ---- what would be

    private static void dueWay(KeyStreets x, int corner, int... streets) {
        C.due("way, how few", x.way(0), streets.length);
        C.due("way, corner", x.way(1), corner);
        for (int i = 0; i < 5; i++) C.due("way, street " + i, x.way(10 + i), i < streets.length ? streets[i] : NONE);
    }

    private static void dueNoWay(KeyStreets x) {
        for (int what : new int[] {0, 1, 10, 11, 12, 13, 14}) C.due("no way, " + what, x.way(what), NONE);
    }

    /** "by how few STREETS (0 to 5)": as many as the street goes up, there and back. */
    private static void wayOfNoneToFive() {
        int[][] streets = {{}, {0}, {0, 0}, {0, 0, 0}, {0, 0, 0, 0}, {0, 0, 0, 0, 0}};
        for (int n = 0; n <= 5; n++) dueWay(Checks.withTunes("2;s01b,s01b", "l", shifted("l", n)), n % 2, streets[n]);
        dueNoWay(Checks.withTunes("2;s01b,s01b", "l", "f"));
        // By eight notes, and from another corner.
        dueWay(Checks.withTunes(LONGEST, "abcdefgh", "abcdefgh"), 0);
        dueNoWay(Checks.withTunes(LONGEST, "abcdefgh", "abcdefg"));
        dueNoWay(Checks.withTunes(LONGEST, "abcdefg", "abcdefgh"));
        KeyStreets x = Checks.withTunes("5;s01b,s34c", "a", "c");
        dueWay(x, 0, 0, 0);
        x.stand(4);
        dueWay(x, 3, 1);
        KeyStreets alone = Checks.withTunes("5;s01b,s34c", "a", "c");
        alone.stand(2);
        dueNoWay(alone);
        Checks.readTune(alone, 1, "a");
        dueWay(alone, 2);
        KeyStreets night = Checks.withTunes("2;b01g,b01h", "ag", "ga");
        dueWay(night, 1, 0);
        night.dusk();
        dueNoWay(night);
    }

    /** "of like ones the first by numbers (the first STREET first)" */
    private static void wayFirstByNumbers() {
        // By 3 up: 0 and 3, to corner 2, or 1 and 2, to corner 3.
        dueWay(Checks.withTunes("4;s01b,s02c,s23b,s12c", "a", "d"), 2, 0, 3);
        // Few streets come first, though their numbers are greater.
        dueWay(Checks.withTunes("2;s01b,s01c", "a", "c"), 1, 1);
        // Like streets: the least.
        dueWay(Checks.withTunes("2;m01a,s01b,s10b,s01b", "aa", "bb"), 1, 1);
        // By 11 up the whole ring must be gone round: 1, 3, 0, 2, 4 or the other way.
        dueWay(Checks.withTunes("5;s23f,s40c,s12b,s34b,s01c", "a", "l"), 0, 1, 3, 0, 2, 4);
        // The last one of eight.
        dueWay(Checks.withTunes("2;s01a,s01a,s01a,s01a,s01a,s01a,s01a,s01l", "bbbbbbbb", "aaaaaaaa"), 1, 7);
    }

    /** "or way() was done 16 times" */
    private static void waySixteenTimes() {
        KeyStreets x = Checks.withTunes("2;s01b,s01b", "a", "g");
        for (int i = 1; i <= 15; i++) {
            C.due("way " + i, x.way(i % 2), NONE);
            C.due("what", x.way(2), OUTSIDE);
            C.due("done", x.count(12), i);
        }
        x.image();
        Checks.readTune(x, 1, "b");
        C.due("way 16", x.way(0), 1);
        long before = x.digest();
        for (int what : new int[] {0, 1, 10, 14}) C.due("way 17", x.way(what), STATE);
        for (int what : new int[] {-1, 2, 9, 15, LOW, HIGH}) C.due("way 17, what", x.way(what), OUTSIDE);
        C.due("as it was", x.digest(), before);
        x.restore();
        C.due("an image does not keep it", x.way(0), STATE);
        Checks.write(x, LONGEST);
        x.city();
        C.due("nor is it gone with the city", x.way(0), STATE);
        C.due("done", x.count(12), 16);
    }

    /** "BECOME for so many STREETS (0 to 3): how many unlike TUNES [..] wherever one is then" */
    private static void becomeNoneToThree() {
        KeyStreets x = Checks.withTunes("3;s01b,s02b", "a", "");
        int[] one = {1, 1, 1, 1};
        for (int n = 0; n <= 3; n++) C.due("like ones at unlike corners, " + n, x.become(n), one[n]);
        KeyStreets up = Checks.withTunes("2;s01b,s01c", "a", "");
        // Up by 1, 2; by 2, 3, 4; by 3, 4, 5, 6: those behind fewer streets do not count.
        int[] ups = {1, 2, 3, 4};
        for (int n = 0; n <= 3; n++) C.due("just so many, " + n, up.become(n), ups[n]);
        for (int n : new int[] {-1, 4, LOW, HIGH}) C.due("become(" + n + ")", up.become(n), OUTSIDE);
        KeyStreets alone = Checks.withTunes("4;s01b,s12c", "a", "");
        alone.stand(3);
        for (int n = 0; n <= 3; n++) C.due("no street, " + n, alone.become(n), n == 0 ? 1 : 0);
        KeyStreets night = Checks.withTunes("2;b01a,b10b", "ag", "");
        night.dusk();
        for (int n = 0; n <= 3; n++) C.due("closed, " + n, night.become(n), n == 0 ? 1 : 0);
    }

    /** Behind no street each tune is one, also when it is asked again: every tune of four notes. */
    private static void becomeOneOfEachTune() {
        for (int tune = 0; tune < 1728; tune++) {
            KeyStreets x = Checks.withTunes(SHORTEST, "aaaa", "");
            x.sing(0, 0, tune % 12);
            x.sing(0, 1, tune / 12 % 12);
            x.sing(0, 2, tune / 144);
            for (int last = 0; last < 12; last++) {
                x.sing(0, 3, last);
                for (int i = 0; i < 2; i++) C.due("become(0) of " + tune + ", " + last, x.become(0), 1);
            }
        }
    }

    private static final String MANY = "2;m01j,i01i,m01k,b01f,m01l,i01f,s01e,b01d";

    private static KeyStreets inMany(String city, String tune, boolean night) {
        KeyStreets x = Checks.withTunes(city, tune, "");
        if (night) x.dusk();
        return x;
    }

    /** Eight streets from either corner: 512 walks of three, each done here; how many tunes came out. */
    private static int dueMany(String city, String tune, boolean night) {
        Set<String> unlike = new HashSet<>();
        for (int walk = 0; walk < 512; walk++) {
            KeyStreets x = inMany(city, tune, night);
            if (x.walk(walk / 64) >= 0 && x.walk(walk / 8 % 8) >= 0 && x.walk(walk % 8) >= 0) {
                unlike.add(Checks.tuneOf(x, 0));
            }
        }
        KeyStreets x = inMany(city, tune, night);
        for (int i = 0; i < 2; i++) C.due("become(3) of " + tune + " in " + city, x.become(3), unlike.size());
        return unlike.size();
    }

    private static void becomeMost() {
        C.due("many by day", dueMany(MANY, "ljbafkei", false), 362);
        dueMany(MANY, "ljbafkei", true);
        // In these the class looks for room behind its last slot, and close to its first one.
        dueMany("2;i01h,b01k,i01e,m01f,s01f,i01j,m01k,b01c", "hdkgacbg", false);
        dueMany("2;m01a,b01c,i01k,m01e,b01f,b01b,b01i,m01g", "lkecbllc", false);
    }

    private static void dueApart(String one, String other, int want) {
        KeyStreets x = new KeyStreets();
        Checks.readTune(x, 0, one);
        Checks.readTune(x, 1, other);
        C.due("apart " + one + " " + other, x.apart(), want);
    }

    /** "where one has no NOTE any more they are" */
    private static void apartNoneToEight() {
        String notes = "abcdefgh";
        for (int n = 1; n <= 8; n++) {
            dueApart(notes, notes.substring(0, n), 8 - n);
            dueApart(notes.substring(0, n), notes, 8 - n);
            dueApart(notes, shifted(notes, 1).substring(0, n), 8);
            // The last note of the shorter one is another one.
            dueApart(notes, notes.substring(0, n - 1) + "l", 9 - n);
        }
        dueApart("a", "a", 0);
        dueApart("a", "l", 1);
        dueApart(notes, "bbcdefgh", 1);
        // a is a note: no note at all is unlike it.
        dueApart("a", "aa", 1);
        dueApart("aaaaaaaa", "a", 7);
    }

    /** "of like ones the least; none" */
    private static void nearLikeOnesAndNone() {
        C.due("all alike", Checks.withTunes("2;s01b,s01b,s01b", "a", "c").near(), 0);
        C.due("all as far", Checks.withTunes("2;s01b,s01c,s01d", "aaaaaaaa", "l").near(), 0);
        C.due("the second is nearest", Checks.withTunes("2;s01b,s01c,s01c", "a", "c").near(), 1);
        C.due("the last is nearest",
            Checks.withTunes("2;s01a,s01a,s01a,s01a,s01a,s01a,s01a,s01b", "aaaaaaaa", "bbbbbbbb").near(), 7);
        // Up by 1 all eight are unlike, up by 2 seven.
        C.due("by one place", Checks.withTunes("2;s01b,s01c", "aaaaaaaa", "cddddddd").near(), 1);
        KeyStreets x = Checks.withTunes("4;s12b,s01c,s23b", "a", "b");
        C.due("from here alone", x.near(), 1);
        x.stand(2);
        C.due("from there", x.near(), 0);
        x.stand(3);
        C.due("from the end", x.near(), 2);
        KeyStreets alone = Checks.withTunes("3;s01b,s01c", "a", "b");
        alone.stand(2);
        C.due("no street", alone.near(), NONE);
        KeyStreets night = Checks.withTunes("2;b01a,b01b", "ag", "ag");
        C.due("bridges by day", night.near(), 0);
        night.dusk();
        C.due("bridges by night", night.near(), NONE);
    }

    // ---- what is seen

    /** "SEEN (6 at most)" */
    private static void seeSix() {
        KeyStreets x = Checks.inCity(LONGEST);
        for (int i = 1; i <= 5; i++) C.due("see " + i, x.see(0, i, (i + 3) % 12), i);
        C.due("five are so", x.street(0, 6), 1 << 3);
        C.due("see 6", x.see(0, 11, 11), 6);
        C.due("the sixth is not", x.street(0, 6), 0);
        long before = x.digest();
        C.due("see 7", x.see(1, 0, 0), FULL);
        C.due("see 7, the same as one", x.see(0, 11, 11), FULL);
        C.due("see 7, note", x.see(1, 12, 0), OUTSIDE);
        C.due("see 7, out", x.see(1, 0, 12), OUTSIDE);
        C.due("see 7, street", x.see(8, 12, 12), UNKNOWN);
        C.due("as it was", x.digest(), before);
        C.due("forget", x.forget(), 6);
        C.due("nothing", x.forget(), 0);
        C.due("all again", x.street(0, 6), 4095);
        C.due("least numbers", x.see(0, 0, 0), 1);
        C.due("greatest numbers", x.see(7, 11, 11), 2);
        C.due("the same once more", x.see(7, 11, 11), 3);
        C.due("tonic a", x.street(0, 6), 1);
        C.due("forget", x.forget(), 3);
        KeyStreets none = new KeyStreets();
        C.due("forget without a city", none.forget(), 0);
        C.due("see without a city", none.see(0, 0, 0), UNKNOWN);
    }

    /** "OUTSIDE: times (1 to 60), seed (0 at least), what" */
    private static void wanderTimesAndSeeds() {
        KeyStreets x = Checks.withTunes("2;s01a,s01a", "a", "a");
        long before = x.digest();
        C.due("once", x.wander(1, 0, 0), 1);
        C.due("sixty times", x.wander(60, 0, 0), 60);
        C.due("corner behind 59", x.wander(59, 0, 1), 1);
        C.due("corner behind 60", x.wander(60, 0, 1), 0);
        C.due("seed 0, once", x.wander(1, 0, 2), 12345);
        C.due("seed 0, twice", x.wander(2, 0, 2), 1406932606);
        C.due("seed 0, sixty times", x.wander(60, 0, 2), 321843028);
        C.due("the greatest seed, once", x.wander(1, HIGH, 2), 1043980748);
        C.due("the greatest seed, sixty times", x.wander(60, HIGH, 2), 516211811);
        for (int t : new int[] {0, 61, -1, LOW, HIGH}) C.due("times " + t, x.wander(t, 0, 0), OUTSIDE);
        for (int s : new int[] {-1, LOW}) C.due("seed " + s, x.wander(1, s, 0), OUTSIDE);
        for (int w : new int[] {-1, 3, LOW, HIGH}) C.due("what " + w, x.wander(1, 0, w), OUTSIDE);
        C.due("as it was", x.digest(), before);
        // As it is ahead of the first street does not count.
        C.due("behind each", Checks.withTunes("2;s01b,s01b", "a", "a").wander(11, 5, 0), 0);
        C.due("round once", Checks.withTunes("2;s01b,s01b", "a", "a").wander(12, 5, 0), 1);
        C.due("round five times", Checks.withTunes("2;s01b,s01b", "a", "a").wander(60, 5, 0), 5);
    }

    /** "none: one stays, without a DRAW", "if one cannot go over it, one stays" */
    private static void wanderStays() {
        KeyStreets alone = Checks.withTunes("5;s01b,s12b", "a", "a");
        alone.stand(4);
        C.due("no street, sixty times", alone.wander(60, 77, 0), 60);
        C.due("no street, corner", alone.wander(60, 77, 1), 4);
        C.due("no street, seed", alone.wander(60, 77, 2), 77);
        C.due("no street, seed 0", alone.wander(1, 0, 2), 0);
        C.due("no street, greatest seed", alone.wander(1, HIGH, 2), HIGH);
        KeyStreets night = Checks.withTunes("2;b01a,b01a", "ag", "ag");
        C.due("by day, corner", night.wander(1, 0, 1), 1);
        night.dusk();
        C.due("by night, sixty times", night.wander(60, 0, 0), 60);
        C.due("by night, corner", night.wander(59, 0, 1), 0);
        C.due("by night, drawn", night.wander(60, 0, 2), 321843028);
        // Seed 0 draws 0, 21468, 9988, 22117: of two the first three times 0, the bridge, then 1.
        KeyStreets both = Checks.withTunes("2;b01a,p01a", "ag", "aa");
        both.dusk();
        C.due("three times before the bridge", both.wander(3, 0, 1), 0);
        C.due("three times before the bridge, hits", both.wander(3, 0, 0), 0);
        C.due("then by police", both.wander(4, 0, 1), 1);
        C.due("then by police, hits", both.wander(4, 0, 0), 1);
    }

    /** "by a DRAW of how many there are, in order": of those from here alone. */
    private static void wanderInOrder() {
        // Seed 1 draws 16838, 5758, 10113: of two from corner 0 the first, street 1, by 1 up.
        KeyStreets x = Checks.withTunes("4;s23l,s01b,s23l,s02c,s23l", "a", "b");
        C.due("first from here", x.wander(1, 1, 1), 1);
        C.due("it is b", x.wander(1, 1, 0), 1);
        // Of eight the draws 6, 6, 1, 3, 3, 3, 2, 3, and the twelfth is 7, the last.
        String city = "2;s01a,s01b,s01c,s01d,s01e,s01f,s01g,s01h";
        int[] ups = {6, 6, 1, 3, 3, 3, 2, 3};
        int sum = 0;
        for (int i = 0; i < ups.length; i++) {
            sum += ups[i];
            KeyStreets eight = Checks.withTunes(city, "a", shifted("a", sum % 12));
            int more = eight.wander(i + 1, 1, 0) - (i == 0 ? 0 : eight.wander(i, 1, 0));
            C.due("draw " + i, more, 1);
        }
    }

    // ---- what is told of all

    /** "An IMAGE keeps TONICS, both TUNES, the CORNER, night or day, how many STREETS were walked, SEEN." */
    private static void imageKeeps() {
        for (int change = 0; change < 10; change++) {
            KeyStreets x = Checks.withTunes(LONGEST, "abcdefgh", "l");
            x.walk(0);
            x.see(1, 2, 2);
            C.due("image", x.image(), 1);
            long kept = x.digest();
            switch (change) {
                case 0: x.raise(0, 11); break;
                case 1: x.raise(7, 0); break;
                case 2: x.sing(0, 7, 11); break;
                case 3: x.sing(1, 0, 0); break;
                case 4: x.stand(4); break;
                case 5: x.dusk(); break;
                case 6: x.walk(1); break;
                case 7: x.see(7, 0, 0); break;
                case 8: x.forget(); break;
                default: Checks.readTune(x, 0, "a");
            }
            C.due("changed by " + change, x.digest() == kept ? 1 : 0, 0);
            C.due("restore", x.restore(), 1);
            C.due("as it was, of " + change, x.digest(), kept);
        }
        for (int which = 0; which < 2; which++) {
            KeyStreets x = Checks.inCity(LONGEST);
            x.image();
            Checks.readTune(x, which, "a");
            C.due("restore", x.restore(), 0);
            C.due("there was no tune", x.told(which, 0), UNKNOWN);
        }
        KeyStreets night = Checks.withTunes(LONGEST, "a", "");
        night.dusk();
        for (int i = 0; i < 6; i++) night.see(i, i, i);
        night.image();
        night.dusk();
        night.forget();
        for (int i = 0; i < 6; i++) night.see(7, i, 11);
        night.restore();
        C.due("night again", night.count(3), 1);
        C.due("six again", night.count(9), 6);
        C.due("none of the later ones", night.street(7, 6), 4095);
        C.due("the last of the six", night.street(5, 6), 1);
        C.due("a seventh", night.see(0, 0, 0), FULL);
    }

    private static void imageDoesNotKeep() {
        KeyStreets x = Checks.withTunes(LONGEST, "a", "b");
        Checks.write(x, "xy");
        x.image();
        x.way(0);
        Checks.write(x, "z");
        x.restore();
        C.due("the page", x.count(10), 3);
        C.due("how often way() was done", x.count(12), 1);
        C.due("how often a city was read", x.count(11), 1);
    }

    /** "An IMAGE is kept (one; the latest)" */
    private static void imageLatest() {
        KeyStreets x = Checks.withTunes("2;s01b,s01b", "a", "");
        C.due("none was kept", x.restore(), STATE);
        C.due("first", x.image(), 0);
        x.walk(0);
        C.due("second", x.image(), 1);
        x.walk(0);
        x.walk(0);
        C.due("restore", x.restore(), 1);
        C.dueTune("the second", x, 0, "b");
        x.sing(0, 0, 9);
        x.raise(0, 7);
        C.due("restore again", x.restore(), 1);
        C.dueTune("still the second", x, 0, "b");
        C.due("still its tonic", x.street(0, 3), 1);
        KeyStreets none = new KeyStreets();
        Checks.readTune(none, 0, "a");
        Checks.readTune(none, 1, "a");
        C.due("image without a city", none.image(), STATE);
        C.due("none was kept", none.restore(), STATE);
    }

    /** "STATE: none was kept, or there is another CITY since" */
    private static void restoreAnotherCity() {
        KeyStreets x = Checks.withTunes(SHORTEST, "a", "b");
        x.image();
        Checks.write(x, "2;s01a");
        C.due("no city", x.city(), STATE);
        C.due("the image is there still", x.restore(), 0);
        x.blank();
        Checks.write(x, SHORTEST);
        x.city();
        long before = x.digest();
        C.due("another one of the same text", x.restore(), STATE);
        C.due("as it was", x.digest(), before);
        x.walk(0);
        C.due("an image of it", x.image(), 1);
        C.due("restore", x.restore(), 1);
        Checks.write(x, LONGEST);
        x.city();
        C.due("another one", x.restore(), STATE);
        C.due("still", x.restore(), STATE);
    }

    private static void countLeastAndMost() {
        KeyStreets x = new KeyStreets();
        for (int what = 0; what <= 12; what++) C.due("new: count(" + what + ")", x.count(what), 0);
        for (int what : new int[] {-1, 13, LOW, HIGH}) C.due("count(" + what + ")", x.count(what), OUTSIDE);
        x = Checks.withTunes("5;s04b,m04b,b04b,p04b,i04b,s40b,m40b,b40b", "agagagag", "llllllll");
        int[] day = {5, 8, 0, 0, 8, 8, 0, 8, 8, 0, 0, 1, 0};
        for (int what = 0; what <= 12; what++) C.due("day: count(" + what + ")", x.count(what), day[what]);
        x.dusk();
        C.due("walk", x.walk(1), 4);
        for (int i = 0; i < 6; i++) x.see(7, 11, 11);
        for (int i = 0; i < 16; i++) x.way(0);
        Checks.write(x, "~".repeat(44));
        // From b, a has degree 11 and g has 5: no tritone is left.
        C.dueTune("minor from b", x, 0, "lglglglg");
        int[] most = {5, 8, 4, 1, 8, 8, 1, 8, 8, 6, 44, 1, 16};
        for (int what = 0; what <= 12; what++) C.due("most: count(" + what + ")", x.count(what), most[what]);
        x.sing(0, 7, 5);
        C.due("closed bridges", x.count(5), 6);
        x.stand(2);
        C.due("no street here", x.count(4), 0);
        C.due("none open", x.count(5), 0);
    }

    /** The document's numbers by the calls themselves; the page's letters are known. */
    private static void dueDigest(String name, KeyStreets x, String page) {
        long h = 1187;
        for (int s = 0; s < x.count(1); s++) {
            for (int what = 0; what <= 8; what++) h = 31 * h + x.street(s, what);
            for (int note = 0; note < 12; note++) h = 31 * h + x.comes(s, note);
        }
        for (int which = 0; which < 2; which++) {
            for (int what = 0; what <= 17; what++) {
                if (x.count(7 + which) > 0 && (what < 5 || what > 9)) h = 31 * h + x.told(which, what);
            }
        }
        if (x.count(1) > 0 && x.count(7) > 0 && x.count(8) > 0) h = 31 * (31 * h + x.become(2)) + x.near();
        for (char c : page.toCharArray()) h = 31 * h + c;
        for (int what = 0; what <= 12; what++) h = 31 * h + x.count(what);
        C.due("digest, " + name, x.digest(), h);
    }

    private static void digestParts() {
        for (String zero : new String[] {"", "a", "ljbafkei"}) {
            for (String one : new String[] {"", "l", "agagagag"}) {
                for (String page : new String[] {"", "\u0001~", "~".repeat(44)}) {
                    String name = zero + "/" + one + "/" + page.length();
                    KeyStreets x = new KeyStreets();
                    Checks.readTune(x, 0, zero);
                    Checks.readTune(x, 1, one);
                    Checks.write(x, page);
                    dueDigest("no city " + name, x, page);
                    for (String city : new String[] {SHORTEST, LONGEST, MANY}) {
                        KeyStreets y = Checks.withTunes(city, zero, one);
                        y.walk(0);
                        y.dusk();
                        y.see(1, 11, 11);
                        y.see(0, 0, 5);
                        y.see(0, 0, 6);
                        Checks.write(y, page);
                        dueDigest(city + " " + name, y, page);
                    }
                }
            }
        }
        KeyStreets alone = Checks.withTunes("3;s01a,s01a", "a", "b");
        alone.stand(2);
        dueDigest("no street here", alone, "");
    }
}
