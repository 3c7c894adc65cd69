import java.util.ArrayList;
import java.util.Arrays;
import java.util.HashSet;
import java.util.List;
import java.util.Set;
import java.util.regex.Matcher;
import java.util.regex.Pattern;

/** The document once more, told plainly with texts and lists: ModelTest holds the class against it. */
final class Model {
    static final int NONE = -1, UNKNOWN = -101, OUTSIDE = -102, STATE = -103, FULL = -104;
    private static final String MAJOR = "0 2 4 5 7 9 11", MINOR = "0 2 3 5 7 8 10";

    private static final class Kept {
        int[] tonics;
        int[] walks;
        String[] tunes;
        int corner;
        boolean night;
        int walked;
        List<int[]> seen;
    }

    private String page = "";
    private int corners;
    private int[] kinds = {};
    private int[][] ends = {};
    private int[] tonics = {};
    private int[] walks = {};
    private String[] tunes = {null, null};
    private int corner;
    private boolean night;
    private int walked;
    private List<int[]> seen = new ArrayList<>();
    private Kept kept;
    private int reads;
    private int ways;

    private static Pattern cityPattern(int corners) {
        StringBuilder pairs = new StringBuilder();
        for (int one = 0; one < corners; one++) {
            for (int other = 0; other < corners; other++) {
                if (one != other) {
                    pairs.append(pairs.length() == 0 ? "" : "|").append(one).append(other);
                }
            }
        }
        String street = "[smbpi](?:" + pairs + ")[a-l]";
        return Pattern.compile(corners + ";" + street + "(?:," + street + "){1,7}", Pattern.DOTALL);
    }

    private static final Pattern[] CITIES = {cityPattern(2), cityPattern(3), cityPattern(4), cityPattern(5)};

    private static boolean isCity(String text) {
        return Arrays.stream(CITIES).anyMatch(p -> p.matcher(text).matches());
    }

    private static boolean beginsCity(String text) {
        for (Pattern p : CITIES) {
            Matcher m = p.matcher(text);
            if (m.matches() || m.hitEnd()) {
                return true;
            }
        }
        return false;
    }

    private static boolean isNote(int n) {
        return n >= 0 && n <= 11;
    }

    private boolean isStreet(int n) {
        return n >= 0 && n < kinds.length;
    }

    private boolean isTune(int which) {
        return (which == 0 || which == 1) && tunes[which] != null;
    }

    int letter(int code) {
        if (code < 1 || code > 126) return OUTSIDE;
        if (page.length() == 44) return FULL;
        page += (char) code;
        return page.length();
    }

    int blank() {
        int had = page.length();
        page = "";
        return had;
    }

    int fault() {
        int good = page.length();
        while (good > 0 && !beginsCity(page.substring(0, good))) good--;
        return good;
    }

    int city() {
        if (!isCity(page)) return STATE;
        String[] streets = page.substring(2).split(",");
        corners = page.charAt(0) - '0';
        kinds = new int[streets.length];
        ends = new int[streets.length][];
        tonics = new int[streets.length];
        walks = new int[streets.length];
        for (int i = 0; i < streets.length; i++) {
            kinds[i] = "smbpi".indexOf(streets[i].charAt(0));
            ends[i] = new int[] {streets[i].charAt(1) - '0', streets[i].charAt(2) - '0'};
            tonics[i] = streets[i].charAt(3) - 'a';
        }
        corner = 0;
        night = false;
        walked = 0;
        seen = new ArrayList<>();
        kept = null;
        reads++;
        page = "";
        return streets.length;
    }

    int tune(int which) {
        if (which != 0 && which != 1) return UNKNOWN;
        if (!page.matches("[a-l]{1,8}")) return STATE;
        tunes[which] = page;
        page = "";
        return tunes[which].length();
    }

    private static int tritones(String tune) {
        int n = 0;
        for (int i = 0; i + 1 < tune.length(); i++) {
            if (Math.floorMod(tune.charAt(i) - tune.charAt(i + 1), 12) == 6) n++;
        }
        return n;
    }

    private static int inKey(String tune, int key) {
        Set<Integer> notes = new HashSet<>();
        for (String degree : (key < 12 ? MAJOR : MINOR).split(" ")) {
            notes.add((key % 12 + Integer.parseInt(degree)) % 12);
        }
        return (int) tune.chars().filter(c -> notes.contains(c - 'a')).count();
    }

    private static int key(String tune) {
        int best = 23;
        for (int k = 23; k >= 0; k--) {
            if (inKey(tune, k) >= inKey(tune, best)) best = k;
        }
        return best;
    }

    int told(int which, int what) {
        if (!isTune(which)) return UNKNOWN;
        String tune = tunes[which];
        if (what == 0) return tune.length();
        if (what == 1) return tritones(tune);
        if (what == 2) return key(tune);
        if (what == 3) return inKey(tune, key(tune));
        if (what == 4) return tune.chars().map(c -> 1 << (c - 'a')).reduce(0, (a, b) -> a | b);
        if (what < 10 || what > 17) return OUTSIDE;
        return what - 10 < tune.length() ? tune.charAt(what - 10) - 'a' : NONE;
    }

    private static String carry(int kind, int tonic, String tune) {
        StringBuilder out = new StringBuilder();
        for (int i = 0; i < tune.length(); i++) {
            int note = tune.charAt(i) - 'a';
            int degree = (note + 12 - tonic) % 12;
            switch (kind) {
                case 0: note += tonic; break;
                case 1:
                case 4:
                    if (degree == 4 || degree == 9 || degree == 11) degree--;
                    if (kind == 4 && i == tune.length() - 1 && degree == 3) degree = 4;
                    note = tonic + degree;
                    break;
                case 2: note = tonic - note + 12; break;
                default: note = tune.charAt(0) - 'a';
            }
            out.append((char) ('a' + note % 12));
        }
        return out.toString();
    }

    private static int alone(int kind, int tonic, int note) {
        return carry(kind, tonic, String.valueOf((char) ('a' + note))).charAt(0) - 'a';
    }

    private boolean[] possible(int street) {
        boolean[] can = new boolean[12];
        for (int t = 0; t < 12; t++) {
            can[t] = true;
            for (int[] s : seen) {
                if (s[0] == street && alone(kinds[street], t, s[1]) != s[2]) can[t] = false;
            }
        }
        return can;
    }

    private int ask(int street) {
        boolean[] can = possible(street);
        int best = NONE;
        int bestLeft = 0;
        for (int note = 0; note < 12; note++) {
            int[] left = new int[12];
            for (int t = 0; t < 12; t++) {
                if (can[t]) left[alone(kinds[street], t, note)]++;
            }
            int worst = Arrays.stream(left).max().getAsInt();
            if (worst > 0 && (best == NONE || worst < bestLeft)) {
                best = note;
                bestLeft = worst;
            }
        }
        return best;
    }

    private int again(int street) {
        if (tunes[0] == null) return NONE;
        String tune = tunes[0];
        for (int i = 1; i <= 24; i++) {
            tune = carry(kinds[street], tonics[street], tune);
            if (tune.equals(tunes[0])) return i;
        }
        return NONE;
    }

    int street(int street, int what) {
        if (!isStreet(street)) return UNKNOWN;
        int bits = 0;
        switch (what) {
            case 0: return kinds[street];
            case 1: return ends[street][0];
            case 2: return ends[street][1];
            case 3: return tonics[street];
            case 4:
                for (int n = 0; n < 12; n++) if (alone(kinds[street], tonics[street], n) == n) bits += 1 << n;
                return bits;
            case 5: return again(street);
            case 6:
                for (int t = 0; t < 12; t++) if (possible(street)[t]) bits += 1 << t;
                return bits;
            case 7: return ask(street);
            case 8: return walks[street];
            default: return OUTSIDE;
        }
    }

    int as(int street, int kind) {
        if (!isStreet(street)) return UNKNOWN;
        if (kind < 0 || kind > 4) return OUTSIDE;
        boolean such = kind == 0 || kind == kinds[street] || kind == 1 && kinds[street] == 4;
        return such ? street : NONE;
    }

    int comes(int street, int note) {
        if (!isStreet(street)) return UNKNOWN;
        return isNote(note) ? alone(kinds[street], tonics[street], note) : OUTSIDE;
    }

    private List<Integer> streetsAt(int where) {
        List<Integer> there = new ArrayList<>();
        for (int i = 0; i < kinds.length; i++) {
            if (ends[i][0] == where || ends[i][1] == where) there.add(i);
        }
        return there;
    }

    private boolean open(int street, String tune) {
        return !(night && kinds[street] == 2 && tritones(tune) > 0);
    }

    private int across(int street, int where) {
        return ends[street][0] + ends[street][1] - where;
    }

    int walk(int street) {
        if (!isStreet(street)) return UNKNOWN;
        if (tunes[0] == null || !streetsAt(corner).contains(street) || !open(street, tunes[0])) return STATE;
        if (walked >= 999) return FULL;
        tunes[0] = carry(kinds[street], tonics[street], tunes[0]);
        corner = across(street, corner);
        walked++;
        walks[street]++;
        return corner;
    }

    int stand(int where) {
        if (where < 0 || where >= corners) return UNKNOWN;
        int was = corner;
        corner = where;
        return was;
    }

    int dusk() {
        if (kinds.length == 0) return STATE;
        night = !night;
        return night ? 1 : 0;
    }

    int sing(int which, int place, int note) {
        if (!isTune(which) || place < 0 || place >= tunes[which].length()) return UNKNOWN;
        if (!isNote(note)) return OUTSIDE;
        int was = tunes[which].charAt(place) - 'a';
        tunes[which] = tunes[which].substring(0, place) + (char) ('a' + note) + tunes[which].substring(place + 1);
        return was;
    }

    int raise(int street, int tonic) {
        if (!isStreet(street)) return UNKNOWN;
        if (!isNote(tonic)) return OUTSIDE;
        int was = tonics[street];
        tonics[street] = tonic;
        return was;
    }

    /** The first way of just so many streets by numbers, the streets and then the corner; null: none. */
    private List<Integer> wayOf(int left, int where, String tune) {
        if (left == 0) return tune.equals(tunes[1]) ? new ArrayList<>(List.of(where)) : null;
        for (int street : streetsAt(where)) {
            if (!open(street, tune)) continue;
            List<Integer> rest =
                wayOf(left - 1, across(street, where), carry(kinds[street], tonics[street], tune));
            if (rest != null) {
                rest.add(0, street);
                return rest;
            }
        }
        return null;
    }

    int way(int what) {
        if (what != 0 && what != 1 && (what < 10 || what > 14)) return OUTSIDE;
        if (kinds.length == 0 || tunes[0] == null || tunes[1] == null || ways == 16) return STATE;
        ways++;
        for (int n = 0; n <= 5; n++) {
            List<Integer> found = wayOf(n, corner, tunes[0]);
            if (found != null) {
                if (what == 0) return n;
                if (what == 1) return found.get(n);
                return what - 10 < n ? found.get(what - 10) : NONE;
            }
        }
        return NONE;
    }

    private void gather(int left, int where, String tune, Set<String> found) {
        if (left == 0) found.add(tune);
        for (int street : left == 0 ? List.<Integer>of() : streetsAt(where)) {
            if (open(street, tune)) {
                gather(left - 1, across(street, where), carry(kinds[street], tonics[street], tune), found);
            }
        }
    }

    int become(int streets) {
        if (streets < 0 || streets > 3) return OUTSIDE;
        if (kinds.length == 0 || tunes[0] == null) return STATE;
        Set<String> found = new HashSet<>();
        gather(streets, corner, tunes[0], found);
        return found.size();
    }

    private static int unlike(String a, String b) {
        int like = 0;
        for (int i = 0; i < Math.min(a.length(), b.length()); i++) {
            if (a.charAt(i) == b.charAt(i)) like++;
        }
        return Math.max(a.length(), b.length()) - like;
    }

    int apart() {
        return tunes[0] == null || tunes[1] == null ? STATE : unlike(tunes[0], tunes[1]);
    }

    int near() {
        if (kinds.length == 0 || tunes[0] == null || tunes[1] == null) return STATE;
        int best = NONE;
        int least = 99;
        for (int street : streetsAt(corner)) {
            int far = unlike(carry(kinds[street], tonics[street], tunes[0]), tunes[1]);
            if (open(street, tunes[0]) && far < least) {
                least = far;
                best = street;
            }
        }
        return best;
    }

    int see(int street, int note, int out) {
        if (!isStreet(street)) return UNKNOWN;
        if (!isNote(note) || !isNote(out)) return OUTSIDE;
        if (seen.size() == 6) return FULL;
        seen.add(new int[] {street, note, out});
        return seen.size();
    }

    int forget() {
        int was = seen.size();
        seen = new ArrayList<>();
        return was;
    }

    int wander(int times, int seed, int what) {
        if (times < 1 || times > 60 || seed < 0 || what < 0 || what > 2) return OUTSIDE;
        if (kinds.length == 0 || tunes[0] == null || tunes[1] == null) return STATE;
        long s = seed;
        int where = corner;
        int hits = 0;
        String tune = tunes[0];
        for (int i = 0; i < times; i++) {
            List<Integer> there = streetsAt(where);
            if (!there.isEmpty()) {
                s = (1103515245L * s + 12345L) & 0x7fffffffL;
                int street = there.get((int) ((s >> 16) % there.size()));
                if (open(street, tune)) {
                    tune = carry(kinds[street], tonics[street], tune);
                    where = across(street, where);
                }
            }
            if (tune.equals(tunes[1])) hits++;
        }
        return what == 0 ? hits : what == 1 ? where : (int) s;
    }

    int image() {
        if (kinds.length == 0) return STATE;
        kept = new Kept();
        kept.tonics = tonics.clone();
        kept.walks = walks.clone();
        kept.tunes = tunes.clone();
        kept.corner = corner;
        kept.night = night;
        kept.walked = walked;
        kept.seen = new ArrayList<>(seen);
        return walked;
    }

    int restore() {
        if (kept == null) return STATE;
        tonics = kept.tonics.clone();
        walks = kept.walks.clone();
        tunes = kept.tunes.clone();
        corner = kept.corner;
        night = kept.night;
        walked = kept.walked;
        seen = new ArrayList<>(kept.seen);
        return walked;
    }

    int count(int what) {
        switch (what) {
            case 0: return corners;
            case 1: return kinds.length;
            case 2: return corner;
            case 3: return night ? 1 : 0;
            case 4: return streetsAt(corner).size();
            case 5:
                return tunes[0] == null ? 0 : (int) streetsAt(corner).stream().filter(s -> open(s, tunes[0])).count();
            case 6: return walked;
            case 7: return tunes[0] == null ? 0 : tunes[0].length();
            case 8: return tunes[1] == null ? 0 : tunes[1].length();
            case 9: return seen.size();
            case 10: return page.length();
            case 11: return reads;
            case 12: return ways;
            default: return OUTSIDE;
        }
    }

    long digest() {
        List<Integer> numbers = new ArrayList<>();
        for (int s = 0; s < kinds.length; s++) {
            for (int what = 0; what <= 8; what++) numbers.add(street(s, what));
            for (int note = 0; note < 12; note++) numbers.add(comes(s, note));
        }
        for (int which = 0; which < 2; which++) {
            for (int what = 0; what <= 17; what++) {
                if (isTune(which) && (what <= 4 || what >= 10)) numbers.add(told(which, what));
            }
        }
        if (kinds.length > 0 && tunes[0] != null && tunes[1] != null) {
            numbers.add(become(2));
            numbers.add(near());
        }
        page.chars().forEach(numbers::add);
        for (int what = 0; what <= 12; what++) numbers.add(count(what));
        long h = 1187;
        for (int n : numbers) h = 31 * h + n;
        return h;
    }
}
