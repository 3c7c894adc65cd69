import java.util.Arrays;
import java.util.function.ToIntFunction;

/**
 * "Refusals, of several the first as told by each call: UNKNOWN, OUTSIDE, STATE, FULL; they change nothing."
 * Every call with good and wrong numbers in every kind of state, each on an object of its own. Where it is
 * refused, a twin that was not asked must tell the same afterwards.
 */
public final class RefusalsTest {
    private static final int UNKNOWN = -101, OUTSIDE = -102, STATE = -103, FULL = -104, TAKEN = 0;
    private static final int LOW = Integer.MIN_VALUE, HIGH = Integer.MAX_VALUE;
    /** The streets 0, 1 and 2, a bridge, end at corner 0; 3 does not. */
    private static final String CITY = "4;s01b,m02c,b01d,s12e";
    private static final int STREETS = 4, CORNERS = 4;
    private static final int[] WHICH = {LOW, -1, 0, 1, 2, HIGH};
    private static final int[] STREET = {LOW, -1, 0, 1, 2, 3, STREETS, HIGH};
    private static final int[] NOTE = {LOW, -1, 0, 11, 12, HIGH};
    private static final int[] PLACE = {LOW, -1, 0, 1, 2, 7, 8, HIGH};
    private static final int[] TIMES = {LOW, -1, 0, 1, 60, 61, HIGH};

    private static final Checks C = new Checks();

    /** A state, told by all that a refusal can ask for; one is at corner 0. */
    private static final class Case {
        final String name;
        String city = "";
        String carried = "";
        String toldOf = "";
        String page = "";
        boolean night;
        int seen;
        int ways;
        int walked;
        boolean image;
        boolean imageOfAnother;

        Case(String name) {
            this.name = name;
        }

        Case in(String text) {
            city = text;
            return this;
        }

        Case tunes(String zero, String one) {
            carried = zero;
            toldOf = one;
            return this;
        }

        Case page(String text) {
            page = text;
            return this;
        }

        KeyStreets make() {
            KeyStreets x = new KeyStreets();
            if (imageOfAnother) {
                Checks.write(x, CITY);
                x.city();
                x.image();
            }
            Checks.write(x, city);
            if (!city.isEmpty()) x.city();
            Checks.readTune(x, 0, carried);
            Checks.readTune(x, 1, toldOf);
            for (int i = 0; i < walked; i++) x.walk(0);
            x.stand(0);
            for (int i = 0; i < seen; i++) x.see(i % STREETS, i, 5);
            for (int i = 0; i < ways; i++) x.way(0);
            if (night) x.dusk();
            if (image) {
                x.image();
                x.stand(1);
                x.raise(1, 7);
                x.stand(0);
            }
            Checks.write(x, page);
            return x;
        }

        String tune(int which) {
            return which == 0 ? carried : which == 1 ? toldOf : "";
        }

        boolean isStreet(int street) {
            return !city.isEmpty() && street >= 0 && street < STREETS;
        }

        int noCityOrTunes() {
            return city.isEmpty() || carried.isEmpty() || toldOf.isEmpty() ? STATE : TAKEN;
        }
    }

    public static void main(String[] args) {
        for (Case c : cases()) {
            texts(c);
            ofStreets(c);
            walk(c);
            done(c);
            wouldBe(c);
            wander(c);
            all(c);
        }
        C.end("RefusalsTest");
    }

    private static Case[] cases() {
        Case seenFull = new Case("six seen").in(CITY).tunes("ab", "cd");
        seenFull.seen = 6;
        Case waysFull = new Case("16 ways").in(CITY).tunes("ab", "cd");
        waysFull.ways = 16;
        Case walkedFull = new Case("999 walked").in(CITY).tunes("ag", "cd");
        walkedFull.walked = 999;
        Case walkedFullNight = new Case("999 walked, night").in(CITY).tunes("ag", "cd");
        walkedFullNight.walked = 999;
        walkedFullNight.night = true;
        Case walkedLess = new Case("998 walked").in(CITY).tunes("ab", "cd");
        walkedLess.walked = 998;
        Case night = new Case("night").in(CITY).tunes("ag", "cd").page("ab");
        night.night = true;
        Case calmNight = new Case("night, no tritone").in(CITY).tunes("aaaaaaaa", "abcdefgh").page("abcdefgh");
        calmNight.night = true;
        Case kept = new Case("image").in(CITY).tunes("ab", "cd").page("xyz");
        kept.image = true;
        kept.seen = 5;
        kept.walked = 2;
        kept.ways = 15;
        Case another = new Case("image of another city").in(CITY).tunes("ab", "cd");
        another.imageOfAnother = true;
        return new Case[] {new Case("new"), new Case("tune 0").tunes("ab", ""), new Case("tune 1").tunes("", "ab"),
            new Case("both tunes").tunes("ab", "ab").page("~"), new Case("city").in(CITY).page("2;s01a"),
            new Case("city, tune 0").in(CITY).tunes("a", "").page("abcdefghi"),
            new Case("city, tune 1").in(CITY).tunes("", "abcdefgh").page("2;s01a,s01a"),
            new Case("city, both").in(CITY).tunes("ab", "bc").page("a".repeat(44)),
            new Case("full page, no city").page("a".repeat(44)), new Case("full but one").page("a".repeat(43)),
            seenFull, waysFull, walkedFull, walkedFullNight, walkedLess, night, calmNight, kept, another};
    }

    /** All that can be told, then what an image brings back, then what is told of that. */
    private static long[] tell(KeyStreets x) {
        long[] told = new long[9];
        told[0] = x.digest();
        told[1] = x.restore();
        told[2] = x.digest();
        told[3] = x.way(0);
        told[4] = x.wander(9, 9, 2);
        told[5] = x.fault();
        told[6] = x.apart();
        told[7] = x.city();
        told[8] = x.digest();
        return told;
    }

    private static void check(Case c, String call, int want, ToIntFunction<KeyStreets> asked) {
        KeyStreets x = c.make();
        int got = asked.applyAsInt(x);
        if (want == TAKEN) {
            C.due(c.name + ": " + call + " (" + got + ") is taken", got > UNKNOWN ? 1 : 0, 1);
            return;
        }
        C.due(c.name + ": " + call, got, want);
        boolean same = Arrays.equals(tell(x), tell(c.make()));
        C.due(c.name + ": " + call + " changes nothing", same ? 1 : 0, 1);
    }

    private static boolean isNote(int note) {
        return note >= 0 && note <= 11;
    }

    private static void texts(Case c) {
        for (int code : new int[] {LOW, -1, 0, 1, 97, 126, 127, HIGH}) {
            int want = code < 1 || code > 126 ? OUTSIDE : c.page.length() == 44 ? FULL : TAKEN;
            check(c, "letter(" + code + ")", want, x -> x.letter(code));
        }
        check(c, "blank()", TAKEN, x -> x.blank());
        check(c, "fault()", TAKEN, x -> x.fault());
        check(c, "city()", c.page.equals("2;s01a,s01a") ? TAKEN : STATE, x -> x.city());
        for (int which : WHICH) {
            boolean isTune = c.page.matches("[a-l]{1,8}");
            int want = which != 0 && which != 1 ? UNKNOWN : isTune ? TAKEN : STATE;
            check(c, "tune(" + which + ")", want, x -> x.tune(which));
            for (int what : new int[] {LOW, -1, 0, 4, 5, 9, 10, 17, 18, HIGH}) {
                boolean asked = what >= 0 && what <= 4 || what >= 10 && what <= 17;
                int told = c.tune(which).isEmpty() ? UNKNOWN : asked ? TAKEN : OUTSIDE;
                check(c, "told(" + which + ", " + what + ")", told, x -> x.told(which, what));
            }
        }
    }

    private static void ofStreets(Case c) {
        for (int street : STREET) {
            for (int what : new int[] {LOW, -1, 0, 8, 9, HIGH}) {
                int want = !c.isStreet(street) ? UNKNOWN : what < 0 || what > 8 ? OUTSIDE : TAKEN;
                check(c, "street(" + street + ", " + what + ")", want, x -> x.street(street, what));
            }
            for (int kind : new int[] {LOW, -1, 0, 4, 5, HIGH}) {
                int want = !c.isStreet(street) ? UNKNOWN : kind < 0 || kind > 4 ? OUTSIDE : TAKEN;
                check(c, "as(" + street + ", " + kind + ")", want, x -> x.as(street, kind));
            }
            for (int note : NOTE) {
                int want = !c.isStreet(street) ? UNKNOWN : !isNote(note) ? OUTSIDE : TAKEN;
                check(c, "comes(" + street + ", " + note + ")", want, x -> x.comes(street, note));
                check(c, "raise(" + street + ", " + note + ")", want, x -> x.raise(street, note));
                for (int out : NOTE) {
                    boolean outside = !isNote(note) || !isNote(out);
                    int see = !c.isStreet(street) ? UNKNOWN : outside ? OUTSIDE : c.seen == 6 ? FULL : TAKEN;
                    check(c, "see(" + street + ", " + note + ", " + out + ")", see, x -> x.see(street, note, out));
                }
            }
        }
    }

    private static void walk(Case c) {
        for (int street : STREET) {
            boolean closed = street == 2 && c.night && c.carried.equals("ag");
            boolean cannot = c.carried.isEmpty() || street == 3 || closed;
            int want = !c.isStreet(street) ? UNKNOWN : cannot ? STATE : c.walked == 999 ? FULL : TAKEN;
            check(c, "walk(" + street + ")", want, x -> x.walk(street));
        }
    }

    private static void done(Case c) {
        for (int corner : new int[] {LOW, -1, 0, 3, CORNERS, HIGH}) {
            boolean known = !c.city.isEmpty() && corner >= 0 && corner < CORNERS;
            check(c, "stand(" + corner + ")", known ? TAKEN : UNKNOWN, x -> x.stand(corner));
        }
        check(c, "dusk()", c.city.isEmpty() ? STATE : TAKEN, x -> x.dusk());
        for (int which : WHICH) {
            for (int place : PLACE) {
                boolean known = place >= 0 && place < c.tune(which).length();
                for (int note : NOTE) {
                    int want = !known ? UNKNOWN : !isNote(note) ? OUTSIDE : TAKEN;
                    check(c, "sing(" + which + ", " + place + ", " + note + ")", want, x -> x.sing(which, place, note));
                }
            }
        }
    }

    private static void wouldBe(Case c) {
        for (int what : new int[] {LOW, -1, 0, 1, 2, 9, 10, 14, 15, HIGH}) {
            boolean asked = what == 0 || what == 1 || what >= 10 && what <= 14;
            int want = !asked ? OUTSIDE : c.ways == 16 ? STATE : c.noCityOrTunes();
            check(c, "way(" + what + ")", want, x -> x.way(what));
        }
        for (int streets : new int[] {LOW, -1, 0, 3, 4, HIGH}) {
            boolean missing = c.city.isEmpty() || c.carried.isEmpty();
            int want = streets < 0 || streets > 3 ? OUTSIDE : missing ? STATE : TAKEN;
            check(c, "become(" + streets + ")", want, x -> x.become(streets));
        }
        boolean tunes = !c.carried.isEmpty() && !c.toldOf.isEmpty();
        check(c, "apart()", tunes ? TAKEN : STATE, x -> x.apart());
        check(c, "near()", c.noCityOrTunes(), x -> x.near());
        check(c, "forget()", TAKEN, x -> x.forget());
    }

    private static void wander(Case c) {
        for (int times : TIMES) {
            for (int seed : new int[] {LOW, -1, 0, HIGH}) {
                for (int what : new int[] {LOW, -1, 0, 1, 2, 3, HIGH}) {
                    boolean outside = times < 1 || times > 60 || seed < 0 || what < 0 || what > 2;
                    int want = outside ? OUTSIDE : c.noCityOrTunes();
                    check(c, "wander(" + times + ", " + seed + ", " + what + ")", want, x -> x.wander(times, seed, what));
                }
            }
        }
    }

    private static void all(Case c) {
        check(c, "image()", c.city.isEmpty() ? STATE : TAKEN, x -> x.image());
        check(c, "restore()", c.image ? TAKEN : STATE, x -> x.restore());
        for (int what : new int[] {LOW, -1, 0, 12, 13, HIGH}) {
            check(c, "count(" + what + ")", what < 0 || what > 12 ? OUTSIDE : TAKEN, x -> x.count(what));
        }
    }
}
