/** What the tests share: writing texts, comparing answers, ending with exit code 1. */
final class Checks {
    private int asked;
    private int wrong;

    void due(String call, long got, long want) {
        asked++;
        if (got != want) {
            wrong++;
            System.out.println(call + " answered " + got + ", due is " + want);
        }
    }

    boolean anyWrong() {
        return wrong > 0;
    }

    void end(String name) {
        System.out.println(name + ": " + asked + " answers, " + wrong + " not as due");
        if (wrong > 0 || asked == 0) {
            System.exit(1);
        }
    }

    static void write(KeyStreets x, String text) {
        for (int i = 0; i < text.length(); i++) {
            x.letter(text.charAt(i));
        }
    }

    static KeyStreets inCity(String city) {
        KeyStreets x = new KeyStreets();
        write(x, city);
        if (x.city() < 0) {
            throw new IllegalStateException("no city: " + city);
        }
        return x;
    }

    static KeyStreets withTunes(String city, String carried, String toldOf) {
        KeyStreets x = inCity(city);
        readTune(x, 0, carried);
        readTune(x, 1, toldOf);
        return x;
    }

    static void readTune(KeyStreets x, int which, String tune) {
        write(x, tune);
        if (!tune.isEmpty() && x.tune(which) < 0) {
            throw new IllegalStateException("no tune: " + tune);
        }
    }

    /** A tune as it is told, note by note. */
    static String tuneOf(KeyStreets x, int which) {
        StringBuilder text = new StringBuilder();
        for (int place = 0; place < 8; place++) {
            int note = x.told(which, 10 + place);
            if (note >= 0) {
                text.append((char) ('a' + note));
            }
        }
        return text.toString();
    }

    void dueTune(String call, KeyStreets x, int which, String want) {
        String got = tuneOf(x, which);
        due(call + ": tune " + got + " against " + want, got.equals(want) ? 1 : 0, 1);
    }
}
