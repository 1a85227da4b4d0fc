/** What all tests have in common: answers that are due, and texts that come onto the tape. */
final class Kit {
    /** The words that are no NAMES, as the terms list them. */
    static final String[] NO_NAMES = {"room", "floor", "area", "bears", "water", "door", "from", "to", "sill", "wide",
        "leaks", "tide", "pump", "rota", "errand", "by", "sea", "hour", "open", "shut", "bail", "any", "when", "wet",
        "depth", "loop", "end", "stop"};

    private static int wrong = 0;
    private static int asked = 0;
    private static int sentences = 0;
    private static String sentence = "";

    private Kit() {
    }

    /** From here on answers are held against this sentence of the document, which starts with where it stands. */
    static void sentence(String where) {
        sentences++;
        sentence = where + " -- ";
    }

    static void due(String call, long got, long want) {
        asked++;
        if (got != want) {
            wrong++;
            System.out.println(sentence + call + " answered " + got + ", due is " + want);
        }
    }

    static void due(String call, boolean got, boolean want) {
        due(call, got ? 1 : 0, want ? 1 : 0);
    }

    static void due(String call, String got, String want) {
        asked++;
        if (!got.equals(want)) {
            wrong++;
            System.out.println(sentence + call + " answered " + got + ", due is " + want);
        }
    }

    /** A call that is refused: NONE, and this STATUS. */
    static void refused(DryDoors x, String call, long got, int status) {
        due(call, got, DryDoors.NONE);
        due(call + ": status", x.status(), status);
    }

    static void refused(DryDoors x, String call, boolean got, int status) {
        due(call, got, false);
        due(call + ": status", x.status(), status);
    }

    /** An answer that may be -1 with STATUS 0. */
    static void fine(DryDoors x, String call, long got, long want) {
        due(call, got, want);
        due(call + ": status", x.status(), 0);
    }

    static void fine(DryDoors x, String call, boolean got) {
        due(call, got, true);
        due(call + ": status", x.status(), 0);
    }

    /** Brings a text onto the tape, 20 bytes at a time, and tells how long it is. */
    static int onTape(DryDoors x, String text) {
        for (int i = 0; i < text.length(); i += 20) {
            int[] fours = new int[5];
            for (int j = 0; j < 20; j++) {
                int c = i + j < text.length() ? text.charAt(i + j) & 255 : 0;
                fours[j / 4] = fours[j / 4] << 8 | c;
            }
            x.feed(fours[0], fours[1], fours[2], fours[3], fours[4]);
        }
        return text.length();
    }

    static int land(DryDoors x, String text) {
        return x.land(onTape(x, text));
    }

    static int nights(DryDoors x, String text) {
        return x.nights(onTape(x, text));
    }

    static DryDoors of(String land) {
        DryDoors x = new DryDoors();
        land(x, land);
        due("land of \"" + land + "\"", x.status(), 0);
        return x;
    }

    /** A LAND some DOORS of which are held OPEN by hand from the beginning. */
    static DryDoors held(String land, int... doors) {
        DryDoors x = of(land);
        for (int d : doors) {
            due("hold " + d, x.hold(d, true), true);
        }
        return x;
    }

    /** A LAND with NIGHTS, which have so many STEPS. */
    static DryDoors withNights(String land, String nights, int steps) {
        DryDoors x = of(land);
        due("nights of \"" + nights + "\"", nights(x, nights), steps);
        return x;
    }

    static void allTides(DryDoors x, int height) {
        for (int h = 0; h < 12; h++) {
            x.moon(h, height);
        }
    }

    /** All that told() tells, from what 0 on. */
    static void told(DryDoors x, int... want) {
        for (int what = 0; what < want.length; what++) {
            fine(x, "told " + what, x.told(what), want[what]);
        }
    }

    /** HOURS go by until it is that one. */
    static void goTo(DryDoors x, int hour) {
        // 9,999 HOURS at the most, so that a broken class is told of and does not keep the test waiting
        for (int i = 0; i < 102 && x.told(3) < hour; i++) {
            x.hour(Math.min(99, hour - x.told(3)));
        }
        due("goTo: the HOUR", x.told(3), hour);
    }

    /** PARTS of the same form, with the letters from 'a' on in place of each #. */
    static String parts(int many, String form) {
        return parts(many, form, 'a');
    }

    static String parts(int many, String form, char first) {
        StringBuilder text = new StringBuilder();
        for (int i = 0; i < many; i++) {
            text.append(form.replace('#', (char) (first + i)));
        }
        return text.toString();
    }

    static void end(String what) {
        System.out.println(what + ": " + (sentences > 0 ? sentences + " sentences, " : "") + asked + " answers, " + wrong
                + " not as due");
        if (wrong != 0) {
            System.exit(1);
        }
    }
}
