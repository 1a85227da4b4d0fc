/** The sentences that name a boundary case: NIGHTS as they are LIVED, MARKS (section 4; promises 68 to 72). */
public final class EdgesOfNights {
    private static final int LEAST = Integer.MIN_VALUE;
    private static final int MOST = Integer.MAX_VALUE;
    private static final String BASIN = "room a floor 0;door p from sea to a sill 5;";
    /** In an HOUR 5 come by p, 7 by q. */
    private static final String TWO = "room a floor 0;room b floor 0;door p from sea to a sill 5;"
            + "door q from sea to b sill 3;";

    private static void dueLived(DryDoors x, String what, int missed, int hours, int bailed, int drowned, int left) {
        int[] all = {missed, hours, bailed, drowned, left};
        for (int i = 0; i < 5; i++) {
            Kit.fine(x, what + ": lived " + i, x.lived(i), all[i]);
        }
    }

    private static DryDoors lived(String land, String nights, int steps) {
        DryDoors x = Kit.of(land);
        Kit.nights(x, nights);
        Kit.fine(x, "live of " + nights, x.live(0), steps);
        return x;
    }

    // ---- promise 68

    private static void seeds() {
        Kit.sentence("4.: LIVED by a seed (0 to 9,999); Promise 68: (1; 6: no NIGHTS)");
        DryDoors x = Kit.withNights(BASIN, "hour 1;", 1);
        int[] wrong = {-1, 10000, LEAST, MOST};
        for (int seed : wrong) {
            Kit.refused(x, "seed " + seed, x.live(seed), 1);
        }
        Kit.fine(x, "nothing went by", x.told(3), 0);
        Kit.refused(x, "nothing was LIVED", x.lived(0), 6);
        Kit.fine(x, "seed 0", x.live(0), 1);
        Kit.fine(x, "seed 9,999", x.live(9999), 1);
        Kit.fine(x, "it stays", x.told(3), 2);
        DryDoors none = Kit.of(BASIN);
        Kit.refused(none, "no NIGHTS", none.live(0), 6);
        Kit.sentence("Promise 68: (1 ahead of 6)");
        Kit.refused(none, "seed -1, no NIGHTS", none.live(-1), 1);
        Kit.refused(none, "seed 10,000, no NIGHTS", none.live(10000), 1);
    }

    private static void draws() {
        Kit.sentence("4.: s becomes what is left of s times 3,011 and 11,213 by 65,536; the draw by n is the rest of s by 8, "
                + "rounded down, by n");
        String ten = "room a floor 0;" + Kit.parts(10, "door # from sea to a sill 99;", 'b');
        DryDoors x = Kit.withNights(ten, "any;any;any;", 3);
        x.mark();
        // 11,213: 1,401; 22,516: 2,814; 42,665: 5,333
        Kit.fine(x, "seed 0", x.live(0), 3);
        Kit.fine(x, "1, 4, 3", x.told(8), 2 | 16 | 8);
        x.undo();
        Kit.nights(x, "any;");
        int[] seeds = {1, 2, 9998, 9999};
        // 14,224: 1,778; 17,235: 2,154; 34,167: 4,270; 37,178: 4,647
        int[] door = {8, 4, 0, 7};
        for (int i = 0; i < 4; i++) {
            x.mark();
            Kit.fine(x, "seed " + seeds[i], x.live(seeds[i]), 1);
            Kit.fine(x, "DOOR by seed " + seeds[i], x.told(8), 1 << door[i]);
            x.undo();
        }
        DryDoors three = Kit.withNights("room a floor 0;" + Kit.parts(3, "door # from sea to a sill 99;", 'b'), "any;any;any;",
                3);
        // 1,401 by 3: 0; 2,814: 0; 5,333: 2
        three.live(0);
        Kit.fine(three, "0 and no more, 2", three.told(8), 4);
    }

    private static void anyDoor() {
        Kit.sentence("4.: any: .. is held OPEN if it was not, else no more (MISSED, without a draw, if there are none)");
        DryDoors x = Kit.withNights(BASIN, "any;any;any;", 3);
        x.live(0);
        Kit.fine(x, "of one DOOR: held, no more, held", x.told(8), 1);
        x.live(0);
        Kit.fine(x, "no more, held, no more", x.told(8), 0);
        dueLived(x, "none is MISSED", 0, 0, 0, 0, 0);
        x.wall(0, true);
        x.live(0);
        Kit.fine(x, "a WALLED one, too", x.told(8), 1);
        DryDoors none = lived("room a floor 0;", "any;any;", 2);
        dueLived(none, "no DOORS", 2, 0, 0, 0, 0);
    }

    private static void hoursGoBy() {
        Kit.sentence("4.: hour: so many (1 to 12)");
        DryDoors x = lived("room a floor 0 area 20 water 99;pump a 1;", "hour 1;hour 12;", 2);
        Kit.fine(x, "HOUR", x.told(3), 13);
        Kit.fine(x, "WATER", x.told(4), 86);
        dueLived(x, "13", 0, 13, 0, 0, 0);
    }

    private static void hoursBeyondTheLast() {
        Kit.sentence("4.: what can't be is MISSED: HOURS beyond 9,999 (as a whole)");
        DryDoors x = Kit.withNights("room a floor 0 water 99;", "hour 12;hour 3;hour 2;hour 1;", 4);
        Kit.goTo(x, 9990);
        x.pump(0, 1);
        Kit.fine(x, "live", x.live(0), 4);
        Kit.fine(x, "12 no, 3, 2 and 1 are", x.told(3), 9996);
        dueLived(x, "12 no", 1, 6, 0, 0, 0);
        Kit.fine(x, "live", x.live(0), 4);
        Kit.fine(x, "12 no, 3 to 9,999, 2 and 1 no more", x.told(3), 9999);
        dueLived(x, "12, 2 and 1 no", 3, 3, 0, 0, 0);
        Kit.fine(x, "WATER", x.told(4), 90);
        Kit.fine(x, "live", x.live(0), 4);
        dueLived(x, "none any more", 4, 0, 0, 0, 0);
        DryDoors whole = Kit.withNights("room a floor 0 water 99;", "hour 12;", 1);
        Kit.goTo(whole, 9987);
        whole.live(0);
        Kit.fine(whole, "12 to 9,999", whole.told(3), 9999);
        DryDoors one = Kit.withNights("room a floor 0 water 99;", "hour 12;", 1);
        Kit.goTo(one, 9988);
        one.live(0);
        Kit.fine(one, "12 to 10,000", one.told(3), 9988);
    }

    private static void openAndShut() {
        Kit.sentence("4.: MISSED: an open of what is held, a shut of what is not");
        DryDoors x = lived(BASIN, "open p;open p;shut p;shut p;", 4);
        dueLived(x, "the second of both", 2, 0, 0, 0, 0);
        Kit.fine(x, "held no more", x.told(8), 0);
        DryDoors rota = lived(BASIN + "rota 0 p;", "shut p;open p;", 2);
        dueLived(rota, "OPEN by the ROTA is not held", 1, 0, 0, 0, 0);
        Kit.fine(rota, "held", rota.told(8), 1);
        DryDoors held = Kit.held(BASIN, 0);
        Kit.nights(held, "open p;");
        held.live(0);
        dueLived(held, "held ahead", 1, 0, 0, 0, 0);
        Kit.fine(held, "held still", held.told(8), 1);
        DryDoors walled = Kit.withNights(BASIN, "open p;shut p;shut p;", 3);
        walled.wall(0, true);
        walled.live(0);
        dueLived(walled, "WALLED all the same", 1, 0, 0, 0, 0);
    }

    private static void bails() {
        Kit.sentence("4.: bail: 1 to 999 (MISSED if there is less)");
        DryDoors x = lived("room a floor 0 water 9;room b floor 0 water 999;", "bail a 10;bail a 8;bail a 2;bail a 1;bail a 1;"
                + "bail b 999;", 6);
        dueLived(x, "10 of 9, 2 of 1, 1 of 0", 3, 0, 9 + 999, 0, 0);
        Kit.fine(x, "nothing is left", x.told(4), 0);
    }

    /** The STEPS come to with a test ahead of one of them: 2 if it is so, 1 if it is not. */
    private static void dueTest(DryDoors x, String test, boolean is) {
        Kit.nights(x, "when " + test + ";loop 1;end;end;");
        Kit.fine(x, "live of when " + test, x.live(0), is ? 2 : 1);
    }

    private static void wetTest() {
        Kit.sentence("4.: when wet: DEPTH above 0");
        DryDoors x = Kit.of("room a floor 5 area 2 water 2;room b floor 5 area 2 water 1;room c floor 5;");
        dueTest(x, "wet a", true);
        dueTest(x, "wet b", false);
        dueTest(x, "wet c", false);
    }

    private static void openTest() {
        Kit.sentence("4.: when open: the DOOR is OPEN in this HOUR");
        DryDoors x = Kit.held("room a floor 0;" + Kit.parts(3, "door # from sea to a sill 99;", 'p') + "rota 0 q;rota 1 r;", 0);
        dueTest(x, "open p", true);
        dueTest(x, "open q", true);
        dueTest(x, "open r", false);
        x.hour(1);
        dueTest(x, "open p", true);
        dueTest(x, "open q", false);
        dueTest(x, "open r", true);
        x.wall(0, true);
        x.wall(2, true);
        dueTest(x, "open p", false);
        dueTest(x, "open r", false);
        x.hour(11);
        dueTest(x, "open q", true);
    }

    private static void depthTest() {
        Kit.sentence("4.: when depth: < or > or =, 0 to 9,999");
        DryDoors x = Kit.of("room a floor 50 area 2 water 7;room b floor 50;");
        // DEPTH 3, and 0
        String[] so = {"a<4", "a>2", "a=3", "b<1", "b=0", "a<9999", "a>0", "b<9999"};
        String[] not = {"a<3", "a>3", "a=2", "a=4", "a<2", "a>4", "b<0", "b>0", "b=1", "a>9999", "b=9999", "a=7"};
        for (String test : so) {
            dueTest(x, "depth " + test, true);
        }
        for (String test : not) {
            dueTest(x, "depth " + test, false);
        }
    }

    private static void whenIsNot() {
        Kit.sentence("4.: when TEST ; {STEP} end: what stands within it is left out if it is not so");
        DryDoors x = lived(BASIN, "when wet a;any;loop 2;any;end;when open p;any;end;stop;end;hour 1;", 2);
        Kit.fine(x, "the HOUR behind it", x.told(3), 1);
        Kit.fine(x, "nothing of it", x.told(8), 0);
        DryDoors y = lived(BASIN, "open p;when open p;hour 1;when wet a;bail a 5;end;hour 1;end;", 6);
        Kit.fine(y, "all of it", y.told(4), 5);
    }

    private static void loops() {
        Kit.sentence("4.: loop n (1 to 99): as often");
        DryDoors one = lived("room a floor 0 water 999;", "loop 1;bail a 1;end;", 2);
        Kit.fine(one, "once", one.told(4), 998);
        DryDoors most = lived("room a floor 0 water 999;", "loop 99;bail a 1;end;", 100);
        Kit.fine(most, "99 times", most.told(4), 900);
        DryDoors within = lived("room a floor 0 water 999;", "loop 3;loop 4;bail a 1;end;bail a 100;end;bail a 500;",
                1 + 3 * (1 + 4 + 1) + 1);
        Kit.fine(within, "each time anew", within.told(4), 999 - 12 - 300 - 500);
        DryDoors empty = lived("room a floor 0;", "loop 99;end;loop 2;loop 99;end;end;any;", 1 + 1 + 2 + 1);
        dueLived(empty, "nothing within", 1, 0, 0, 0, 0);
    }

    private static void threeWithin() {
        Kit.sentence("4.: loops and whens within three of them");
        DryDoors x = lived("room a floor 0 water 999;", "loop 2;loop 3;loop 4;bail a 1;end;end;end;",
                1 + 2 * (1 + 3 * (1 + 4)));
        Kit.fine(x, "24 times", x.told(4), 975);
        DryDoors y = lived("room a floor 0 water 9;", "loop 3;when depth a>7;when wet a;bail a 1;end;end;end;hour 1;",
                1 + 3 + 3 + 1 + 1);
        Kit.fine(y, "twice", y.told(4), 7);
    }

    private static void stops() {
        Kit.sentence("4.: stop ends the NIGHTS, and is a STEP itself");
        DryDoors x = lived("room a floor 0 water 9;", "loop 5;bail a 1;when wet a;stop;end;end;bail a 1;", 4);
        Kit.fine(x, "one", x.told(4), 8);
        dueLived(x, "by stop nothing is left", 0, 0, 1, 0, 0);
        DryDoors first = lived("room a floor 0;", "stop;hour 1;", 1);
        dueLived(first, "at once", 0, 0, 0, 0, 0);
    }

    private static void mostSteps() {
        Kit.sentence("4.: at most 300 STEPS (when, loop count as one each time they are come to from ahead; end does not); "
                + "Promise 69: what 4: 1 if a STEP was left to be done (by the 300 alone, not by stop), else 0");
        // 1 and 99 times 3 are 298
        String head = "loop 99;bail a 1;bail a 1;bail a 1;end;";
        String[] tails = {"", "any;", "any;any;", "any;any;any;", "any;stop;any;", "any;any;stop;", "any;any;loop 1;end;",
            "any;loop 9;end;", "loop 1;any;end;", "loop 2;any;end;", "any;when wet b;any;end;", "any;when wet b;any;end;any;",
            "any;any;when wet b;any;end;", "when wet a;when wet b;any;end;end;", "any;when wet a;any;end;"};
        int[] steps = {298, 299, 300, 300, 300, 300, 300, 300, 300, 300, 300, 300, 300, 300, 300};
        int[] left = {0, 0, 0, 1, 0, 1, 1, 0, 0, 1, 0, 1, 1, 0, 1};
        for (int i = 0; i < tails.length; i++) {
            DryDoors x = Kit.of("room a floor 0 water 999;room b floor 0;door p from sea to a sill 99;");
            Kit.nights(x, head + tails[i]);
            Kit.fine(x, "live of " + tails[i], x.live(0), steps[i]);
            Kit.fine(x, "left of " + tails[i], x.lived(4), left[i]);
            Kit.fine(x, "bailed by " + tails[i], x.lived(2), 297);
        }
    }

    private static void mostStepsWithin() {
        Kit.sentence("4.: at most 300 STEPS, MISSED ones, too");
        DryDoors x = lived("room a floor 0;", "loop 99;loop 99;loop 99;bail a 1;end;end;end;", 300);
        // three loops and 99 bails, then a loop and 99, then a loop and 97
        dueLived(x, "by loops within", 295, 0, 0, 0, 1);
        DryDoors hours = lived("room a floor 0;", "loop 99;hour 1;hour 1;hour 12;hour 12;end;", 300);
        // 299 behind the loop: 74 times all four, then 1, 1, 12
        dueLived(hours, "HOURS", 0, 74 * 26 + 14, 0, 0, 1);
        DryDoors stay = lived("room a floor 0 water 999;", "loop 99;bail a 1;bail a 1;bail a 1;bail a 1;end;", 300);
        Kit.fine(stay, "it stays as far as it came", stay.told(4), 700);
    }

    // ---- promise 69

    private static void whatWasLived() {
        Kit.sentence("Promise 69: what 0 to 4 (1; 6: there was none)");
        DryDoors none = Kit.withNights(BASIN, "any;", 1);
        for (int what = 0; what < 5; what++) {
            Kit.refused(none, "what " + what, none.lived(what), 6);
        }
        none.mean(0, 3);
        Kit.refused(none, "mean() is no live()", none.lived(0), 6);
        none.live(10000);
        Kit.refused(none, "a refused one is none", none.lived(0), 6);
        int[] wrong = {-1, 5, LEAST, MOST};
        Kit.sentence("Promise 69: (1 ahead of 6)");
        for (int what : wrong) {
            Kit.refused(none, "what " + what + ", there was none", none.lived(what), 1);
        }
        none.live(0);
        for (int what : wrong) {
            Kit.refused(none, "what " + what, none.lived(what), 1);
        }
        dueLived(none, "there was one", 0, 0, 0, 0, 0);
    }

    private static void whateverCame() {
        Kit.sentence("Promise 69: of live() latest with STATUS 0 (whatever came behind it)");
        DryDoors x = Kit.withNights("room a floor 0 bears 1 water 9;room b floor 0 bears 1 water 2;", "hour 2;bail a 9;bail a 1;",
                3);
        x.mark();
        x.live(5);
        dueLived(x, "live", 1, 2, 9, 2, 0);
        x.live(-1);
        dueLived(x, "a refused live()", 1, 2, 9, 2, 0);
        x.mean(0, 20);
        dueLived(x, "mean()", 1, 2, 9, 2, 0);
        x.undo();
        dueLived(x, "undo()", 1, 2, 9, 2, 0);
        Kit.nights(x, "");
        dueLived(x, "other NIGHTS", 1, 2, 9, 2, 0);
        Kit.land(x, "");
        dueLived(x, "another LAND", 1, 2, 9, 2, 0);
        x.live(0);
        dueLived(x, "a live() without NIGHTS", 1, 2, 9, 2, 0);
    }

    private static void drownedInIt() {
        Kit.sentence("Promise 69: what 3: ROOMS that were DROWNED");
        DryDoors x = Kit.withNights("room a floor 0 bears 1 water 2;room b floor 0 bears 1 water 2;room c floor 0 bears 1 "
                + "water 1;", "hour 1;hour 1;hour 12;", 3);
        x.hour(1);
        x.build(1);
        x.live(0);
        dueLived(x, "b alone; a was ahead", 0, 14, 0, 1, 0);
        x.live(0);
        dueLived(x, "none more", 0, 14, 0, 0, 0);
    }

    private static void ofTheLatestAlone() {
        Kit.sentence("Promise 69: of live() latest: not of those ahead of it");
        DryDoors x = Kit.withNights("room a floor 0 bears 1 water 9;room b floor 0 area 20 bears 99 water 999;",
                "hour 3;bail a 10;loop 99;bail b 1;bail b 1;bail b 1;end;", 6);
        x.live(0);
        dueLived(x, "the first", 1, 3, 297, 1, 0);
        Kit.nights(x, "shut p;");
        Kit.nights(x, "loop 99;bail b 1;bail b 1;bail b 1;bail b 1;end;");
        x.live(0);
        dueLived(x, "the second", 0, 0, 299, 0, 1);
        Kit.nights(x, "hour 1;");
        x.live(0);
        dueLived(x, "the third", 0, 1, 0, 0, 0);
    }

    // ---- promise 70

    private static void dueMean(DryDoors x, int seed, int many, int top, int bottom) {
        Kit.fine(x, "mean of " + seed + ", " + many, x.mean(seed, many));
        Kit.due("top", x.top(), top);
        Kit.due("bottom", x.bottom(), bottom);
    }

    private static void seedsOfMean() {
        Kit.sentence("Promise 70: by so many seeds (1 to 20) from one on (1: the last above 9,999, too; 6: no NIGHTS)");
        DryDoors x = Kit.withNights(TWO, "any;hour 1;", 2);
        // 0 draws q: 7; 1 and 2 draw p: 5; 9,998: 4,270, p; 9,999: 4,647, q
        dueMean(x, 0, 1, 7, 1);
        dueMean(x, 0, 2, 6, 1);
        dueMean(x, 0, 3, 17, 3);
        dueMean(x, 1, 2, 5, 1);
        dueMean(x, 9998, 2, 6, 1);
        dueMean(x, 9999, 1, 7, 1);
        Kit.fine(x, "20", x.mean(0, 20));
        Kit.fine(x, "20 to 9,999", x.mean(9980, 20));
        dueMean(x, 1, 1, 5, 1);
        int[][] wrong = {{0, 0}, {0, -1}, {0, 21}, {-1, 1}, {-1, 2}, {10000, 1}, {9999, 2}, {9981, 20}, {0, LEAST}, {0, MOST},
            {LEAST, 1}, {MOST, 1}, {MOST, MOST}, {MOST, 20}};
        for (int[] w : wrong) {
            Kit.refused(x, "mean of " + w[0] + ", " + w[1], x.mean(w[0], w[1]), 1);
        }
        Kit.due("the FRACTION is kept", x.top() * 10 + x.bottom(), 51);
        DryDoors none = Kit.of(TWO);
        Kit.refused(none, "no NIGHTS", none.mean(0, 1), 6);
        Kit.sentence("Promise 70: (1 ahead of 6)");
        Kit.refused(none, "21, no NIGHTS", none.mean(0, 21), 1);
        Kit.refused(none, "to 10,000, no NIGHTS", none.mean(9999, 2), 1);
        Kit.due("the FRACTION is 0 by 1 still", none.top() * 10 + none.bottom(), 1);
    }

    private static void meanOfTwenty() {
        Kit.sentence("Promise 70: the mean of all WATER behind the NIGHTS: 20 seeds");
        DryDoors x = Kit.withNights("room a floor 0 area 20;room b floor 0 area 20;door p from sea to a sill 99;"
                + "door q from sea to b sill 9;", "any;hour 1;", 2);
        // q is drawn where s by 16 leaves 8 and more, which is 3 times the seed and 13 by 16: 9, 12, 15, 2, 5, 8, 11,
        // 14, 1, 4, 7, 10, 13, 0, 3, 6, 9, 12, 15, 2 from seed 100 on, then 5
        dueMean(x, 100, 20, 11, 20);
        dueMean(x, 101, 20, 1, 2);
        dueMean(x, 101, 19, 10, 19);
    }

    private static void allStays() {
        Kit.sentence("Promise 70: all stays as it is; 4.: (mean() alone takes it back)");
        DryDoors x = Kit.withNights("room a floor 0 bears 1 water 50;door p from sea to a sill 5;", "any;hour 12;bail a 1;", 3);
        Kit.fine(x, "mean", x.mean(7, 20));
        Kit.told(x, 1, 1, 0, 0, 50, 1, 0, 0, 0, 0);
        Kit.fine(x, "MARK", x.room(0, 7), 0);
        Kit.fine(x, "live", x.live(7), 3);
        Kit.fine(x, "what live() does stays", x.told(3), 12);
    }

    private static void meanAtTheLastHour() {
        Kit.sentence("4.: LIVED: MISSED: HOURS beyond 9,999 (as a whole), in mean() as in live()");
        DryDoors x = Kit.withNights("room a floor 0 water 99;", "hour 4;hour 5;", 2);
        Kit.goTo(x, 9995);
        x.pump(0, 1);
        // 4 HOURS to 9,999, then none
        dueMean(x, 0, 2, 95, 1);
        x.hour(1);
        // neither; 4 alone at 9,995
        dueMean(x, 0, 1, 98, 1);
        Kit.fine(x, "HOUR", x.told(3), 9996);
    }

    private static void withoutSteps() {
        Kit.sentence("4.: NIGHTS: {STEP}: of no STEPS");
        DryDoors x = Kit.withNights("room a floor 0 water 3;", "", 0);
        Kit.fine(x, "live", x.live(0), 0);
        dueLived(x, "nothing", 0, 0, 0, 0, 0);
        dueMean(x, 0, 2, 3, 1);
    }

    // ---- promises 71, 72

    private static void threeMarks() {
        Kit.sentence("4.: MARKS, at most 3; Promise 71: how many there are (4); Promise 72: how many there are left (6)");
        DryDoors x = Kit.of(BASIN);
        Kit.refused(x, "none", x.undo(), 6);
        for (int i = 1; i <= 3; i++) {
            Kit.fine(x, "mark", x.mark(), i);
            x.hour(1);
        }
        Kit.refused(x, "a fourth", x.mark(), 4);
        Kit.refused(x, "a fourth", x.mark(), 4);
        Kit.fine(x, "HOUR", x.told(3), 3);
        for (int i = 2; i >= 0; i--) {
            Kit.fine(x, "undo", x.undo(), i);
            Kit.fine(x, "HOUR", x.told(3), i);
        }
        Kit.refused(x, "none is left", x.undo(), 6);
        Kit.fine(x, "HOUR", x.told(3), 0);
        Kit.fine(x, "mark", x.mark(), 1);
        Kit.fine(x, "undo", x.undo(), 0);
    }

    private static void backToTheLatest() {
        Kit.sentence("4.: all is taken back to the latest, which is gone then");
        DryDoors x = Kit.of(BASIN);
        x.hour(1);
        x.mark();
        x.hour(2);
        x.mark();
        x.hour(4);
        Kit.fine(x, "undo", x.undo(), 1);
        Kit.fine(x, "HOUR", x.told(3), 3);
        x.hour(8);
        Kit.fine(x, "a MARK in place of that which is gone", x.mark(), 2);
        x.hour(16);
        Kit.fine(x, "undo", x.undo(), 1);
        Kit.fine(x, "HOUR", x.told(3), 11);
        Kit.fine(x, "undo", x.undo(), 0);
        Kit.fine(x, "HOUR", x.told(3), 1);
    }

    private static void allOfTheLand() {
        Kit.sentence("4.: the LAND with all that became of it, the NIGHTS are kept as they are");
        DryDoors x = Kit.withNights("room a floor 4 area 2 bears 3 water 9;room b floor 0;door p from sea to a sill 50 wide 2 "
                + "leaks 1;tide 4 7;pump b 5;rota 2 p;errand e by p from 1 to 2;", "any;stop;", 2);
        x.hour(1);
        x.hold(0, true);
        x.wall(0, true);
        x.mark();
        Kit.land(x, "room c floor 9;room d floor 9;room e floor 9;door q from sea to e sill 1;tide 4 3;");
        Kit.nights(x, "hour 3;");
        x.live(0);
        Kit.fine(x, "undo", x.undo(), 0);
        Kit.told(x, 2, 1, 1, 1, 9, 1, 1, 0, 1, 1);
        int[] room = {4, 2, 3, 0, 9, 4, 8, 4};
        for (int what = 0; what < 8; what++) {
            Kit.fine(x, "room 0, " + what, x.room(0, what), room[what]);
        }
        Kit.fine(x, "PUMP", x.room(1, 3), 5);
        int[] door = {-1, 0, 50, 2, 1, 4};
        for (int what = 0; what < 6; what++) {
            Kit.fine(x, "door 0, " + what, x.door(0, what), door[what]);
        }
        int[] errand = {0, 1, 2};
        for (int what = 0; what < 3; what++) {
            Kit.fine(x, "errand 0, " + what, x.errand(0, what), errand[what]);
        }
        Kit.fine(x, "TIDE", x.tide(4), 7);
        Kit.fine(x, "NIGHTS", x.live(0), 2);
        Kit.fine(x, "NAMES", Kit.nights(x, "open p;bail a 1;bail b 1;"), 3);
        Kit.refused(x, "NAMES of the other", Kit.nights(x, "open q;"), 9);
    }

    private static void whatIsDoneIsTakenBack() {
        Kit.sentence("Promise 72: all is taken back: what each call has done");
        DryDoors x = Kit.of("room a floor 0 bears 1 water 9;door p from sea to a sill 5;tide 3 4;");
        x.hour(1);
        x.mark();
        x.bail(0, 4);
        x.wipe();
        x.rota(3, 0, true);
        x.moon(3, 9);
        x.pump(0, 7);
        x.raise(0, 3);
        x.build(0);
        x.hold(0, true);
        x.wall(0, true);
        x.hour(5);
        Kit.nights(x, "any;");
        Kit.fine(x, "undo", x.undo(), 0);
        Kit.told(x, 1, 1, 0, 1, 9, 1, 1, 0, 0, 0);
        Kit.fine(x, "MARK on the WALL", x.room(0, 7), 9);
        Kit.fine(x, "ROTA", x.door(0, 5), 0);
        Kit.fine(x, "TIDE", x.tide(3), 4);
        Kit.fine(x, "PUMP", x.room(0, 3), 0);
        Kit.fine(x, "SILL", x.door(0, 2), 5);
        Kit.refused(x, "no NIGHTS", x.live(0), 6);
    }

    private static void whatIsKept() {
        Kit.sentence("4.: MARKS keep the LAND and the NIGHTS alone: TRAYS, the tape, the FRACTION, FAULTS, what was LIVED stay");
        DryDoors x = Kit.withNights(TWO, "hour 2;", 1);
        x.mark();
        x.tray(0, 1, 1);
        x.write(0, 0, 5);
        x.live(0);
        x.guilt(1, 3);
        Kit.nights(x, "hour!");
        x.feed(0, 0, 0, 0, 0);
        Kit.fine(x, "undo", x.undo(), 0);
        Kit.fine(x, "TRAY", x.read(0, 0), 5);
        Kit.fine(x, "LIVED", x.lived(1), 2);
        Kit.due("FRACTION", x.top() * 10 + x.bottom(), 101);
        Kit.due("FAULT", x.fault(0) * 10 + x.fault(1), 14);
        Kit.due("tape", x.feed(0, 0, 0, 0, 0), 40);
    }

    private static void marksStayBehindALand() {
        Kit.sentence("4.: MARKS stay where another LAND is taken");
        DryDoors x = Kit.of(BASIN);
        x.mark();
        x.mark();
        Kit.land(x, "room a floor 0;room b floor 0;");
        Kit.fine(x, "a third", x.mark(), 3);
        Kit.refused(x, "a fourth", x.mark(), 4);
        Kit.fine(x, "undo", x.undo(), 2);
        Kit.fine(x, "two ROOMS", x.told(0), 2);
        Kit.fine(x, "undo", x.undo(), 1);
        Kit.fine(x, "one ROOM", x.told(0), 1);
    }

    // ---- what it is

    private static void fiveHundredAndTwelve() {
        Kit.sentence("What it is: an object is used for at most 512 calls");
        DryDoors x = new DryDoors();
        int calls = 0;
        for (int i = 0; i < 127; i++) {
            Kit.due("mark " + i, x.mark(), 1);
            Kit.due("hour " + i, x.hour(99), 0);
            Kit.due("undo " + i, x.undo(), 0);
            Kit.due("tray " + i, x.tray(i % 4, i % 4, i % 61), true);
            calls += 4;
        }
        Kit.due("told", x.told(3), 0);
        Kit.due("moon", x.moon(0, 3), true);
        Kit.due("low", x.low(), 0);
        Kit.due("tide, the last of 512 calls", x.tide(0), 3);
        Kit.due("calls", calls + 4, 512);
    }

    public static void main(String[] args) {
        seeds();
        draws();
        anyDoor();
        hoursGoBy();
        hoursBeyondTheLast();
        openAndShut();
        bails();
        wetTest();
        openTest();
        depthTest();
        whenIsNot();
        loops();
        threeWithin();
        stops();
        mostSteps();
        mostStepsWithin();
        whatWasLived();
        whateverCame();
        drownedInIt();
        ofTheLatestAlone();
        seedsOfMean();
        meanOfTwenty();
        allStays();
        meanAtTheLastHour();
        withoutSteps();
        threeMarks();
        backToTheLatest();
        allOfTheLand();
        whatIsDoneIsTakenBack();
        whatIsKept();
        marksStayBehindALand();
        fiveHundredAndTwelve();
        Kit.end("edges of nights");
    }
}
