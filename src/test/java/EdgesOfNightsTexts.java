/** The sentences that name a boundary case: NIGHTS as a TEXT, their FAULTS (section 4; promise 11). */
public final class EdgesOfNightsTexts {
    private static final String LAND = "room a floor 0 water 50;room b floor 0;door p from sea to a sill 5;"
            + "door q from a to b sill 3;errand e by p from 0 to 0;";

    /** NIGHTS are not taken: the FAULT and its place; those that were there stay. */
    private static void fault(String text, int kind, int place) {
        DryDoors x = Kit.withNights(LAND, "any;any;any;", 3);
        Kit.refused(x, text, Kit.nights(x, text), 9);
        Kit.due("fault of " + text, x.fault(0), kind);
        Kit.due("place in " + text, x.fault(1), place);
        Kit.due("the tape is empty", x.feed(0, 0, 0, 0, 0), 20);
        Kit.fine(x, "the old ones stay", x.live(0), 3);
    }

    private static void faultBehind(String ahead, String text, int kind) {
        fault(ahead + text, kind, ahead.length());
    }

    private static DryDoors taken(String text, int steps) {
        DryDoors x = Kit.of(LAND);
        Kit.fine(x, text, Kit.nights(x, text), steps);
        Kit.due("fault of " + text, x.fault(0), 0);
        Kit.due("place in " + text, x.fault(1), -1);
        return x;
    }

    // ---- promise 11

    private static void mostBytes() {
        Kit.sentence("4.: NIGHTS are a TEXT of at most 300 bytes; Promise 11: (1: above 300, too");
        DryDoors x = Kit.of(LAND);
        Kit.onTape(x, " ".repeat(296) + "any;" + " ".repeat(20));
        Kit.refused(x, "301 of 320", x.nights(301), 1);
        Kit.refused(x, "320 of 320", x.nights(320), 1);
        Kit.refused(x, "900 of 320", x.nights(900), 1);
        Kit.due("no FAULT is told of them", x.fault(0), 0);
        Kit.fine(x, "300 of 320", x.nights(300), 1);
        Kit.fine(x, "live", x.live(0), 1);
        fault(" ".repeat(299) + "!", 1, 299);
        fault(" ".repeat(296) + "when", 2, 300);
    }

    private static void howManyBytes() {
        Kit.sentence("Promise 11: likewise: (1: n below 0, or more than the tape has, too");
        DryDoors x = Kit.of(LAND);
        Kit.onTape(x, "any;any;");
        Kit.refused(x, "-1", x.nights(-1), 1);
        Kit.refused(x, "21 of 20", x.nights(21), 1);
        Kit.refused(x, "least", x.nights(Integer.MIN_VALUE), 1);
        Kit.refused(x, "most", x.nights(Integer.MAX_VALUE), 1);
        Kit.refused(x, "no NIGHTS yet", x.live(0), 6);
        Kit.fine(x, "the first 8 of 20", x.nights(8), 2);
        Kit.refused(x, "the tape is empty then", x.nights(1), 1);
        Kit.onTape(x, "any;any;");
        Kit.fine(x, "the first 4", x.nights(4), 1);
        Kit.refused(x, "the others are gone", x.nights(1), 1);
    }

    private static void howManySteps() {
        Kit.sentence("Promise 11: .. the NIGHTS: how many STEPS (end is none)");
        taken("", 0);
        taken(" \n", 0);
        taken("any;", 1);
        taken("when wet a;end;", 1);
        taken("loop 2;when open p;stop;end;end;any;", 4);
        taken("any;".repeat(30), 30);
    }

    private static void oldOnesStay() {
        Kit.sentence("Promise 11: (9), likewise the old ones stay");
        DryDoors x = Kit.withNights(LAND, "bail a 3;bail a 4;", 2);
        Kit.refused(x, "FAULT", Kit.nights(x, "bail a 5;bail a 0;"), 9);
        Kit.fine(x, "live", x.live(0), 2);
        Kit.fine(x, "3 and 4", x.lived(2), 7);
        DryDoors none = Kit.of(LAND);
        Kit.refused(none, "FAULT", Kit.nights(none, "stop"), 9);
        Kit.refused(none, "there are none still", none.live(0), 6);
    }

    private static void inPlaceOfThose() {
        Kit.sentence("Promise 11: NIGHTS that are taken are there in place of those ahead, the LAND is as it was");
        DryDoors x = Kit.withNights(LAND, "any;any;any;", 3);
        x.hold(0, true);
        x.hour(1);
        Kit.fine(x, "others", Kit.nights(x, "bail a 1;"), 1);
        Kit.due("the HOUR", x.told(3), 1);
        Kit.due("held", x.told(8), 1);
        Kit.fine(x, "live", x.live(0), 1);
        Kit.due("bailed", x.lived(2), 1);
    }

    private static void statusOneFirst() {
        Kit.sentence("Promise 11: (1 ahead of 9)");
        DryDoors x = Kit.of(LAND);
        Kit.onTape(x, "!".repeat(301));
        Kit.refused(x, "301, with a FAULT at the beginning", x.nights(301), 1);
        Kit.due("FAULT of the LAND still", x.fault(0), 0);
        Kit.refused(x, "300", x.nights(300), 9);
        Kit.due("FAULT", x.fault(0) * 10 + x.fault(1), 10);
    }

    // ---- the STEPS

    private static void hours() {
        Kit.sentence("4.: hour: so many (1 to 12); FAULT 4");
        taken("hour 1;", 1);
        taken("hour 12;", 1);
        fault("hour 0;", 4, 5);
        fault("hour 13;", 4, 5);
        fault("hour 9999;", 4, 5);
    }

    private static void bails() {
        Kit.sentence("4.: bail: 1 to 999; FAULT 4");
        taken("bail a 1;", 1);
        taken("bail b 999;", 1);
        fault("bail a 0;", 4, 7);
        fault("bail a 1000;", 4, 7);
    }

    private static void depths() {
        Kit.sentence("4.: depth: 0 to 9,999; FAULT 4");
        taken("when depth a<0;end;", 1);
        taken("when depth a>9999;end;", 1);
        taken("when depth b=0;end;", 1);
        // one more has 5 digits: no TOKEN begins so
        fault("when depth a<10000;end;", 1, 13);
    }

    private static void loops() {
        Kit.sentence("4.: loop n (1 to 99); FAULT 4");
        taken("loop 1;end;", 1);
        taken("loop 99;end;", 1);
        fault("loop 0;end;", 4, 5);
        fault("loop 100;end;", 4, 5);
    }

    private static void namesOfDoors() {
        Kit.sentence("4., FAULT 3: a NAME that is no such one (a DOOR behind open, shut");
        taken("open p;shut q;when open q;end;", 3);
        for (String other : new String[] {"a", "b", "e", "z"}) {
            faultBehind("open ", other + ";", 3);
            faultBehind("shut ", other + ";", 3);
            faultBehind("when open ", other + ";end;", 3);
        }
    }

    private static void namesOfRooms() {
        Kit.sentence("4., FAULT 3: a NAME that is no such one (.. else a ROOM)");
        taken("bail b 1;when wet a;end;when depth b<1;end;", 3);
        for (String other : new String[] {"p", "q", "e", "z"}) {
            faultBehind("bail ", other + " 1;", 3);
            faultBehind("when wet ", other + ";end;", 3);
            faultBehind("when depth ", other + "<1;end;", 3);
        }
    }

    private static void namesOfTheLandNow() {
        Kit.sentence("4., FAULT 3: the NAMES are those of the LAND that is there");
        DryDoors x = Kit.of(LAND);
        Kit.land(x, "room p floor 0;door a from sea to p sill 0;");
        Kit.fine(x, "by the new NAMES", Kit.nights(x, "open a;bail p 1;"), 2);
        Kit.refused(x, "by an old one", Kit.nights(x, "open q;"), 9);
        Kit.due("FAULT", x.fault(0) * 10 + x.fault(1), 35);
        DryDoors none = new DryDoors();
        Kit.refused(none, "of no LAND", Kit.nights(none, "open p;"), 9);
        Kit.due("FAULT", none.fault(0) * 10 + none.fault(1), 35);
        Kit.fine(none, "without NAMES", Kit.nights(none, "any;hour 3;"), 2);
    }

    private static void wordsForNames() {
        Kit.sentence("4., FAULT 2 as above: words that are no NAMES, or of 9 letters and more, where a NAME must stand");
        String[] ahead = {"open ", "shut ", "bail ", "when wet ", "when open ", "when depth "};
        for (String text : ahead) {
            for (String word : Kit.NO_NAMES) {
                faultBehind(text, word + " ", 2);
            }
            faultBehind(text, "abcdefghi", 2);
            faultBehind(text, "5", 2);
            faultBehind(text, ";", 2);
            faultBehind(text, "<", 2);
        }
    }

    private static void compares() {
        Kit.sentence("4.: COMPARES: < or > or =");
        taken("when depth a < 1;end;when depth a>1;end;when depth a= 1 ;end;", 3);
        fault("when depth a;", 2, 12);
        fault("when depth a 5;", 2, 13);
        fault("when depth a<=5;", 2, 13);
        fault("when depth a!5;", 1, 12);
        fault("when depth a is 5;", 2, 13);
        fault("when wet a<5;", 2, 10);
        fault("when open p=1;", 2, 11);
    }

    private static void tests() {
        Kit.sentence("4.: TEST: wet NAME, or open NAME, or depth NAME COMPARES NUMBER");
        for (String word : Kit.NO_NAMES) {
            if (!word.equals("wet") && !word.equals("open") && !word.equals("depth")) {
                faultBehind("when ", word + " a;end;", 2);
            }
        }
        fault("when a;end;", 2, 5);
        fault("when ;end;", 2, 5);
        fault("when 1;end;", 2, 5);
        fault("when any;end;", 2, 5);
    }

    private static void beginnings() {
        Kit.sentence("4.: STEP: hour, open, shut, bail, any, when, loop, stop (FAULT 2)");
        String[] others = {"room", "floor", "area", "bears", "water", "door", "from", "to", "sill", "wide", "leaks",
            "tide", "pump", "rota", "errand", "by", "sea", "wet", "depth", "a", "p", "7", ";", "<", "=", "abcdefghi"};
        for (String other : others) {
            fault(other + ";", 2, 0);
            faultBehind("any;", other + ";", 2);
            faultBehind("loop 2;any;", other + ";end;", 2);
        }
    }

    // ---- FAULTS

    private static void tokens() {
        Kit.sentence("4., FAULT 1 as above: no TOKEN begins so");
        fault("!", 1, 0);
        fault("any;\tany;", 1, 4);
        fault("any;any;Any;", 1, 8);
        fault("hour 00001;", 1, 5);
        fault("hour 0001", 2, 9);
        fault("bail a 10000;", 1, 7);
        fault("any;00000", 1, 4);
        taken("any\n;\nhour 0012;any;", 3);
    }

    private static void atTheEnd() {
        Kit.sentence("4., FAULT 2 as above (the end: the text's length; the text's end ahead of an end: 2)");
        String[] texts = {"hour 1 ;", "open p ;", "shut p ;", "bail a 1 ;", "any ;", "when wet a ; any ; end ;",
            "when open p ; end ;", "when depth a < 1 ; end ;", "loop 1 ; end ;", "stop ;",
            "loop 2 ; when wet a ; loop 3 ; any ; end ; end ; end ;"};
        for (String text : texts) {
            for (int at = text.indexOf(' '); at >= 0; at = text.indexOf(' ', at + 1)) {
                boolean isWhole = text.substring(0, at).equals("any ; ");
                if (!isWhole) {
                    fault("any;" + text.substring(0, at), 2, 4 + at);
                    fault("any;" + text.substring(0, at) + " \n", 2, 4 + at + 2);
                }
            }
        }
        fault("loop 1;", 2, 7);
        fault("when wet a;", 2, 11);
        fault("loop 1;loop 1;end;", 2, 18);
        fault("loop 1;loop 1;loop 1;end;end;any;", 2, 33);
    }

    private static void withoutBeginning() {
        Kit.sentence("4., FAULT 2: an end without a beginning");
        fault("end;", 2, 0);
        fault("any;end;", 2, 4);
        fault("loop 1;end;end;", 2, 11);
        fault("when wet a;loop 1;end;end;any;end;", 2, 30);
        fault("end", 2, 0);
    }

    private static void thirtySteps() {
        Kit.sentence("4., FAULT 6: a 31st STEP (at its WORD; end is none)");
        taken("any;".repeat(29) + "loop 2;end;", 30);
        taken("loop 2;end;when wet a;end;" + "any;".repeat(28), 30);
        faultBehind("any;".repeat(30), "any;", 6);
        faultBehind("any;".repeat(30) + " ", "stop;", 6);
        faultBehind("any;".repeat(30), "hour 0;", 6);
        faultBehind("any;".repeat(30), "open z;", 6);
        faultBehind("any;".repeat(30), "when", 6);
        faultBehind("loop 2;" + "any;".repeat(29), "loop 1;end;end;", 6);
        faultBehind("loop 2;end;" + "any;".repeat(29), "any;", 6);
        // no STEP at all
        faultBehind("any;".repeat(30), "end;", 2);
        faultBehind("any;".repeat(30), "room;", 2);
        faultBehind("loop 2;" + "any;".repeat(29), "", 2);
        taken("loop 2;" + "any;".repeat(29) + "end;", 30);
    }

    private static void threeWithin() {
        Kit.sentence("4., FAULT 7: a when, loop within three others (at its WORD)");
        taken("loop 1;loop 1;loop 1;any;end;end;end;", 4);
        taken("when wet a;when wet a;when wet a;any;end;end;end;", 4);
        taken("loop 1;loop 1;loop 1;end;loop 1;end;end;loop 1;loop 1;end;end;end;", 6);
        faultBehind("loop 1;loop 1;loop 1;", "loop 1;end;end;end;end;", 7);
        faultBehind("loop 1;when wet a;loop 1; ", "when wet a;end;end;end;end;", 7);
        faultBehind("when wet a;when wet a;when wet a;any;", "when room;", 7);
        faultBehind("loop 1;loop 1;loop 1;end;loop 1;any;", "loop 0;", 7);
        faultBehind("loop 1;loop 1;loop 1;end;end;loop 1;loop 1;", "loop", 7);
    }

    private static void beginAnew() {
        Kit.sentence("4.: what a TEXT with a FAULT began does not matter to the next one");
        DryDoors x = Kit.of(LAND);
        Kit.refused(x, "three begun", Kit.nights(x, "any;loop 1;loop 1;loop 1;hour 0;"), 9);
        Kit.fine(x, "three within", Kit.nights(x, "loop 1;loop 1;loop 1;end;end;end;"), 3);
        Kit.refused(x, "two begun", Kit.nights(x, "any;loop 1;loop 1;"), 9);
        Kit.refused(x, "an end without a beginning", Kit.nights(x, "any;end;"), 9);
        Kit.due("its FAULT", x.fault(0) * 10 + x.fault(1), 24);
        Kit.refused(x, "30 STEPS and one", Kit.nights(x, "any;".repeat(31)), 9);
        Kit.fine(x, "30 STEPS", Kit.nights(x, "any;".repeat(30)), 30);
    }

    private static void manyEnds() {
        Kit.sentence("4.: (.. end is none): 25 ends behind as many STEPS");
        DryDoors x = taken("loop 1;end;".repeat(24) + "loop 9;bail a 1;end;any;any;", 28);
        Kit.fine(x, "live", x.live(0), 24 + 1 + 9 + 2);
        Kit.fine(x, "bailed", x.lived(2), 9);
        DryDoors y = taken("loop 1;end;".repeat(25) + "any;".repeat(5), 30);
        Kit.fine(y, "live", y.live(0), 30);
    }

    private static void leastKind() {
        Kit.sentence("4.: FAULTS, of one TOKEN the least kind: 6 ahead of 7");
        faultBehind("loop 1;loop 1;loop 1;" + "any;".repeat(27), "loop 1;end;end;end;end;", 6);
        faultBehind("loop 1;loop 1;loop 1;" + "any;".repeat(26), "loop 1;end;end;end;end;", 7);
        faultBehind("loop 1;loop 1;loop 1;" + "any;".repeat(27), "when wet a;", 6);
    }

    private static void firstAlongTheText() {
        Kit.sentence("4.: FAULTS, the first along the text");
        fault("hour 0;!", 4, 5);
        fault("open z;hour 0;", 3, 5);
        fault("end;open z;", 2, 0);
        fault("bail p 0;", 3, 5);
        fault("when depth z<10000;", 3, 11);
        fault("loop 0;loop 0;loop 0;loop 0;", 4, 5);
        fault("loop 1;loop 1;loop 1;loop 1;open z;", 7, 21);
    }

    private static void noFaultAnyMore() {
        Kit.sentence("Promise 12: FAULT 0 and no place of NIGHTS that are taken behind some that were not");
        DryDoors x = Kit.of(LAND);
        Kit.nights(x, "any;any");
        Kit.due("FAULT", x.fault(0) * 10 + x.fault(1), 27);
        Kit.nights(x, "any;any;");
        Kit.due("FAULT", x.fault(0), 0);
        Kit.due("place", x.fault(1), -1);
    }

    public static void main(String[] args) {
        mostBytes();
        howManyBytes();
        howManySteps();
        oldOnesStay();
        inPlaceOfThose();
        statusOneFirst();
        hours();
        bails();
        depths();
        loops();
        namesOfDoors();
        namesOfRooms();
        namesOfTheLandNow();
        wordsForNames();
        compares();
        tests();
        beginnings();
        tokens();
        atTheEnd();
        withoutBeginning();
        thirtySteps();
        threeWithin();
        beginAnew();
        manyEnds();
        leastKind();
        firstAlongTheText();
        noFaultAnyMore();
        Kit.end("edges of texts of nights");
    }
}
