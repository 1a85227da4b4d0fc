import java.util.ArrayList;
import java.util.List;

/** The sentences that name a boundary case: a LAND as a TEXT, its FAULTS, the tape (terms; promises 9, 10, 12). */
public final class EdgesOfLands {
    private static final String ROOM = "room a floor 0;";
    private static final String DOOR = ROOM + "door p from sea to a sill 5;";

    /** A LAND is not taken: the FAULT and its place; what was there stays. */
    private static void fault(String text, int kind, int place) {
        DryDoors x = Kit.of("room a floor 7;room b floor 8;door z from a to b sill 3;");
        Kit.refused(x, text, Kit.land(x, text), 9);
        Kit.due("fault of " + text, x.fault(0), kind);
        Kit.due("place in " + text, x.fault(1), place);
        Kit.due("the old one stays", x.told(0) * 100 + x.told(1) * 10 + x.room(1, 0), 218);
        Kit.due("the tape is empty", x.feed(0, 0, 0, 0, 0), 20);
    }

    /** The FAULT is at the end of what is told ahead of it. */
    private static void faultBehind(String ahead, String text, int kind) {
        fault(ahead + text, kind, ahead.length());
    }

    private static DryDoors taken(String text, int doors) {
        DryDoors x = new DryDoors();
        Kit.fine(x, text, Kit.land(x, text), doors);
        Kit.due("fault of " + text, x.fault(0), 0);
        Kit.due("place in " + text, x.fault(1), -1);
        return x;
    }

    private static void takenRoom(String text, int what, int want) {
        Kit.due(text, taken(text, 0).room(0, what), want);
    }

    private static void takenDoor(String text, int what, int want) {
        Kit.due(text, taken(text, 1).door(0, what), want);
    }

    // ---- TOKENS

    private static void blanks() {
        Kit.sentence("Terms: between them blanks (10, 32)");
        DryDoors x = taken("\n room\na\n floor  0\n;\n\ndoor p from\nsea to a sill 5 ;\n ", 1);
        Kit.due("SILL", x.door(0, 2), 5);
        taken("", 0);
        taken(" ", 0);
        taken("\n", 0);
        char[] others = {0, 1, 9, 11, 13, 31, 33, 127, 128, 160, 255};
        for (char c : others) {
            faultBehind("room a floor 0; ", c + "room b floor 0;", 1);
        }
    }

    private static void nextToEachOther() {
        Kit.sentence("Terms: TOKENS, as long as they go");
        DryDoors x = taken("room a floor3area2bears4water5;tide3 4;door p from a to sea sill9wide3leaks2;rota3p;", 1);
        Kit.due("FLOOR", x.room(0, 0), 3);
        Kit.due("AREA", x.room(0, 1), 2);
        Kit.due("BEARS", x.room(0, 2), 4);
        Kit.due("WATER", x.room(0, 4), 5);
        Kit.due("TIDE", x.tide(3), 4);
        Kit.due("SILL, WIDE, LEAKS", x.door(0, 2) * 100 + x.door(0, 3) * 10 + x.door(0, 4), 932);
        Kit.due("ROTA", x.door(0, 5), 8);
        // one WORD, which is no room's beginning; one NUMBER, which is no HOUR of the day
        fault("rooma floor 0;", 2, 0);
        fault("tide 34;", 4, 5);
        fault("room a floor 0;;", 2, 15);
    }

    private static void smallLetters() {
        Kit.sentence("Terms: WORDS (small letters)");
        taken("room az floor 0;", 0);
        taken("room za floor 0;", 0);
        fault("room `", 1, 5);
        fault("room {", 1, 5);
        fault("room A", 1, 5);
        fault("room Z", 1, 5);
        fault("Room a floor 0;", 1, 0);
        fault("room aB floor 0;", 1, 6);
    }

    private static void digits() {
        Kit.sentence("Terms: NUMBERS (1 to 4 digits)");
        takenRoom("room a floor 0;", 0, 0);
        takenRoom("room a floor 9;", 0, 9);
        takenRoom("room a floor 0099;", 0, 99);
        takenRoom("room a floor 0000;", 0, 0);
        fault("room a floor 9999;", 4, 13);
        fault("room a floor 00000;", 1, 13);
        fault("room a floor 10000;", 1, 13);
        fault("room a floor 000000000000000000000000000000;", 1, 13);
        fault("room a floor /", 1, 13);
        fault("room a floor :", 1, 13);
        fault("room a floor -1;", 1, 13);
    }

    private static void signs() {
        Kit.sentence("Terms: SIGNS ; < > =");
        // a TOKEN each, though it can't stand in a LAND
        fault("<", 2, 0);
        fault(">", 2, 0);
        fault("=", 2, 0);
        fault(";", 2, 0);
        fault("?", 1, 0);
        fault(",", 1, 0);
        fault("room a floor 0:", 1, 14);
        fault("room a floor 0<", 2, 14);
    }

    // ---- PARTS

    private static void noParts() {
        Kit.sentence("Terms: LAND: {PART}. { } any number of times");
        DryDoors x = taken("", 0);
        Kit.due("no ROOMS", x.told(0), 0);
        DryDoors one = taken(ROOM, 0);
        Kit.due("one ROOM", one.told(0), 1);
        DryDoors tides = taken("tide 1 2;".repeat(100), 0);
        Kit.due("900 bytes of TIDES", tides.tide(1), 2);
    }

    private static void mostBytes() {
        Kit.sentence("Terms: a LAND is a TEXT of at most 900 bytes");
        String text = ROOM + " ".repeat(900 - ROOM.length() - 9) + "tide 3 4;";
        DryDoors x = new DryDoors();
        Kit.due("its length", Kit.onTape(x, text), 900);
        Kit.refused(x, "901 bytes", x.land(901), 1);
        Kit.fine(x, "900 bytes", x.land(900), 0);
        Kit.due("to the last one", x.tide(3), 4);
        fault(" ".repeat(899) + "!", 1, 899);
        fault(" ".repeat(896) + "room", 2, 900);
    }

    private static void partsPerhaps() {
        Kit.sentence("Terms: [ ] perhaps");
        String[] perhaps = {"area 2 ", "bears 3 ", "water 4 "};
        for (int set = 0; set < 8; set++) {
            String text = "room a floor 0 ";
            for (int i = 0; i < 3; i++) {
                text += (set >> i & 1) == 1 ? perhaps[i] : "";
            }
            DryDoors x = taken(text + ";", 0);
            Kit.due("AREA of " + text, x.room(0, 1), (set & 1) == 1 ? 2 : 1);
            Kit.due("BEARS of " + text, x.room(0, 2), (set & 2) == 2 ? 3 : 10);
            Kit.due("WATER of " + text, x.room(0, 4), (set & 4) == 4 ? 4 : 0);
        }
        String door = ROOM + "door p from sea to a sill 0";
        takenDoor(door + " wide 3;", 4, 0);
        takenDoor(door + " leaks 3;", 3, 1);
        takenDoor(door + " wide 3 leaks 4;", 3, 3);
        takenDoor(door + " wide 3 leaks 4;", 4, 4);
        fault("room a floor 0 area 1 area 1;", 2, 22);
        fault("room a floor 0 bears 1 area 1;", 2, 23);
        fault("room a floor 0 water 1 bears 1;", 2, 23);
        fault("room a floor 0 water 1 water 1;", 2, 23);
        faultBehind(door + " leaks 1 ", "wide 1;", 2);
        faultBehind(door + " leaks 1 ", "leaks 1;", 2);
        faultBehind(door + " wide 1 ", "wide 1;", 2);
    }

    // ---- NAMES

    private static void lettersOfNames() {
        Kit.sentence("Terms: NAME: a WORD of 1 to 8 letters");
        taken("room z floor 0;", 0);
        DryDoors x = taken("room abcdefgh floor 1;room abcdefgi floor 2;room abcdefg floor 3;"
                + "door p from abcdefgi to abcdefgh sill 0;", 1);
        Kit.due("the eighth letter counts, first END", x.door(0, 0), 1);
        Kit.due("the eighth letter counts, second END", x.door(0, 1), 0);
        fault("room abcdefghi floor 0;", 2, 5);
        fault("room abcdefghabcdefgh floor 0;", 2, 5);
        faultBehind("room abcdefgh floor 0;room ", "abcdefgh floor 0;", 3);
    }

    private static void unlikeNames() {
        Kit.sentence("Terms: NAME: WORDS that are unlike in one letter, or in how many, are unlike NAMES");
        String[] names = {"a", "b", "p", "q", "z", "aa", "ab", "ap", "az", "ba", "pa", "za", "zz", "aaa", "aaaaaaaa", "aaaaaaab",
            "baaaaaaa", "aaaaaaa", "zzzzzzz", "zzzzzzzz", "zzzzzzzy", "yzzzzzzz", "azzzzzzz", "paaaaaaa", "qaaaaaaa"};
        for (String one : names) {
            for (String other : names) {
                String ahead = "room " + one + " floor 0;room ";
                if (one.equals(other)) {
                    faultBehind(ahead, other + " floor 0;", 3);
                } else {
                    taken(ahead + other + " floor 0;", 0);
                }
            }
        }
    }

    private static void longWordsForNames() {
        Kit.sentence("Terms, FAULT 2: a WORD of 9 letters and more where a NAME must stand");
        String[] ahead = {"room ", ROOM + "door ", ROOM + "door q from ", ROOM + "door q from sea to ", ROOM + "pump ",
            DOOR + "rota 0 ", DOOR + "errand ", DOOR + "errand e by "};
        for (String text : ahead) {
            faultBehind(text, "abcdefghi", 2);
            faultBehind(text, "abcdefghijklmnopqrstuvwxyz", 2);
            faultBehind(text, "roomroomroom", 2);
        }
    }

    private static void noNames() {
        Kit.sentence("Terms: NAME: .. that is none of room, floor .. stop");
        Kit.due("they are 28", Kit.NO_NAMES.length, 28);
        for (String word : Kit.NO_NAMES) {
            fault("room " + word + " floor 0;", 2, 5);
            faultBehind(ROOM + "door ", word + " from a to sea sill 0;", 2);
            faultBehind(ROOM + "pump ", word + " 1;", 2);
            faultBehind(DOOR + "rota 0 ", word + ";", 2);
            faultBehind(DOOR + "errand ", word + " by p", 2);
            faultBehind(DOOR + "errand e by ", word, 2);
            if (!word.equals("sea")) {
                faultBehind(ROOM + "door q from ", word, 2);
                faultBehind(ROOM + "door q from sea to ", word, 2);
            }
            if (word.length() < 8) {
                taken("room " + word + "s floor 0;", 0);
            }
        }
        String[] near = {"roo", "floo", "se", "b", "t", "en", "steps", "drowned", "bear", "leak", "hours"};
        for (String word : near) {
            taken("room " + word + " floor 0;", 0);
        }
    }

    private static void oneThingAlone() {
        Kit.sentence("Terms: one NAME is of one thing alone; FAULT 3: a new NAME that is taken");
        String all = DOOR + "errand e by p from 0 to 0;";
        for (String name : new String[] {"a", "p", "e"}) {
            faultBehind(all + "room ", name + " floor 0;", 3);
            faultBehind(all + "door ", name + " from a to sea sill 0;", 3);
            faultBehind(all + "errand ", name + " by p from 0 to 0;", 3);
        }
        DryDoors x = taken(DOOR, 1);
        Kit.fine(x, "a LAND in place of that ahead takes its NAMES anew", Kit.land(x, "room p floor 0;room e floor 0;"), 0);
    }

    private static void toldAhead() {
        Kit.sentence("Terms: what a PART names must be told ahead; FAULT 3: a NAME that is no such one told ahead");
        fault("door p from a to sea sill 0;" + ROOM, 3, 12);
        fault("door p from sea to a sill 0;" + ROOM, 3, 19);
        fault("pump a 1;" + ROOM, 3, 5);
        fault(ROOM + "rota 0 p;", 3, 22);
        fault(ROOM + "errand e by p from 0 to 0;", 3, 27);
        // told, but as another thing
        faultBehind(DOOR + "door q from ", "p to sea sill 0;", 3);
        faultBehind(DOOR + "door q from sea to ", "p sill 0;", 3);
        faultBehind(DOOR + "pump ", "p 1;", 3);
        faultBehind(DOOR + "rota 0 ", "a;", 3);
        faultBehind(DOOR + "errand e by ", "a from 0 to 0;", 3);
        // the thing itself is not told yet
        faultBehind(ROOM + "door p from ", "p to a sill 0;", 3);
        faultBehind(DOOR + "errand e by ", "e from 0 to 0;", 3);
        // told in the LAND ahead alone
        fault("pump b 1;", 3, 5);
        fault("rota 0 z;", 3, 7);
    }

    // ---- NUMBERS

    private static void floors() {
        Kit.sentence("Terms: FLOOR (0 to 99)");
        takenRoom("room a floor 0;", 0, 0);
        takenRoom("room a floor 99;", 0, 99);
        fault("room a floor 100;", 4, 13);
        fault("room a floor 9999;", 4, 13);
    }

    private static void areas() {
        Kit.sentence("Terms: AREA (1 to 20; 1 without)");
        takenRoom("room a floor 0 area 1;", 1, 1);
        takenRoom("room a floor 0 area 20;", 1, 20);
        takenRoom(ROOM, 1, 1);
        fault("room a floor 0 area 0;", 4, 20);
        fault("room a floor 0 area 21;", 4, 20);
    }

    private static void bearings() {
        Kit.sentence("Terms: how much DEPTH it BEARS (1 to 99; 10 without)");
        takenRoom("room a floor 0 bears 1;", 2, 1);
        takenRoom("room a floor 0 bears 99;", 2, 99);
        takenRoom(ROOM, 2, 10);
        fault("room a floor 0 bears 0;", 4, 21);
        fault("room a floor 0 bears 100;", 4, 21);
    }

    private static void waters() {
        Kit.sentence("Terms: WATER at first (0 to 999; 0 without)");
        takenRoom("room a floor 0 water 0;", 4, 0);
        takenRoom("room a floor 0 water 999;", 4, 999);
        takenRoom(ROOM, 4, 0);
        fault("room a floor 0 water 1000;", 4, 21);
        fault("room a floor 0 water 9999;", 4, 21);
    }

    private static void sills() {
        Kit.sentence("Terms: SILL (0 to 99)");
        String ahead = ROOM + "door p from sea to a sill ";
        takenDoor(ahead + "0;", 2, 0);
        takenDoor(ahead + "99;", 2, 99);
        faultBehind(ahead, "100;", 4);
    }

    private static void wides() {
        Kit.sentence("Terms: WIDE (1 to 9; 1 without)");
        String ahead = ROOM + "door p from sea to a sill 0 ";
        takenDoor(ahead + "wide 1;", 3, 1);
        takenDoor(ahead + "wide 9;", 3, 9);
        takenDoor(ahead + ";", 3, 1);
        faultBehind(ahead + "wide ", "0;", 4);
        faultBehind(ahead + "wide ", "10;", 4);
    }

    private static void leakings() {
        Kit.sentence("Terms: LEAKS (0 to 9; 0 without)");
        String ahead = ROOM + "door p from sea to a sill 0 ";
        takenDoor(ahead + "leaks 0;", 4, 0);
        takenDoor(ahead + "leaks 9;", 4, 9);
        takenDoor(ahead + ";", 4, 0);
        faultBehind(ahead + "leaks ", "10;", 4);
    }

    private static void tides() {
        Kit.sentence("Terms: TIDE of an HOUR of the day (0 to 11): (0 to 99; told again: the latest; 10 without)");
        DryDoors x = taken("tide 0 0;tide 11 99;tide 5 6;tide 5 7;tide 5 3;", 0);
        Kit.due("the lowest", x.tide(0), 0);
        Kit.due("the highest", x.tide(11), 99);
        Kit.due("the latest", x.tide(5), 3);
        Kit.due("without", x.tide(1), 10);
        Kit.due("without", x.tide(10), 10);
        fault("tide 12 0;", 4, 5);
        fault("tide 9999 0;", 4, 5);
        fault("tide 0 100;", 4, 7);
    }

    private static void pumps() {
        Kit.sentence("Terms: PUMP of a ROOM (0 to 99; told again: the latest; 0 without)");
        DryDoors x = taken("room a floor 0;room b floor 0;room c floor 0;pump b 99;pump c 5;pump c 7;pump c 0;", 0);
        Kit.due("without", x.room(0, 3), 0);
        Kit.due("the most", x.room(1, 3), 99);
        Kit.due("the latest", x.room(2, 3), 0);
        faultBehind(ROOM + "pump a ", "100;", 4);
    }

    private static void rotas() {
        Kit.sentence("Terms: ROTA: in that HOUR of the day that DOOR is OPENED (told again: nothing more)");
        DryDoors x = taken(DOOR + "rota 0 p;rota 11 p;rota 11 p;rota 0 p;", 1);
        Kit.due("the HOURS", x.door(0, 5), 1 | 1 << 11);
        Kit.due("OPEN in HOUR 0", x.told(7), 1);
        DryDoors two = taken(DOOR + "door q from sea to a sill 5;door r from sea to a sill 5;rota 0 p;rota 0 r;rota 1 q;", 3);
        Kit.due("two DOORS in one HOUR", two.told(7), 5);
        Kit.due("each DOOR has its HOURS", two.door(0, 5) * 100 + two.door(1, 5) * 10 + two.door(2, 5), 121);
        faultBehind(DOOR + "rota ", "12 p;", 4);
        faultBehind(DOOR + "rota ", "100 p;", 4);
    }

    private static void errandHours() {
        Kit.sentence("Terms: ERRANDS: from FROM (0 to 11) to TO (FROM to 11)");
        DryDoors x = taken(DOOR + "errand e by p from 0 to 11;errand f by p from 11 to 11;errand g by p from 0 to 0;"
                + "errand h by p from 4 to 5;", 1);
        int[] hours = {0, 11, 11, 11, 0, 0, 4, 5};
        for (int e = 0; e < 4; e++) {
            Kit.due("FROM of " + e, x.errand(e, 1), hours[2 * e]);
            Kit.due("TO of " + e, x.errand(e, 2), hours[2 * e + 1]);
        }
        faultBehind(DOOR + "errand e by p from ", "12 to 12;", 4);
        faultBehind(DOOR + "errand e by p from 5 to ", "4;", 4);
        faultBehind(DOOR + "errand e by p from 5 to ", "12;", 4);
        faultBehind(DOOR + "errand e by p from 11 to ", "10;", 4);
        faultBehind(DOOR + "errand e by p from 1 to ", "0;", 4);
    }

    // ---- how many

    private static void sevenRooms() {
        Kit.sentence("Terms: ROOMS, at most 7; FAULT 6: an eighth room (at that WORD)");
        String seven = Kit.parts(7, "room # floor 0;");
        Kit.due("seven", taken(seven, 0).told(0), 7);
        faultBehind(seven, "room h floor 0;", 6);
        faultBehind(seven + "tide 0 1; ", "room", 6);
        // of one TOKEN the least kind: what follows is another TOKEN
        faultBehind(seven, "room a floor 100;", 6);
        faultBehind(seven, "room !", 6);
    }

    private static void tenDoors() {
        Kit.sentence("Terms: DOORS, at most 10; FAULT 6: an 11th door (at that WORD)");
        String ten = ROOM + Kit.parts(10, "door # from sea to a sill 0;", 'b');
        Kit.due("ten", taken(ten, 10).told(1), 10);
        faultBehind(ten, "door l from sea to a sill 0;", 6);
        faultBehind(ten + " ", "door a", 6);
    }

    private static void fourErrands() {
        Kit.sentence("Terms: ERRANDS, at most 4; FAULT 6: a fifth errand (at that WORD)");
        String four = DOOR + Kit.parts(4, "errand # by p from 0 to 0;", 'b');
        Kit.due("four", taken(four, 1).told(2), 4);
        faultBehind(four, "errand f by p from 0 to 0;", 6);
        faultBehind(four + "\n", "errand errand", 6);
    }

    private static void allFull() {
        Kit.sentence("Terms: ROOMS, at most 7; DOORS, at most 10; ERRANDS, at most 4: all of them at once");
        DryDoors x = taken(Kit.parts(7, "room # floor 0;") + Kit.parts(10, "door # from a to sea sill 0;", 'h')
                + Kit.parts(4, "errand # by q from 1 to 2;", 'r'), 10);
        Kit.due("ROOMS", x.told(0), 7);
        Kit.due("DOORS", x.told(1), 10);
        Kit.due("ERRANDS", x.told(2), 4);
        Kit.due("the last ROOM", x.room(6, 1), 1);
        Kit.due("the last DOOR", x.door(9, 0), 0);
        Kit.due("the last ERRAND", x.errand(3, 0), 9);
        Kit.refused(x, "an eighth", x.room(7, 0), 1);
        Kit.refused(x, "an 11th", x.door(10, 0), 1);
        Kit.refused(x, "a fifth", x.errand(4, 0), 1);
    }

    private static void numbered() {
        Kit.sentence("Terms: all are numbered as they stand");
        DryDoors x = taken("room z floor 3;tide 0 5;room a floor 4;door q from a to z sill 6;room m floor 5;"
                + "door b from sea to m sill 7;errand y by b from 0 to 0;errand x by q from 0 to 0;", 2);
        Kit.due("ROOM 0", x.room(0, 0), 3);
        Kit.due("ROOM 1", x.room(1, 0), 4);
        Kit.due("ROOM 2", x.room(2, 0), 5);
        Kit.due("DOOR 0", x.door(0, 0) * 10 + x.door(0, 1), 10);
        Kit.due("DOOR 1", x.door(1, 2), 7);
        Kit.due("ERRAND 0", x.errand(0, 0), 1);
        Kit.due("ERRAND 1", x.errand(1, 0), 0);
    }

    // ---- FAULTS

    private static void ends() {
        Kit.sentence("Terms: DOORS: between a ROOM and another one, or the SEA; FAULT 5 (at the second END)");
        String two = "room a floor 0;room b floor 0;";
        DryDoors x = taken(two + "door p from a to b sill 0;door q from b to a sill 0;door r from a to sea sill 0;"
                + "door s from sea to a sill 0;", 4);
        int[] ends = {0, 1, 1, 0, 0, -1, -1, 0};
        for (int d = 0; d < 4; d++) {
            Kit.fine(x, "first END of " + d, x.door(d, 0), ends[2 * d]);
            Kit.fine(x, "second END of " + d, x.door(d, 1), ends[2 * d + 1]);
        }
        faultBehind(two + "door p from a to ", "a sill 0;", 5);
        faultBehind(two + "door p from b to ", "b", 5);
        faultBehind(two + "door p from sea to ", "sea sill 0;", 5);
        faultBehind(two + "door p from a to ", "c", 3);
    }

    /** The places just behind each TOKEN of a text whose TOKENS have one blank between them. */
    private static List<Integer> behindTokens(String text) {
        List<Integer> places = new ArrayList<>();
        for (int i = 0; i < text.length(); i++) {
            if (text.charAt(i) == ' ') {
                places.add(i);
            }
        }
        return places;
    }

    private static void atTheEnd() {
        Kit.sentence("Terms, FAULT 2: it can't stand there (the end: the text's length)");
        String told = "room b floor 0;door q from b to sea sill 0;";
        String[] parts = {"room a floor 0 area 1 bears 1 water 1 ;", "door p from b to sea sill 0 wide 1 leaks 1 ;",
            "tide 0 0 ;", "pump b 0 ;", "rota 0 q ;", "errand e by q from 0 to 0 ;"};
        for (String part : parts) {
            for (int at : behindTokens(part)) {
                String text = told + part.substring(0, at);
                fault(text, 2, text.length());
                fault(text + " \n ", 2, text.length() + 3);
            }
            taken(told + part, part.startsWith("door") ? 2 : 1);
        }
    }

    /** In place of each TOKEN behind the first of each PART one that can't stand there. */
    private static void cantStand() {
        Kit.sentence("Terms, FAULT 2: it can't stand there");
        String told = "room b floor 0;door q from b to sea sill 0;";
        String[] parts = {"room a floor 0 area 1 bears 1 water 1 ", "door p from b to sea sill 0 wide 1 leaks 1 ",
            "tide 0 0 ", "pump b 0 ", "rota 0 q ", "errand e by q from 0 to 0 "};
        for (String part : parts) {
            for (int at : behindTokens(part)) {
                String text = told + part.substring(0, at + 1);
                faultBehind(text, "<", 2);
                faultBehind(text, "=", 2);
                faultBehind(text, "room", 2);
                faultBehind(text, "abcdefghi", 2);
                faultBehind(text, "#", 1);
                faultBehind(text, "12345", 1);
            }
        }
        String[] begins = {"floor", "sea", "a", "end", "hour", "5", ";", ">", "abcdefghi"};
        for (String begin : begins) {
            faultBehind(told, begin, 2);
        }
    }

    private static void noNumberThere() {
        Kit.sentence("Terms, FAULT 2: it can't stand there: a NUMBER where a NAME or a WORD must stand, and a NAME for it");
        fault("room 1", 2, 5);
        fault("room a 1", 2, 7);
        fault("room a floor b", 2, 13);
        fault("room a floor ;", 2, 13);
        fault("room a floor 0 1;", 2, 15);
        fault("tide a 1;", 2, 5);
        fault("tide 1;", 2, 6);
        fault(ROOM + "pump 1 1;", 2, 20);
        fault(ROOM + "pump a;", 2, 21);
        fault(DOOR + "rota p 1;", 2, 48);
        fault(DOOR + "rota 1 1;", 2, 50);
        fault(ROOM + "door p to", 2, 22);
        fault(ROOM + "door p from a from", 2, 29);
        fault(ROOM + "door p from a to sea wide", 2, 36);
    }

    private static void leastKind() {
        Kit.sentence("Terms: FAULTS, of one TOKEN the least kind");
        // a NUMBER of 5 digits is none, whatever else it can't be, wherever it can't stand
        fault("tide 99999 0;", 1, 5);
        fault("room 12345", 1, 5);
        fault("12345", 1, 0);
        fault(ROOM + "door p from a to 12345", 1, 32);
        fault(DOOR + "errand e by p from 5 to 00004;", 1, 67);
        // a WORD of 9 letters can't be one told ahead either
        faultBehind(ROOM + "pump ", "abcdefghi", 2);
        // sea where a ROOM must stand, or a DOOR
        faultBehind(ROOM + "pump ", "sea 1;", 2);
        faultBehind(DOOR + "errand e by ", "sea", 2);
    }

    private static void firstAlongTheText() {
        Kit.sentence("Terms: FAULTS, the first along the text");
        fault("tide 12 0; !", 4, 5);
        fault("tide 0 100 12345", 4, 7);
        fault("room a floor 0;room a !", 3, 20);
        fault("floor !", 2, 0);
        fault("! room a floor 100;", 1, 0);
        fault("room a floor 0 area 0 bears 0;", 4, 20);
        fault(ROOM + "door p from b", 3, 27);
        fault(Kit.parts(6, "room # floor 0;") + "room a", 3, 6 * 15 + 5);
        fault("room a floor 100", 4, 13);
        fault("room a floor 12345 12345", 1, 13);
    }

    // ---- promises 9, 10, 12

    private static void fed() {
        Kit.sentence("Promise 9: twenty bytes come behind those on the tape, the highest of each int first");
        DryDoors x = new DryDoors();
        // "tide 0 1;tide 1 2;ti" "de 2 3;tide 11 98; !"
        Kit.due("feed", x.feed(0x74696465, 0x20302031, 0x3b746964, 0x65203120, 0x323b7469), 20);
        Kit.due("feed", x.feed(0x64652032, 0x20333b74, 0x69646520, 0x31312039, 0x383b2021), 40);
        Kit.fine(x, "land(39)", x.land(39), 0);
        Kit.due("TIDE 0", x.tide(0), 1);
        Kit.due("TIDE 1", x.tide(1), 2);
        Kit.due("TIDE 2", x.tide(2), 3);
        Kit.due("TIDE 11", x.tide(11), 98);
        x.feed(0xff000000, 0, 0, 0, 0);
        Kit.refused(x, "a byte of 255", x.land(1), 9);
        Kit.due("its place", x.fault(1), 0);
    }

    private static void fullTape() {
        Kit.sentence("Promise 9: NONE if there would be more than 900");
        DryDoors x = new DryDoors();
        for (int i = 1; i <= 45; i++) {
            Kit.due("feed", x.feed(0x20202020, 0x20202020, 0x20202020, 0x20202020, 0x20202020), 20 * i);
        }
        Kit.due("feed", x.feed(0x21212121, 0x21212121, 0x21212121, 0x21212121, 0x21212121), -1);
        Kit.due("feed", x.feed(0x21212121, 0x21212121, 0x21212121, 0x21212121, 0x21212121), -1);
        Kit.refused(x, "there are 900 still", x.land(901), 1);
        Kit.fine(x, "of blanks alone", x.land(900), 0);
        Kit.due("feed of an empty tape", x.feed(0, 0, 0, 0, 0), 20);
    }

    private static void firstBytes() {
        Kit.sentence("Promise 10: the first n bytes of the tape (which is empty then)");
        DryDoors x = new DryDoors();
        Kit.onTape(x, "tide 0 1;tide 0 2;");
        Kit.fine(x, "the first nine", x.land(9), 0);
        Kit.due("TIDE", x.tide(0), 1);
        Kit.refused(x, "the others are gone", x.land(1), 1);
        Kit.onTape(x, "tide 0 3;");
        Kit.fine(x, "none of them", x.land(0), 0);
        Kit.due("TIDE without", x.tide(0), 10);
        Kit.refused(x, "they are gone, too", x.land(1), 1);
        Kit.onTape(x, "tide 0 4;");
        Kit.refused(x, "one too few", x.land(8), 9);
        Kit.due("at its end", x.fault(1), 8);
        Kit.refused(x, "with a FAULT they are gone, too", x.land(1), 1);
    }

    private static void howManyBytes() {
        Kit.sentence("Promise 10: (1: n below 0, or more than the tape has, too");
        DryDoors x = new DryDoors();
        Kit.onTape(x, "tide 0 1;tide 0 2;");
        Kit.refused(x, "-1", x.land(-1), 1);
        Kit.refused(x, "21 of 20", x.land(21), 1);
        Kit.refused(x, "least", x.land(Integer.MIN_VALUE), 1);
        Kit.refused(x, "most", x.land(Integer.MAX_VALUE), 1);
        Kit.due("TIDE", x.tide(0), 10);
        Kit.refused(x, "20 of 20 are there still: two bytes of 0 behind", x.land(20), 9);
        Kit.due("FAULT", x.fault(0), 1);
        Kit.due("its place", x.fault(1), 18);
    }

    private static void howManyDoors() {
        Kit.sentence("Promise 10: .. are the LAND: how many DOORS");
        taken("", 0);
        taken(ROOM, 0);
        taken(DOOR, 1);
        taken(ROOM + Kit.parts(10, "door # from sea to a sill 0;", 'b'), 10);
    }

    private static void oldOneStays() {
        Kit.sentence("Promise 10: (9: the old one stays)");
        DryDoors x = Kit.withNights("room a floor 1 water 50;door p from sea to a sill 3;tide 4 5;rota 6 p;pump a 7;"
                + "errand e by p from 8 to 9;", "any;stop;", 2);
        x.hold(0, true);
        x.hour(2);
        int[] told = new int[10];
        for (int what = 0; what < 10; what++) {
            told[what] = x.told(what);
        }
        Kit.refused(x, "FAULT", Kit.land(x, "room b floor 0;room c floor 0;tide 4 6;floor"), 9);
        for (int what = 0; what < 10; what++) {
            Kit.due("told " + what, x.told(what), told[what]);
        }
        Kit.due("TIDE", x.tide(4), 5);
        Kit.due("MARK on the WALL", x.room(0, 7) > 0, true);
        Kit.due("FLOOR", x.room(0, 0), 1);
        Kit.due("ROTA", x.door(0, 5), 64);
        Kit.due("ERRAND", x.errand(0, 2), 9);
        Kit.fine(x, "NIGHTS", x.live(0), 2);
    }

    private static void inPlace() {
        Kit.sentence("Terms: a LAND that is taken is there in place of that ahead; it is HOUR 0, no DOOR is held OPEN by "
                + "hand, nothing is DROWNED, there are no NIGHTS");
        DryDoors x = Kit.withNights("room a floor 0 bears 1 water 99;door p from sea to a sill 5;rota 3 p;tide 3 4;"
                + "pump a 9;errand e by p from 1 to 2;", "any;", 1);
        x.hour(1);
        x.hold(0, true);
        x.wall(0, true);
        Kit.due("DROWNED", x.told(6), 1);
        Kit.fine(x, "the same anew", Kit.land(x, "room a floor 0;door p from sea to a sill 5;"), 1);
        Kit.told(x, 1, 1, 0, 0, 0, 0, 0, 0, 0, 0);
        Kit.due("BEARS", x.room(0, 2), 10);
        Kit.due("PUMP", x.room(0, 3), 0);
        Kit.due("MARK on the WALL", x.room(0, 7), 0);
        Kit.due("ROTA", x.door(0, 5), 0);
        Kit.due("TIDE", x.tide(3), 10);
        Kit.refused(x, "no NIGHTS", x.live(0), 6);
        Kit.refused(x, "no NIGHTS", x.mean(0, 1), 6);
    }

    private static void nothingOfTheTextsAhead() {
        Kit.sentence("Terms: a LAND is what its own TEXT tells, whatever was told in TEXTS ahead, with a FAULT or without");
        String all = "room a floor 9;door p from sea to a sill 5;tide 0 3;tide 11 4;pump a 9;rota 0 p;rota 11 p;"
                + "errand e by p from 1 to 2;";
        for (String ahead : new String[] {all, all + "!"}) {
            DryDoors x = new DryDoors();
            Kit.land(x, ahead);
            Kit.fine(x, "by the same NAMES", Kit.land(x, "room e floor 0;room p floor 0;door a from sea to p sill 0;"), 1);
            Kit.told(x, 2, 1, 0, 0, 0, 0, 0, 0, 0, 0);
            Kit.due("ROTA", x.door(0, 5), 0);
            Kit.due("TIDES", x.tide(0) + x.tide(11), 20);
            Kit.due("PUMPS", x.room(0, 3) + x.room(1, 3), 0);
            Kit.refused(x, "ERRAND", x.errand(0, 0), 1);
        }
    }

    private static void notDrownedAtFirst() {
        Kit.sentence("Terms: nothing is DROWNED in a LAND that is taken, whatever its WATER");
        DryDoors x = taken("room a floor 0 bears 1 water 999;", 0);
        Kit.due("DROWNED", x.told(6), 0);
        Kit.due("MARK on the WALL", x.room(0, 7), 0);
        Kit.due("at the end of an HOUR", x.hour(1), 1);
    }

    private static void faultAheadOfAny() {
        Kit.sentence("Promise 12: NONE for others, and ahead of any");
        DryDoors x = new DryDoors();
        Kit.due("what 0 ahead of any", x.fault(0), -1);
        Kit.due("what 1 ahead of any", x.fault(1), -1);
        Kit.refused(x, "STATUS 1", x.land(5), 1);
        Kit.due("what 0 behind STATUS 1 alone", x.fault(0), -1);
        Kit.land(x, "room!");
        Kit.due("what 0", x.fault(0), 1);
        Kit.due("what 1", x.fault(1), 4);
        Kit.due("what 2", x.fault(2), -1);
        Kit.due("what -1", x.fault(-1), -1);
        Kit.due("what most", x.fault(Integer.MAX_VALUE), -1);
        Kit.due("what least", x.fault(Integer.MIN_VALUE), -1);
        Kit.due("status of the land still", x.status(), 9);
    }

    private static void faultOfTheLatest() {
        Kit.sentence("Promise 12: of the latest land() or nights() with STATUS 0 or 9");
        DryDoors x = new DryDoors();
        Kit.land(x, "tide 0 !");
        Kit.due("FAULT of a LAND", x.fault(0) * 100 + x.fault(1), 107);
        Kit.nights(x, "hour 0;");
        Kit.due("FAULT of NIGHTS", x.fault(0) * 100 + x.fault(1), 405);
        Kit.refused(x, "land with STATUS 1", x.land(1), 1);
        Kit.refused(x, "nights with STATUS 1", x.nights(-1), 1);
        Kit.due("FAULT of the NIGHTS still", x.fault(0) * 100 + x.fault(1), 405);
        Kit.nights(x, "hour 1;");
        Kit.due("no FAULT", x.fault(0), 0);
        Kit.due("no place", x.fault(1), -1);
        Kit.nights(x, "hour");
        Kit.due("FAULT of NIGHTS", x.fault(0) * 100 + x.fault(1), 204);
        Kit.land(x, "");
        Kit.due("no FAULT", x.fault(0), 0);
        Kit.due("no place", x.fault(1), -1);
    }

    private static void statusOneFirst() {
        Kit.sentence("Promise 10: (1 ahead of 9)");
        DryDoors x = new DryDoors();
        Kit.onTape(x, "!!!!!!!!!!!!!!!!!!!!");
        Kit.refused(x, "more than the tape has, with a FAULT at its beginning", x.land(21), 1);
        Kit.due("no FAULT is told", x.fault(0), -1);
        Kit.refused(x, "as many as it has", x.land(20), 9);
    }

    public static void main(String[] args) {
        blanks();
        nextToEachOther();
        smallLetters();
        digits();
        signs();
        noParts();
        mostBytes();
        partsPerhaps();
        lettersOfNames();
        unlikeNames();
        longWordsForNames();
        noNames();
        oneThingAlone();
        toldAhead();
        floors();
        areas();
        bearings();
        waters();
        sills();
        wides();
        leakings();
        tides();
        pumps();
        rotas();
        errandHours();
        sevenRooms();
        tenDoors();
        fourErrands();
        allFull();
        numbered();
        ends();
        atTheEnd();
        cantStand();
        noNumberThere();
        leastKind();
        firstAlongTheText();
        fed();
        fullTape();
        firstBytes();
        howManyBytes();
        howManyDoors();
        oldOneStays();
        inPlace();
        nothingOfTheTextsAhead();
        notDrownedAtFirst();
        faultAheadOfAny();
        faultOfTheLatest();
        statusOneFirst();
        Kit.end("edges of lands");
    }
}
