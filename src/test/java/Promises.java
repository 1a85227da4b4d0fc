/** Each promise of the document by answers worked out by hand: ordinary inputs, edges, wrong inputs. */
public final class Promises {
    /** At TIDE 10 the open DOOR brings 5, then 5 more, then nothing. */
    private static final String BASIN = "room a floor 0;door p from sea to a sill 5;";
    private static final String TWO = "room a floor 0;room b floor 0;door p from sea to a sill 5;"
            + "door q from sea to b sill 3;";
    private static final int FAR_OUT = 2000000000;

    private static void due(String call, long got, long want) {
        Kit.due(call, got, want);
    }

    private static void due(String call, boolean got, boolean want) {
        Kit.due(call, got, want);
    }

    private static DryDoors held(String land, int door) {
        DryDoors x = Kit.of(land);
        due("hold", x.hold(door, true), true);
        return x;
    }

    // ---- 1 to 4

    private static void newObject() {
        DryDoors x = new DryDoors();
        due("1 status", x.status(), 0);
        due("1 top", x.top(), 0);
        due("1 bottom", x.bottom(), 1);
        due("1 fault", x.fault(0), -1);
        for (int what = 0; what < 10; what++) {
            due("1 told " + what, x.told(what), 0);
        }
        for (int h = 0; h < 12; h++) {
            due("1 tide " + h, x.tide(h), 10);
        }
        for (int t = 0; t < 4; t++) {
            Kit.refused(x, "1 read", x.read(t, 0), 2);
        }
        Kit.refused(x, "1 live", x.live(0), 6);
        Kit.refused(x, "1 undo", x.undo(), 6);
        Kit.refused(x, "1 plan", x.plan(0), 6);
        Kit.refused(x, "1 land longer than the tape", x.land(1), 1);
        due("1 NONE", DryDoors.NONE, -1);
    }

    private static void statusAndFraction() {
        DryDoors x = Kit.of(BASIN);
        Kit.refused(x, "2 door", x.door(1, 0), 1);
        x.top();
        x.bottom();
        x.fault(0);
        x.feed(0, 0, 0, 0, 0);
        due("2 calls without a status keep it", x.status(), 1);
        due("3 guilt", x.guilt(0, 1), true);
        due("3 top", x.top(), 10);
        due("4 bottom", x.bottom(), 1);
        due("3 refused guilt", x.guilt(0, 0), false);
        due("3 top is kept", x.top(), 10);
        x.wall(0, true);
        due("4 guilt of nothing", x.guilt(0, 1), true);
        due("3 top 0", x.top(), 0);
        due("4 bottom 1", x.bottom(), 1);
    }

    // ---- 5 to 8

    private static void trays() {
        DryDoors x = new DryDoors();
        int[][] wrong = {{-1, 0, 0}, {4, 0, 0}, {0, -1, 0}, {0, 4, 0}, {0, 0, -1}, {0, 0, 61}};
        for (int[] w : wrong) {
            Kit.refused(x, "5 tray", x.tray(w[0], w[1], w[2]), 1);
        }
        due("5 tray", x.tray(0, 0, 60), true);
        due("5 empty tray", x.tray(3, 3, 0), true);
        Kit.refused(x, "7 read of an empty tray", x.read(3, 0), 3);
        long v = 0x7edcba9876543281L;
        long[] cut = {(byte) v, (short) v, (int) v, v};
        for (int sort = 0; sort < 4; sort++) {
            x.tray(1, sort, 2);
            due("6 write", x.write(1, 1, v), true);
            Kit.fine(x, "6 cut to sort " + sort, x.read(1, 1), cut[sort]);
            Kit.fine(x, "6 the other place", x.read(1, 0), 0);
        }
        due("6 write -1", x.write(1, 0, -1), true);
        Kit.fine(x, "7 read -1", x.read(1, 0), -1);
        due("5 laid anew", x.tray(1, 3, 2), true);
        Kit.fine(x, "5 all 0", x.read(1, 0), 0);
        Kit.refused(x, "6 no such tray", x.write(-1, 0, 0), 1);
        Kit.refused(x, "6 no such tray", x.write(4, 0, 0), 1);
        Kit.refused(x, "6 missing", x.write(2, 99, 0), 2);
        Kit.refused(x, "6 place", x.write(1, 2, 0), 3);
        Kit.refused(x, "6 place", x.write(1, -1, 0), 3);
        Kit.refused(x, "7 no such tray", x.read(4, 0), 1);
        Kit.refused(x, "7 missing", x.read(2, -1), 2);
        Kit.refused(x, "7 place", x.read(1, -1), 3);
        Kit.refused(x, "7 place", x.read(1, 2), 3);
    }

    private static void pour() {
        DryDoors x = new DryDoors();
        x.tray(0, 1, 5);
        x.tray(1, 1, 3);
        x.tray(2, 2, 5);
        for (int i = 0; i < 5; i++) {
            x.write(0, i, i + 1);
        }
        due("8 onto itself", x.pour(0, 0, 0, 1, 4), true);
        for (int i = 0; i < 5; i++) {
            due("8 as they were " + i, x.read(0, i), i == 0 ? 1 : i);
        }
        due("8 to another", x.pour(0, 3, 1, 1, 2), true);
        due("8 poured", x.read(1, 0) * 100 + x.read(1, 1) * 10 + x.read(1, 2), 34);
        due("8 none of all", x.pour(0, 5, 1, 3, 0), true);
        Kit.refused(x, "8 no tray", x.pour(4, 0, 0, 0, 0), 1);
        Kit.refused(x, "8 no tray", x.pour(0, 0, -1, 0, 0), 1);
        Kit.refused(x, "8 below 0 ahead of missing", x.pour(0, -1, 3, 0, 0), 1);
        Kit.refused(x, "8 below 0", x.pour(0, 0, 1, -1, 0), 1);
        Kit.refused(x, "8 below 0", x.pour(0, 0, 1, 0, -1), 1);
        Kit.refused(x, "8 missing", x.pour(3, 9, 0, 9, 99), 2);
        Kit.refused(x, "8 missing", x.pour(0, 9, 3, 9, 99), 2);
        Kit.refused(x, "8 unlike ahead of place", x.pour(0, 9, 2, 0, 99), 8);
        Kit.refused(x, "8 too few", x.pour(0, 3, 0, 0, 3), 3);
        Kit.refused(x, "8 too few there", x.pour(0, 0, 1, 2, 2), 3);
        Kit.refused(x, "8 far out", x.pour(0, FAR_OUT, 0, 0, FAR_OUT), 3);
        Kit.refused(x, "8 far out", x.pour(0, 1, 0, 0, Integer.MAX_VALUE), 3);
    }

    // ---- 9 to 12

    private static void tape() {
        DryDoors x = new DryDoors();
        for (int i = 1; i <= 45; i++) {
            due("9 feed", x.feed(0x20202020, 0x20202020, 0x20202020, 0x20202020, 0x20202020), 20 * i);
        }
        due("9 one too many", x.feed(0, 0, 0, 0, 0), -1);
        Kit.refused(x, "10 more than the tape has", x.land(901), 1);
        Kit.refused(x, "10 below 0", x.land(-1), 1);
        due("10 of 900 blanks", x.land(900), 0);
        due("9 the tape is empty then", x.feed(0, 0, 0, 0, 0), 20);
        due("10 of nothing", x.land(0), 0);
        Kit.refused(x, "10 all is gone", x.land(1), 1);
        for (int i = 0; i < 16; i++) {
            x.feed(0x20202020, 0x20202020, 0x20202020, 0x20202020, 0x20202020);
        }
        Kit.refused(x, "11 above 300", x.nights(301), 1);
        Kit.refused(x, "11 below 0", x.nights(-1), 1);
        due("11 of 300 blanks", x.nights(300), 0);
        Kit.refused(x, "11 all is gone", x.nights(1), 1);
        DryDoors y = new DryDoors();
        y.feed('r' << 24 | 'o' << 16 | 'o' << 8 | 'm', ' ' << 24 | 'a' << 16 | 'f' << 8 | ' ',
                'f' << 24 | 'l' << 16 | 'o' << 8 | 'o', 'r' << 24 | '7' << 16 | ';' << 8, 0);
        due("9 the highest byte first", y.land(15), 0);
        due("9 room", y.room(0, 0), 7);
    }

    /** The LAND is not taken, and why and where is told. */
    private static void landFault(String text, int kind, int place) {
        DryDoors x = Kit.of(BASIN);
        x.hour(3);
        Kit.refused(x, "10 " + text, Kit.land(x, text), 9);
        due("12 fault of " + text, x.fault(0), kind);
        due("12 its place", x.fault(1), place);
        due("12 no such", x.fault(2), -1);
        due("12 no such", x.fault(-1), -1);
        due("10 the old one stays", x.told(3) * 10 + x.told(1), 31);
        due("10 the tape is empty", x.feed(0, 0, 0, 0, 0), 20);
    }

    private static void landFaults() {
        String room = "room a floor 0;";
        landFault("room a floor 0;#", 1, 15);
        landFault("\troom a floor 0;", 1, 0);
        landFault("Room", 1, 0);
        landFault("room a floor 12345;", 1, 13);
        landFault("room a floor 00001;", 1, 13);
        landFault("room a floor 0 12345", 1, 15);
        landFault("room \u00e9", 1, 5);
        landFault("room a floor 0", 2, 14);
        landFault("room", 2, 4);
        landFault("room a floor ;", 2, 13);
        landFault("floor", 2, 0);
        landFault(";", 2, 0);
        landFault("7", 2, 0);
        landFault("room 7", 2, 5);
        landFault("room stop", 2, 5);
        landFault("room abcdefghi", 2, 5);
        landFault("room a floor 0 bears 1 area 1;", 2, 23);
        landFault("room a floor 0 area 1 area 1;", 2, 22);
        landFault("rooms a floor 0;", 2, 0);
        landFault("room floor 0;", 2, 5);
        landFault(room + "door from sea to a sill 0;", 2, 20);
        landFault(BASIN + "errand by p from 0 to 0;", 2, 50);
        landFault(room + "door p from floor", 2, 27);
        landFault(room + "door p from abcdefghi", 2, 27);
        landFault(room + "pump sea 1;", 2, 20);
        landFault(room + "pump a 1 ", 2, 24);
        landFault(room + "room a", 3, 20);
        landFault(room + "door a", 3, 20);
        landFault(room + "door p from a to q", 3, 32);
        landFault(room + "pump b 1;", 3, 20);
        landFault(room + "rota 1 a;", 3, 22);
        landFault(BASIN + "pump p 1;", 3, 48);
        landFault(BASIN + "errand p", 3, 50);
        landFault(BASIN + "errand e by a", 3, 55);
        landFault(BASIN + "errand e by e", 3, 55);
        landFault(BASIN + "errand e by p from 0 to 0;room e", 3, 74);
        landFault("room a floor 100;", 4, 13);
        landFault("room a floor 0 area 0;", 4, 20);
        landFault("room a floor 0 bears 100;", 4, 21);
        landFault("room a floor 0 water 1000;", 4, 21);
        landFault(room + "pump a 100;", 4, 22);
        landFault("tide 12 0;", 4, 5);
        landFault("tide 11 100;", 4, 8);
        landFault(BASIN + "rota 12 p;", 4, 48);
        landFault(BASIN + "errand e by p from 12", 4, 62);
        landFault(BASIN + "errand e by p from 5 to 4;", 4, 67);
        landFault(BASIN + "errand e by p from 5 to 12;", 4, 67);
        landFault(BASIN + "door q from a to sea sill 0 wide 0;", 4, 76);
        landFault(BASIN + "door q from a to sea sill 0 leaks 10;", 4, 77);
        landFault(room + "door p from a to a", 5, 32);
        landFault(room + "door p from sea to sea", 5, 34);
        StringBuilder many = new StringBuilder();
        for (char c = 'a'; c <= 'g'; c++) {
            many.append("room ").append(c).append(" floor 0;");
        }
        landFault(many + "room 5", 6, many.length());
        StringBuilder doors = new StringBuilder(room);
        for (char c = 'b'; c <= 'k'; c++) {
            doors.append("door ").append(c).append(" from sea to a sill 0;");
        }
        landFault(doors + " door", 6, doors.length() + 1);
        StringBuilder errands = new StringBuilder(BASIN);
        for (char c = 'c'; c <= 'f'; c++) {
            errands.append("errand ").append(c).append(" by p from 0 to 0;");
        }
        landFault(errands + "errand", 6, errands.length());
    }

    private static void landTaken() {
        DryDoors x = Kit.of("room lowlands floor 9 area 20 bears 99 water 999 ;\nroom b floor 99;tide 3 7;"
                + "tide 3 8;door p from lowlands to b sill 99 wide 9 leaks 9;door q from b to sea sill 0;"
                + "pump b 4;pump b 5;rota 2 p;rota 2 p;rota 11 p;errand e by q from 11 to 11;");
        due("12 no fault", x.fault(0), 0);
        due("12 no place", x.fault(1), -1);
        int[] lowlands = {9, 20, 99, 0, 999, 49, 58, 0};
        int[] b = {99, 1, 10, 5, 0, 0, 99, 0};
        for (int what = 0; what < 8; what++) {
            due("14 room 0, " + what, x.room(0, what), lowlands[what]);
            due("14 room 1, " + what, x.room(1, what), b[what]);
        }
        int[] p = {0, 1, 99, 9, 9, 1 << 2 | 1 << 11};
        for (int what = 0; what < 6; what++) {
            due("15 door 0, " + what, x.door(0, what), p[what]);
        }
        Kit.fine(x, "15 the sea", x.door(1, 1), -1);
        due("15 wide without", x.door(1, 3), 1);
        due("15 leaks without", x.door(1, 4), 0);
        int[] e = {1, 11, 11};
        for (int what = 0; what < 3; what++) {
            due("16 errand " + what, x.errand(0, what), e[what]);
        }
        due("17 told again", x.tide(3), 8);
        due("17 not told", x.tide(4), 10);
        int[][] wrong = {{-1, 0}, {2, 0}, {0, -1}, {0, 8}};
        for (int[] w : wrong) {
            Kit.refused(x, "14 room", x.room(w[0], w[1]), 1);
            Kit.refused(x, "15 door", x.door(w[0], w[1]), 1);
            Kit.refused(x, "16 errand", x.errand(w[0], w[1]), 1);
        }
        Kit.refused(x, "15 door what", x.door(0, 6), 1);
        Kit.refused(x, "16 errand what", x.errand(0, 3), 1);
        Kit.refused(x, "16 no such errand", x.errand(1, 0), 1);
        Kit.refused(x, "17 tide", x.tide(12), 1);
        Kit.refused(x, "17 tide", x.tide(-1), 1);
        Kit.refused(x, "13 told", x.told(10), 1);
        Kit.refused(x, "13 told", x.told(-1), 1);
    }

    private static void landInPlace() {
        DryDoors x = Kit.of("room a floor 0 bears 1 water 9;door p from sea to a sill 5;tide 0 3;");
        due("10 not drowned at first", x.told(6), 0);
        due("11 nights", Kit.nights(x, "any;"), 1);
        x.hold(0, true);
        x.wall(0, true);
        x.hour(5);
        due("27 drowned", x.told(6), 1);
        due("10 in place", Kit.land(x, BASIN), 1);
        int[] told = {1, 1, 0, 0, 0, 0, 0, 0, 0, 0};
        for (int what = 0; what < 10; what++) {
            due("13 told anew " + what, x.told(what), told[what]);
        }
        due("17 tide anew", x.tide(0), 10);
        due("14 mark anew", x.room(0, 7), 0);
        Kit.refused(x, "10 no nights", x.live(0), 6);
    }

    private static void nightsFault(String text, int kind, int place) {
        DryDoors x = Kit.of(TWO);
        due("11 nights", Kit.nights(x, "hour 2;any;"), 2);
        Kit.refused(x, "11 " + text, Kit.nights(x, text), 9);
        due("12 fault of " + text, x.fault(0), kind);
        due("12 its place", x.fault(1), place);
        due("11 the old ones stay", x.live(0), 2);
        due("11 the tape is empty", x.feed(0, 0, 0, 0, 0), 20);
    }

    private static void nightsFaults() {
        nightsFault("hour 1;!", 1, 7);
        nightsFault("hour 12345;", 1, 5);
        nightsFault("hour", 2, 4);
        nightsFault("end;", 2, 0);
        nightsFault("hour 1;end;", 2, 7);
        nightsFault("any;when wet a;any;", 2, 19);
        nightsFault("when wet a;any;end", 2, 18);
        nightsFault("loop 3;", 2, 7);
        nightsFault("room", 2, 0);
        nightsFault("a", 2, 0);
        nightsFault("open room", 2, 5);
        nightsFault("open abcdefghi", 2, 5);
        nightsFault("when p", 2, 5);
        nightsFault("when bail", 2, 5);
        nightsFault("when depth a;", 2, 12);
        nightsFault("when depth a 5;", 2, 13);
        nightsFault("when depth a < ;", 2, 15);
        nightsFault("stop 1;", 2, 5);
        nightsFault("open a;", 3, 5);
        nightsFault("shut z;", 3, 5);
        nightsFault("bail p 1;", 3, 5);
        nightsFault("when open a;", 3, 10);
        nightsFault("when wet p;", 3, 9);
        nightsFault("when depth z", 3, 11);
        nightsFault("hour 0;", 4, 5);
        nightsFault("hour 13;", 4, 5);
        nightsFault("bail a 0;", 4, 7);
        nightsFault("bail a 1000;", 4, 7);
        nightsFault("loop 0;", 4, 5);
        nightsFault("loop 100;", 4, 5);
        String any = "any;".repeat(30);
        nightsFault(any + "any;", 6, 120);
        nightsFault("loop 1;end;" + any, 6, 11 + 29 * 4);
        nightsFault("loop 1;when wet a;loop 2;when open p;", 7, 25);
        nightsFault("loop 1;loop 1;loop 1;loop 1;", 7, 21);
        nightsFault("any;".repeat(27) + "loop 1;loop 1;loop 1;loop 1;", 6, 108 + 21);
        DryDoors x = Kit.of(TWO);
        due("11 thirty", Kit.nights(x, any), 30);
        due("12 no fault", x.fault(0) * 10 + x.fault(1), -1);
        due("11 three deep", Kit.nights(x, "loop 1;loop 1;loop 1;end;loop 1;end;end;end;"), 4);
        due("11 all", Kit.nights(x, "hour 12;open p;shut q;bail b 999;any;when wet a;stop;end;when open q;end;"
                + "when depth a<0;end;when depth a > 9999;end;when depth b = 5;end;loop 99;end;"), 12);
    }

    // ---- 13, 18 to 26

    private static void told() {
        DryDoors x = Kit.of("room a floor 0 area 2 bears 3 water 1;room b floor 5 water 40;door p from sea to a sill 6;"
                + "door q from a to b sill 4;rota 1 p;errand e by p from 0 to 0;");
        x.hold(1, true);
        int[] now = {2, 2, 1, 0, 41, 2, 0, 2, 2, 0};
        for (int what = 0; what < 10; what++) {
            due("13 told " + what, x.told(what), now[what]);
        }
        x.wall(1, true);
        x.hour(1);
        int[] then = {2, 2, 1, 1, 41, 2, 2, 1, 2, 2};
        for (int what = 0; what < 10; what++) {
            due("13 told then " + what, x.told(what), then[what]);
        }
        x.wall(0, true);
        due("13 walled, on the rota", x.told(7), 0);
        x.hour(12);
        x.wall(1, false);
        due("13 held, no more walled", x.told(7), 2);
    }

    private static void flows() {
        DryDoors x = Kit.of("room a floor 2;room b floor 9 area 2 water 7;door p from sea to a sill 5 wide 3 leaks 2;"
                + "door q from a to b sill 4 leaks 9;door r from a to sea sill 10;tide 1 0;");
        // SURFACES: a 2, b 12, sea 10
        int[] drive = {5, 8, 0};
        int[] flow = {2, -8, 0};
        int[] open = {15, -8, 0};
        for (int d = 0; d < 3; d++) {
            due("18 drive " + d, x.drive(d), drive[d]);
            Kit.fine(x, "19 flow " + d, x.flow(d), flow[d]);
            Kit.fine(x, "20 flowOpen " + d, x.flowOpen(d), open[d]);
        }
        due("22 busiest", x.busiest(), 1);
        x.hold(0, true);
        due("19 open", x.flow(0), 15);
        due("22 busiest", x.busiest(), 0);
        x.wall(0, true);
        Kit.fine(x, "19 walled", x.flow(0), 0);
        due("20 walled", x.flowOpen(0), 15);
        due("18 walled", x.drive(0), 5);
        x.wall(1, true);
        Kit.refused(x, "22 nothing flows", x.busiest(), 6);
        Kit.refused(x, "18 no door", x.drive(3), 1);
        Kit.refused(x, "19 no door", x.flow(-1), 1);
        Kit.refused(x, "20 no door", x.flowOpen(3), 1);
        DryDoors y = Kit.of("room a floor 4;room b floor 3;door p from b to a sill 3 wide 1;");
        Kit.fine(y, "19 flow -1 of a dry room", y.flowOpen(0), -1);
        DryDoors even = Kit.of("room a floor 0;room b floor 0;door p from sea to a sill 5;door q from sea to b sill 5;");
        even.hold(1, true);
        even.hold(0, true);
        due("22 of several the first", even.busiest(), 0);
    }

    private static void depths() {
        DryDoors x = Kit.of("room a floor 0 area 3 bears 2 water 2;room b floor 0 area 2 water 6;room c floor 0 water 3;"
                + "room d floor 0 area 20 bears 99;");
        due("21 deepest, of several the first", x.deepest(), 1);
        due("23 spare", x.spare(0), 6);
        due("23 spare", x.spare(1), 15);
        due("23 spare", x.spare(3), 1999);
        Kit.refused(x, "23 no room", x.spare(4), 1);
        DryDoors y = Kit.of("room a floor 0 area 3 bears 2 water 8;room b floor 0 area 3 bears 2 water 9;");
        Kit.fine(y, "23 spare 0", y.spare(0), 0);
        Kit.fine(y, "23 below 0", y.spare(1), 0);
        DryDoors dry = Kit.of("room a floor 0 area 2 water 1;");
        Kit.refused(dry, "21 none is wet", dry.deepest(), 6);
    }

    private static void seaAndWays() {
        DryDoors x = Kit.of("room a floor 0;room b floor 0;room c floor 0;room d floor 0;door p from sea to a sill 6;"
                + "door q from a to b sill 99;door r from c to b sill 0;door s from d to sea sill 0;"
                + "door t from sea to c sill 10;tide 4 2;tide 9 2;tide 5 7;tide 6 6;");
        due("24 low", x.low(), 4);
        due("25 high", x.high(0), 0xfff & ~(1 << 4 | 1 << 9 | 1 << 6));
        due("25 high, at the sill", x.high(4), 0);
        due("25 high of a door within", x.high(2), 0xfff);
        Kit.refused(x, "25 no door", x.high(5), 1);
        due("26 linked", x.linked(0), 7);
        due("26 not over the sea", x.linked(3), 8);
        x.wall(1, true);
        due("26 walled", x.linked(0), 1);
        due("26 walled", x.linked(1), 6);
        Kit.refused(x, "26 no room", x.linked(4), 1);
        Kit.refused(x, "26 no room", x.linked(-1), 1);
    }

    // ---- 27 to 36

    private static void hours() {
        DryDoors x = held(BASIN, 0);
        due("27 hour", x.hour(1), 0);
        due("27 water", x.told(4), 5);
        due("27 mark", x.room(0, 7), 5);
        x.hour(1);
        due("27 water", x.told(4), 10);
        x.moon(2, 12);
        due("27 drowned in it", x.hour(1), 1);
        due("27 water", x.told(4), 12);
        due("27 not drowned once more", x.hour(1), 0);
        due("27 back to the sea", x.told(4), 10);
        due("27 for good", x.told(6), 1);
        due("27 the greatest depth", x.room(0, 7), 12);
        Kit.refused(x, "27 none", x.hour(0), 1);
        Kit.refused(x, "27 too many at once", x.hour(100), 1);
        for (int i = 0; i < 100; i++) {
            x.hour(99);
        }
        due("27 hour 9,904", x.told(3), 9904);
        Kit.refused(x, "27 above 9,999", x.hour(96), 4);
        due("27 nothing went by", x.told(3), 9904);
        due("27 to 9,999", x.hour(95), 0);
        due("27 9,999", x.told(3), 9999);
        Kit.refused(x, "27 the end", x.hour(1), 4);
        due("37 9,999 does not matter", x.later(0, 99), 10);
    }

    private static void hourInDetail() {
        // p takes all that is in a, so that nothing is left for q; what comes by r in this HOUR is there for s
        DryDoors x = Kit.of("room a floor 5 water 4;room b floor 0;room c floor 0;door p from a to b sill 0 wide 2;"
                + "door q from a to c sill 0;door s from c to b sill 0;tide 0 0;");
        for (int d = 0; d < 3; d++) {
            x.hold(d, true);
        }
        due("19 more than there is", x.flow(0), 18);
        x.hour(1);
        due("27 door by door", x.room(1, 4) * 100 + x.room(2, 4) * 10 + x.room(0, 4), 400);
        DryDoors chain = Kit.of("room a floor 9 water 3;room b floor 4;room c floor 0;door p from a to b sill 0;"
                + "door q from b to c sill 0;");
        chain.hold(0, true);
        chain.hold(1, true);
        chain.hour(1);
        due("27 what came is there still", chain.room(2, 4), 3);
        DryDoors pump = Kit.of("room a floor 0 bears 1 water 9;room b floor 0 water 2;pump a 8;pump b 3;");
        due("27 pumps ahead of drowning", pump.hour(1), 0);
        due("27 pumped", pump.room(0, 4) * 10 + pump.room(1, 4), 10);
        due("27 mark behind the pumps", pump.room(0, 7), 1);
        DryDoors full = Kit.of("room a floor 0 area 20 water 999;door p from sea to a sill 0 wide 9;"
                + "door q from sea to a sill 0 wide 9;");
        for (int h = 0; h < 12; h++) {
            full.moon(h, 99);
        }
        full.hold(0, true);
        full.hold(1, true);
        for (int i = 0; i < 4; i++) {
            full.hour(1);
        }
        // each HOUR 2 times 9 times (99 less the depth)
        due("27 water", full.told(4), 999 + 18 * (99 - 49) + 18 * (99 - 94) + 18 * (99 - 99));
    }

    private static void roomHoldsNoMore() {
        DryDoors x = Kit.of("room a floor 99 water 999;room b floor 99 water 999;room c floor 99 water 999;"
                + "room d floor 0 bears 99;door p from a to d sill 0 wide 9;door q from b to d sill 0 wide 9;"
                + "door r from c to d sill 0 wide 9;");
        for (int d = 0; d < 3; d++) {
            x.hold(d, true);
        }
        x.hour(1);
        due("27 all in one", x.room(3, 4), 2997);
        StringBuilder land = new StringBuilder("room g floor 0 water 999;");
        for (char c = 'a'; c <= 'f'; c++) {
            land.append("room ").append(c).append(" floor 90;door d").append(c).append(" from sea to ").append(c)
                    .append(" sill 0 wide 9;");
        }
        for (char c = 'a'; c <= 'd'; c++) {
            land.append("door e").append(c).append(" from ").append(c).append(" to g sill 0 wide 9;");
        }
        DryDoors y = Kit.of(land.toString());
        for (int h = 0; h < 12; h++) {
            y.moon(h, 99);
        }
        for (int d = 0; d < 4; d++) {
            y.hold(d, true);
            y.hold(6 + d, true);
        }
        int through = 0;
        for (int h = 0; h < 40; h++) {
            y.hour(1);
            through = Math.max(through, y.room(0, 4));
        }
        due("27 never above 9,999", through <= 9999, true);
    }

    private static void hands() {
        DryDoors x = Kit.of(BASIN);
        Kit.refused(x, "28 it is so", x.hold(0, false), 7);
        due("28 hold", x.hold(0, true), true);
        Kit.refused(x, "28 it is so", x.hold(0, true), 7);
        due("28 no more", x.hold(0, false), true);
        Kit.refused(x, "28 no door", x.hold(1, true), 1);
        Kit.refused(x, "28 no door", x.hold(-1, true), 1);
        Kit.refused(x, "29 it is so", x.wall(0, false), 7);
        due("29 wall", x.wall(0, true), true);
        Kit.refused(x, "29 it is so", x.wall(0, true), 7);
        due("28 a walled door is held", x.hold(0, true), true);
        due("13 held, not open", x.told(8) * 10 + x.told(7), 10);
        due("29 a door again", x.wall(0, false), true);
        due("13 open", x.told(7), 1);
        Kit.refused(x, "29 no door", x.wall(1, true), 1);
        DryDoors y = Kit.of("room a floor 0 water 999;room b floor 0 water 5;");
        due("30 bail", y.bail(1, 2), 3);
        due("30 all of it", y.bail(1, 3), 0);
        Kit.refused(y, "30 there is less", y.bail(1, 1), 7);
        due("30 999", y.bail(0, 999), 0);
        Kit.refused(y, "30 number", y.bail(0, 0), 1);
        Kit.refused(y, "30 number", y.bail(0, 1000), 1);
        Kit.refused(y, "30 room", y.bail(2, 1), 1);
    }

    private static void wipeAndRota() {
        DryDoors x = Kit.of("room a floor 0 water 3;room b floor 0;room c floor 0 area 2 water 5;");
        due("31 none yet", x.wipe(), 0);
        x.hour(1);
        due("31 wipe", x.wipe(), 2);
        due("31 wiped", x.room(0, 7), 0);
        due("31 once more", x.wipe(), 0);
        DryDoors y = Kit.of(BASIN + "rota 0 p;");
        Kit.refused(y, "32 it is so", y.rota(0, 0, true), 7);
        due("32 onto", y.rota(11, 0, true), true);
        due("32 off", y.rota(0, 0, false), true);
        due("32 hours", y.door(0, 5), 1 << 11);
        Kit.refused(y, "32 it is so", y.rota(0, 0, false), 7);
        Kit.refused(y, "32 hour", y.rota(12, 0, true), 1);
        Kit.refused(y, "32 hour", y.rota(-1, 0, true), 1);
        Kit.refused(y, "32 door", y.rota(0, 1, true), 1);
        due("33 moon", y.moon(4, 99), true);
        due("33 tide", y.tide(4), 99);
        Kit.refused(y, "33 hour", y.moon(12, 0), 1);
        Kit.refused(y, "33 height", y.moon(0, 100), 1);
        Kit.refused(y, "33 height", y.moon(0, -1), 1);
        due("34 pump", y.pump(0, 99), true);
        due("34 takes", y.room(0, 3), 99);
        Kit.refused(y, "34 much", y.pump(0, 100), 1);
        Kit.refused(y, "34 much", y.pump(0, -1), 1);
        Kit.refused(y, "34 room", y.pump(1, 0), 1);
    }

    private static void raiseAndBuild() {
        DryDoors x = Kit.of(BASIN);
        due("35 raise", x.raise(0, 94), 99);
        Kit.refused(x, "35 above 99", x.raise(0, 1), 7);
        due("35 lower", x.raise(0, -99), 0);
        Kit.refused(x, "35 below 0", x.raise(0, -1), 7);
        due("35 by 0", x.raise(0, 0), 0);
        Kit.refused(x, "35 number", x.raise(0, 100), 1);
        Kit.refused(x, "35 number", x.raise(0, -100), 1);
        Kit.refused(x, "35 door", x.raise(1, 0), 1);
        due("35 stays", x.door(0, 2), 0);
        DryDoors y = Kit.of("room a floor 0 bears 1 water 2;room b floor 0 bears 1 water 2;room c floor 0;");
        Kit.refused(y, "36 not drowned yet", y.build(0), 7);
        y.hour(1);
        due("36 build", y.build(1), 1);
        due("36 drowned", y.told(6), 1);
        due("36 its water stays", y.room(1, 4), 2);
        Kit.refused(y, "36 it is not", y.build(1), 7);
        Kit.refused(y, "36 room", y.build(3), 1);
        due("36 drowned anew", y.hour(1), 2);
    }

    // ---- 37 to 55

    private static void later() {
        DryDoors x = held(BASIN, 0);
        int[] water = {0, 5, 10, 10};
        for (int h = 0; h < 4; h++) {
            due("37 later " + h, x.later(0, h), water[h]);
            due("38 allLater " + h, x.allLater(h), water[h]);
            due("46 greatest " + h, x.greatest(0, h), water[h]);
            due("45 through " + h, x.through(0, h), water[h]);
        }
        due("37 nothing happens", x.told(4) + x.told(3) + x.room(0, 7), 0);
        Kit.refused(x, "37 hours", x.later(0, 100), 1);
        Kit.refused(x, "37 hours", x.later(0, -1), 1);
        Kit.refused(x, "37 room", x.later(1, 0), 1);
        Kit.refused(x, "38 hours", x.allLater(100), 1);
        Kit.refused(x, "38 hours", x.allLater(-1), 1);
        Kit.refused(x, "45 door", x.through(1, 0), 1);
        Kit.refused(x, "45 hours", x.through(0, 100), 1);
        Kit.refused(x, "46 room", x.greatest(1, 0), 1);
        Kit.refused(x, "46 hours", x.greatest(0, 100), 1);
        x.moon(2, 12);
        due("46 the greatest", x.greatest(0, 9), 12);
        due("45 either way", x.through(0, 4), 5 + 5 + 2 + 2);
        DryDoors y = Kit.of("room a floor 0 area 2 water 7;pump a 3;");
        due("46 now, too", y.greatest(0, 5), 3);
        due("46 of no hours", y.greatest(0, 0), 3);
    }

    private static void whenFirst() {
        DryDoors x = Kit.of("room a floor 0 area 2 bears 3;room b floor 0;door p from sea to a sill 5 leaks 1;tide 0 0;");
        due("39 wetIn", x.wetIn(0), 3);
        Kit.refused(x, "39 not in 99", x.wetIn(1), 6);
        Kit.refused(x, "39 room", x.wetIn(2), 1);
        // HOUR 0 brings nothing: 8 in it behind 9 HOURS, depth 4
        due("40 drownsIn", x.drownsIn(0), 9);
        due("47 firstDrowned", x.firstDrowned(), 0);
        Kit.refused(x, "40 not in 99", x.drownsIn(1), 6);
        Kit.refused(x, "40 room", x.drownsIn(-1), 1);
        x.hour(9);
        due("40 it is", x.drownsIn(0), 0);
        due("39 it is", x.wetIn(0), 0);
        Kit.refused(x, "47 no more", x.firstDrowned(), 6);
        DryDoors y = Kit.of("room a floor 0 water 100;pump a 1;room b floor 0 area 2 water 1;");
        due("41 dryIn 100", y.dryIn(), -1);
        due("41 status", y.status(), 6);
        y.bail(0, 1);
        due("41 dryIn 99", y.dryIn(), 99);
        y.bail(0, 99);
        due("41 dryIn 0", y.dryIn(), 0);
        DryDoors z = Kit.of("room a floor 0 bears 5 water 99;room b floor 0 bears 1 water 99;");
        due("47 of several the first", z.firstDrowned(), 0);
        z.hour(1);
        z.build(1);
        due("47 of those not drowned now", z.firstDrowned(), 1);
        // bears all 98 HOURS, and is above it at the end of the 99th
        DryDoors late = Kit.of("room a floor 0 area 9 bears 10;door p from sea to a sill 0 leaks 1;");
        for (int h = 0; h < 12; h++) {
            late.moon(h, 99);
        }
        due("40 in 99", late.drownsIn(0), 99);
        due("47 in 99", late.firstDrowned(), 0);
        due("39 in 9", late.wetIn(0), 9);
        DryDoors later = Kit.of("room a floor 0 area 10 bears 9;door p from sea to a sill 0 leaks 1;");
        for (int h = 0; h < 12; h++) {
            later.moon(h, 99);
        }
        Kit.refused(later, "40 in 100", later.drownsIn(0), 6);
        Kit.refused(later, "47 in 100", later.firstDrowned(), 6);
        late.raise(0, 99);
        Kit.refused(late, "40 never", late.drownsIn(0), 6);
    }

    private static void ifHeld() {
        DryDoors x = Kit.of("room a floor 0 bears 9;room b floor 0 bears 9;room c floor 0 bears 1 water 2;"
                + "door p from sea to a sill 5;door q from sea to b sill 9;");
        // p: 10 in a behind 2 HOURS; q: 1 an HOUR, 10 behind 10; c is DROWNED anyway
        due("42 fails", x.fails(0), 5);
        due("42 fails", x.fails(1), 6);
        due("43 worst, of several the first", x.worst(), 0);
        Kit.refused(x, "44 c drowns anyway", x.sillFor(0), 6);
        x.hour(1);
        // whatever comes in at all is 10 behind 12 HOURS: only at TIDE height nothing does
        due("44 sillFor", x.sillFor(0), 5);
        due("44 sillFor", x.sillFor(1), 1);
        Kit.refused(x, "42 door", x.fails(2), 1);
        Kit.refused(x, "44 door", x.sillFor(2), 1);
        x.wall(0, true);
        due("42 walled", x.fails(0), 4);
        due("44 walled", x.sillFor(0), 0);
        due("43 walled", x.worst(), 1);
        DryDoors none = Kit.of("room a floor 0 water 5;");
        Kit.refused(none, "43 no doors", none.worst(), 6);
        DryDoors high = Kit.of("room a floor 0 bears 1;room b floor 99 water 50;door p from b to a sill 0;");
        Kit.refused(high, "44 not by 99", high.sillFor(0), 6);
        DryDoors top = Kit.of("room a floor 0 bears 1;door p from sea to a sill 98;");
        for (int h = 0; h < 12; h++) {
            top.moon(h, 99);
        }
        due("44 to 99", top.sillFor(0), 1);
    }

    private static void bestHour() {
        DryDoors x = Kit.of(BASIN + "tide 7 6;tide 9 6;");
        due("48 bestHour", x.bestHour(0), 7);
        x.hour(8);
        due("48 by number", x.bestHour(0), 7);
        x.moon(7, 10);
        due("48 the other", x.bestHour(0), 9);
        x.wall(0, true);
        due("48 walled: the first", x.bestHour(0), 0);
        Kit.refused(x, "48 door", x.bestHour(1), 1);
        DryDoors held = held(BASIN + "tide 7 6;", 0);
        due("48 held by hand: no more", held.bestHour(0), 7);
        due("13 held still", held.told(8), 1);
        DryDoors rota = Kit.of(BASIN + "tide 3 6;rota 5 p;pump a 9;");
        // the ROTA goes on: 5 in HOUR 5 are pumped out; the pump takes what comes in any HOUR
        due("48 else as it is", rota.bestHour(0), 0);
        DryDoors late = Kit.of("room a floor 0 water 9;door p from a to sea sill 0;tide 11 1;tide 4 3;");
        due("48 out of the room", late.bestHour(0), 11);
    }

    private static void pumps() {
        DryDoors x = held("room a floor 0 bears 3;room b floor 0;door p from sea to a sill 5;", 0);
        due("49 pumpFor", x.pumpFor(0), 5);
        due("49 none needed", x.pumpFor(1), 0);
        Kit.refused(x, "49 room", x.pumpFor(2), 1);
        x.hour(2);
        Kit.refused(x, "49 drowned", x.pumpFor(0), 6);
        DryDoors slow = Kit.of("room a floor 0 area 2 bears 3;door p from sea to a sill 5 leaks 1;");
        // 1 an HOUR: 8 behind 8 HOURS
        due("49 24 hours", slow.pumpFor(0), 1);
        DryDoors day = Kit.of("room a floor 0 bears 20;door p from sea to a sill 5 leaks 1;");
        for (int h = 0; h < 12; h++) {
            day.moon(h, 99);
        }
        due("49 behind 12 hours all is well, behind 24 not", day.pumpFor(0), 1);
        DryDoors y = Kit.of("room a floor 0 water 5;room b floor 0 water 30;room c floor 0 water 60;pump c 98;");
        due("50 pumpAt", y.pumpAt(1), 1);
        due("50 99 in all", y.pumpAt(99), 1);
        DryDoors even = Kit.of("room a floor 0 water 5;room b floor 0 water 5;pump a 99;");
        due("50 the least water", even.pumpAt(99), 1);
        even.pump(0, 0);
        due("50 of several the first", even.pumpAt(99), 0);
        Kit.refused(even, "50 much", even.pumpAt(0), 1);
        Kit.refused(even, "50 much", even.pumpAt(100), 1);
        DryDoors none = new DryDoors();
        Kit.refused(none, "50 much ahead of no rooms", none.pumpAt(0), 1);
        Kit.refused(none, "50 no rooms", none.pumpAt(1), 6);
    }

    private static void walls() {
        DryDoors x = Kit.of("room a floor 0;room b floor 0;room c floor 0;door p from sea to a sill 5;"
                + "door q from sea to b sill 8;door r from sea to c sill 5;");
        for (int d = 0; d < 3; d++) {
            x.hold(d, true);
        }
        // all fill up to 10 in 12 HOURS: any two are as good
        due("51 of several the least", x.twoWalls(), 1);
        due("52 gain", x.gain(1), 10);
        x.moon(0, 9);
        x.raise(1, 1);
        // q brings 1 an HOUR from HOUR 1 on: 10 behind it, too
        due("51", x.twoWalls(), 1);
        x.pump(1, 1);
        due("51 what the pump takes needs no wall", x.twoWalls(), 2);
        Kit.fine(x, "52 no gain", x.gain(1), 0);
        x.wall(0, true);
        due("51 of those not walled", x.twoWalls(), 12);
        Kit.fine(x, "52 walled already", x.gain(0), 0);
        x.wall(1, true);
        Kit.refused(x, "51 there are not two", x.twoWalls(), 6);
        Kit.refused(x, "52 door", x.gain(3), 1);
        DryDoors out = Kit.of("room a floor 11;room b floor 50 water 1;door p from b to sea sill 0;");
        out.hold(0, true);
        Kit.fine(out, "52 a loss of 1", out.gain(0), -1);
    }

    private static void bailing() {
        DryDoors x = Kit.of("room a floor 0 area 2 water 7;");
        due("53 bailFor", x.bailFor(0, 1), 6);
        x.pump(0, 2);
        due("53 with a pump", x.bailFor(0, 1), 4);
        due("53 in time", x.bailFor(0, 3), 0);
        Kit.refused(x, "53 hours", x.bailFor(0, 0), 1);
        Kit.refused(x, "53 hours", x.bailFor(0, 25), 1);
        Kit.refused(x, "53 room", x.bailFor(1, 1), 1);
        DryDoors y = held(BASIN, 0);
        Kit.refused(y, "53 not by all", y.bailFor(0, 24), 6);
        due("53 nothing is bailed", x.told(4), 7);
        DryDoors all = held("room a floor 0 water 3;room b floor 0;door p from a to b sill 0;", 0);
        // 3 go over and back: behind an even number of HOURS they are here again
        due("53 odd", all.bailFor(0, 1), 0);
        due("53 even", all.bailFor(0, 2), 3);
    }

    private static void sieges() {
        DryDoors x = held("room a floor 0 bears 3;room b floor 0 bears 1 water 2;door p from sea to a sill 5;", 0);
        due("54 at the sill", x.siege(5), 2);
        due("54 above", x.siege(6), 3);
        Kit.refused(x, "55 b drowns by none", x.borne(), 6);
        x.hour(1);
        due("55 both are drowned", x.told(6), 3);
        due("55 none more by any", x.borne(), 99);
        Kit.refused(x, "54 height", x.siege(100), 1);
        Kit.refused(x, "54 height", x.siege(-1), 1);
        DryDoors y = held("room a floor 0 bears 3;door p from sea to a sill 5;", 0);
        due("55 at the sill", y.borne(), 5);
        due("55 the tide stays", y.tide(0), 10);
        DryDoors none = held("room a floor 0 bears 1;door p from sea to a sill 0 wide 9;", 0);
        Kit.fine(none, "55 height 0", none.borne(), 0);
        Kit.fine(none, "54 height 0", none.siege(0), 0);
        due("54 height 1", none.siege(1), 1);
        y.wall(0, true);
        due("55 all", y.borne(), 99);
    }

    // ---- 56 to 67

    private static void keeping() {
        DryDoors x = Kit.of("room a floor 0;room b floor 0;room c floor 0;door p from sea to a sill 99;"
                + "door q from sea to a sill 0;door r from a to b sill 0;door s from sea to b sill 0;");
        // p, q and r or s cut off a: of both the lesser number
        int[] fewest = {3, 2, 0};
        int[] set = {0b0111, 0b1100, 0};
        due("56 keep", x.keep(0), fewest[0]);
        due("57 of several the least", x.keepSet(0), set[0]);
        due("56 keep", x.keep(1), fewest[1]);
        due("57 keepSet", x.keepSet(1), set[1]);
        Kit.fine(x, "56 kept already", x.keep(2), fewest[2]);
        Kit.fine(x, "57 kept already", x.keepSet(2), set[2]);
        x.wall(2, true);
        due("56 those walled are", x.keep(1), 1);
        due("57 those walled are", x.keepSet(1), 0b1000);
        due("56", x.keep(0), 2);
        Kit.refused(x, "56 room", x.keep(3), 1);
        Kit.refused(x, "57 room", x.keepSet(-1), 1);
    }

    private static void planning() {
        DryDoors x = Kit.of(BASIN + "tide 2 6;tide 3 6;errand e by p from 1 to 4;");
        due("58 drowned", x.plan(0), 0);
        due("58 water", x.plan(1), 1);
        due("59 the first", x.planned(0), 2);
        x.hour(3);
        due("59 by number, not by what comes first", x.planned(0), 2);
        Kit.refused(x, "58 what", x.plan(2), 1);
        Kit.refused(x, "58 what", x.plan(-1), 1);
        Kit.refused(x, "59 errand", x.planned(1), 1);
        DryDoors none = Kit.of(BASIN);
        Kit.refused(none, "58 what ahead of no errands", none.plan(2), 1);
        Kit.refused(none, "58 no errands", none.plan(0), 6);
        Kit.refused(none, "59 no errands", none.planned(0), 1);
        DryDoors rota = Kit.of(BASIN + "rota 9 p;tide 2 6;errand e by p from 1 to 4;");
        due("58 the rota does not count", rota.plan(1), 1);
        rota.hold(0, true);
        due("58 hands do", rota.plan(1), 10);
        due("59 all the same", rota.planned(0), 1);
        rota.wall(0, true);
        Kit.fine(rota, "58 walled", rota.plan(1), 0);
        // by HOUR 11 nothing drowns, though HOUR 0 would leave less
        DryDoors deep = Kit.of("room a floor 0 bears 13;door p from sea to a sill 5 wide 3;pump a 1;tide 11 9;"
                + "errand e by p from 0 to 11;");
        due("58 fewest drowned first", deep.plan(0), 0);
        due("58 then the water", deep.plan(1), 11);
        due("59 hour", deep.planned(0), 11);
        deep.hour(1);
        deep.wall(0, true);
        due("58 none more", deep.plan(0), 0);
        DryDoors four = Kit.of("room a floor 0 area 20 bears 99;door p from sea to a sill 5;errand e by p from 0 to 3;"
                + "errand f by p from 2 to 5;errand g by p from 0 to 11;errand h by p from 2 to 2;");
        // all at once in HOUR 2: 5 in all
        due("58 at once", four.plan(1), 5);
        for (int e = 0; e < 4; e++) {
            due("59 errand " + e, four.planned(e), 2);
        }
        // both at once bring 20; one behind the other 10, in whatever order
        DryDoors two = Kit.of("room a floor 0;door p from sea to a sill 5 wide 2;door q from sea to a sill 5 wide 2;"
                + "errand e by p from 6 to 7;errand f by q from 6 to 7;");
        due("58 apart", two.plan(1), 10);
        due("59 the first by errand 0", two.planned(0) * 10 + two.planned(1), 67);
        two.hour(7);
        due("59 by number still", two.planned(0) * 10 + two.planned(1), 67);
    }

    private static void saving() {
        DryDoors x = Kit.of("room a floor 0 water 10;pump a 3;");
        int[] water = {10, 7, 4, 1, 0, 0};
        int[] set = {0, 1, 3, 7, 15, 31};
        for (int h = 0; h < 6; h++) {
            Kit.fine(x, "60 save " + h, x.save(h), water[h]);
            Kit.fine(x, "61 saveSet " + h, x.saveSet(h), set[h]);
        }
        due("61 all", x.saveSet(12), 4095);
        Kit.refused(x, "60 hours", x.save(13), 1);
        Kit.refused(x, "60 hours", x.save(-1), 1);
        Kit.refused(x, "61 hours", x.saveSet(13), 1);
        Kit.refused(x, "61 hours", x.saveSet(-1), 1);
        DryDoors y = Kit.of("room a floor 0;door p from sea to a sill 5 leaks 1;pump a 99;");
        // it leaks in all HOURS, and the last one takes all
        due("60 the last of the day", y.save(1), 0);
        due("61 the last of the day", y.saveSet(1), 1 << 11);
        y.hour(5);
        // the next 12 end with HOUR 4
        due("61 of the next 12", y.saveSet(1), 1 << 4);
        due("34 pumps go as before", y.later(0, 1), 0);
    }

    private static void guilty() {
        DryDoors x = Kit.of("room a floor 0 area 20;room b floor 99;door p from sea to a sill 6 wide 2;"
                + "door q from sea to a sill 5;door r from b to a sill 99;rota 3 p;");
        due("62 damage of none", x.damage(0), 0);
        due("62 damage", x.damage(1), 96);
        due("62 damage", x.damage(2), 60);
        due("62 damage", x.damage(3), 151);
        due("62 damage", x.damage(7), 151);
        Kit.refused(x, "62 no such set", x.damage(8), 1);
        Kit.refused(x, "62 no such set", x.damage(-1), 1);
        due("63 guilt", x.guilt(0, 3), true);
        due("63 top", x.top(), 187);
        due("63 bottom", x.bottom(), 2);
        due("63 guilt", x.guilt(1, 3), true);
        due("63 top", x.top(), 115);
        due("63 guilt of three", x.guilt(1, 7), true);
        due("63 top", x.top(), 115);
        due("63 bottom", x.bottom(), 2);
        due("63 guilt of nothing", x.guilt(2, 7), true);
        due("63 top", x.top(), 0);
        due("63 bottom", x.bottom(), 1);
        Kit.refused(x, "63 none", x.guilt(0, 0), 1);
        Kit.refused(x, "63 not in it", x.guilt(2, 3), 1);
        Kit.refused(x, "63 no such set", x.guilt(0, 9), 1);
        Kit.refused(x, "63 no such door", x.guilt(3, 3), 1);
        Kit.refused(x, "63 no such door", x.guilt(-1, 3), 1);
        Kit.refused(x, "63 no such door", x.guilt(32, 3), 1);
        x.hold(1, true);
        due("62 hands and rota do not count", x.damage(1), 96);
        x.wall(0, true);
        due("62 walled", x.damage(1), 0);
        StringBuilder six = new StringBuilder("room a floor 0;");
        for (char c = 'b'; c <= 'g'; c++) {
            six.append("door ").append(c).append(" from sea to a sill 9;");
        }
        DryDoors y = Kit.of(six.toString());
        due("62 six", y.damage(63) >= 0, true);
        Kit.refused(y, "63 six", y.guilt(0, 63), 1);
        due("63 five", y.guilt(0, 31), true);
        due("63 five of the same: a fifth each", y.top() * 5, y.damage(31) * y.bottom());
    }

    private static void printing() {
        DryDoors x = Kit.of("room a floor 0;room b floor 0 area 4;door p from sea to a sill 5;door q from sea to b sill 5;"
                + "door r from a to b sill 0;door s from sea to b sill 8;rota 0 p;");
        // PRINTS: p 10 0, q 0 9, r 0 0, s 0 6
        x.hold(1, true);
        x.tray(0, 3, 3);
        x.write(0, 2, 77);
        due("64 print", x.print(0, 0), 2);
        due("64 by room", x.read(0, 0) * 100 + x.read(0, 1) * 10, 1000);
        due("64 the rest stays", x.read(0, 2), 77);
        due("65 suspects", x.suspects(0), 1);
        due("64 print", x.print(3, 0), 2);
        due("64 by room", x.read(0, 0) * 10 + x.read(0, 1), 6);
        due("65 suspects", x.suspects(0), 8);
        x.write(0, 1, 0);
        due("65 suspects", x.suspects(0), 4);
        x.write(0, 1, 5);
        Kit.fine(x, "65 none", x.suspects(0), 0);
        due("67 prints", x.prints(0), 2);
        due("67 prints", x.prints(1), 3);
        due("66 telling", x.telling(), 1);
        x.wall(1, true);
        x.wall(3, true);
        due("67 not of walled ones", x.prints(1), 1);
        due("66 telling", x.telling(), 0);
        due("64 print of a walled one", x.print(1, 0), 2);
        due("64 nothing", x.read(0, 0) * 10 + x.read(0, 1), 0);
        due("65 not walled ones", x.suspects(0), 4);
        due("31 walls are not wiped", x.room(0, 7), 0);
        Kit.refused(x, "64 door", x.print(4, 0), 1);
        Kit.refused(x, "64 tray", x.print(0, 4), 1);
        Kit.refused(x, "64 missing", x.print(0, 1), 2);
        x.tray(1, 0, 1);
        Kit.refused(x, "64 too few", x.print(0, 1), 3);
        Kit.refused(x, "65 tray", x.suspects(-1), 1);
        Kit.refused(x, "65 missing", x.suspects(2), 2);
        Kit.refused(x, "65 too few", x.suspects(1), 3);
        Kit.refused(x, "67 room", x.prints(2), 1);
        DryDoors none = new DryDoors();
        Kit.refused(none, "66 no rooms", none.telling(), 6);
        DryDoors noDoors = Kit.of("room a floor 0;");
        due("66 no doors", noDoors.telling(), 0);
        due("67 no doors", noDoors.prints(0), 0);
        DryDoors marked = Kit.of("room a floor 0 water 9;door p from a to sea sill 0;");
        marked.hour(1);
        for (int h = 0; h < 12; h++) {
            marked.moon(h, 0);
        }
        marked.tray(0, 0, 1);
        marked.print(0, 0);
        due("64 wiped now", marked.read(0, 0), 0);
        DryDoors cut = Kit.of("room a floor 0 water 200;room b floor 0;door p from sea to b sill 99;");
        cut.tray(0, 0, 2);
        cut.print(0, 0);
        due("64 cut to the sort", cut.read(0, 0), (byte) 200);
    }

    // ---- 68 to 72

    private static void lived(DryDoors x, String what, int missed, int hours, int bailed, int drowned, int left) {
        int[] all = {missed, hours, bailed, drowned, left};
        for (int i = 0; i < 5; i++) {
            Kit.fine(x, what + ": lived " + i, x.lived(i), all[i]);
        }
    }

    private static void living() {
        DryDoors x = Kit.of(BASIN);
        Kit.refused(x, "69 none yet", x.lived(0), 6);
        Kit.nights(x, "open p;hour 2;shut p;bail a 4;bail a 7;shut p;open p;open p;");
        Kit.refused(x, "68 seed", x.live(-1), 1);
        Kit.refused(x, "68 seed", x.live(10000), 1);
        Kit.refused(x, "69 none yet", x.lived(0), 6);
        due("68 live", x.live(9999), 8);
        due("68 it stays", x.told(4) * 100 + x.told(3) * 10 + x.told(8), 621);
        lived(x, "68", 3, 2, 4, 0, 0);
        Kit.refused(x, "69 what", x.lived(5), 1);
        Kit.refused(x, "69 what", x.lived(-1), 1);
        Kit.land(x, BASIN);
        Kit.refused(x, "68 no nights", x.live(0), 6);
        lived(x, "69 whatever came", 3, 2, 4, 0, 0);
        DryDoors drown = held("room a floor 0 bears 3;room b floor 0 bears 1 water 2;door p from sea to a sill 5;", 0);
        Kit.nights(drown, "hour 1;hour 12;");
        drown.hour(1);
        drown.build(1);
        drown.live(0);
        lived(drown, "69 drowned in it", 0, 13, 0, 1, 0);
        DryDoors last = Kit.of(BASIN);
        for (int i = 0; i < 101; i++) {
            last.hour(99 - (i == 100 ? 3 : 0));
        }
        Kit.nights(last, "hour 5;hour 4;hour 3;hour 1;");
        due("68 at hour 9,996 of 9,999", last.told(3), 9996);
        due("68 live", last.live(0), 4);
        lived(last, "68 missed as a whole", 3, 3, 0, 0, 0);
        due("68 hour", last.told(3), 9999);
    }

    private static void livingByTests() {
        DryDoors x = Kit.of("room a floor 0 area 2 water 7;room b floor 0 area 2 water 1;door p from sea to a sill 20;"
                + "rota 1 p;");
        // depth of a 3, of b 0
        String[] tests = {"wet a", "wet b", "open p", "depth a<4", "depth a<3", "depth a>2", "depth a>3", "depth a=3",
            "depth a=2", "depth b=0", "depth b<0", "depth b<9999"};
        int[] so = {1, 0, 0, 1, 0, 1, 0, 1, 0, 1, 0, 1};
        for (int i = 0; i < tests.length; i++) {
            Kit.nights(x, "when " + tests[i] + ";bail b 1;bail b 1;end;");
            x.mark();
            due("68 when " + tests[i], x.live(0), so[i] == 1 ? 3 : 1);
            x.undo();
        }
        Kit.nights(x, "hour 1;when open p;any;end;any;");
        due("68 open by the rota", x.live(0), 4);
        Kit.nights(x, "loop 3;bail a 1;loop 2;bail a 1;end;end;any;");
        x.mark();
        // 1 + 3 times (1 + 1 + 2) + 1; 7 of a, then 2 are missed
        due("68 loops", x.live(0), 14);
        due("69 bailed", x.lived(2), 7);
        due("69 missed", x.lived(0), 2);
        x.undo();
        Kit.nights(x, "loop 9;bail a 1;stop;end;any;");
        due("68 stop", x.live(0), 3);
        lived(x, "68 stop", 0, 0, 1, 0, 0);
        Kit.nights(x, "when wet b;stop;end;loop 99;end;when open p;stop;any;end;any;");
        x.hold(0, x.told(8) == 0);
        due("68 when, loop without steps", x.live(0) > 0, true);
        Kit.nights(x, "");
        Kit.fine(x, "68 a text without steps", x.live(0), 0);
    }

    private static void mostSteps() {
        String head = "loop 99;any;any;any;end;";
        String[] tails = {"", "any;any;", "any;any;any;", "any;stop;any;", "any;any;stop;", "any;any;loop 1;end;",
            "any;loop 9;end;", "loop 9;any;end;"};
        int[] steps = {298, 300, 300, 300, 300, 300, 300, 300};
        int[] left = {0, 0, 1, 0, 1, 1, 0, 1};
        for (int i = 0; i < tails.length; i++) {
            DryDoors x = Kit.of(TWO);
            Kit.nights(x, head + tails[i]);
            due("68 most steps " + tails[i], x.live(7), steps[i]);
            due("69 left " + tails[i], x.lived(4), left[i]);
        }
        DryDoors far = Kit.of(TWO);
        Kit.nights(far, "loop 99;loop 99;loop 99;hour 12;end;end;end;");
        due("68 deep", far.live(0), 300);
        // five times a loop was come to from ahead
        lived(far, "68 deep", 0, 295 * 12, 0, 0, 1);
    }

    private static void draws() {
        DryDoors x = Kit.of(TWO);
        Kit.nights(x, "any;");
        x.mark();
        // 0 becomes 11,213: by 8 is 1,401, by 2 leaves 1
        due("68 draw", x.live(0), 1);
        due("68 the second", x.told(8), 2);
        due("68 and back", x.live(0) * 10 + x.told(8), 10);
        // 1 becomes 14,224: 1,778
        x.live(1);
        due("68 the first", x.told(8), 1);
        x.undo();
        Kit.nights(x, "any;any;");
        x.live(0);
        // 11,213 becomes 22,516: 2,814
        due("68 both", x.told(8), 3);
        DryDoors none = Kit.of("room a floor 0;");
        Kit.nights(none, "any;any;");
        due("68 no doors", none.live(0), 2);
        due("69 missed", none.lived(0), 2);
    }

    private static void mean() {
        DryDoors x = Kit.of(TWO);
        Kit.refused(x, "70 no nights", x.mean(0, 1), 6);
        Kit.nights(x, "any;hour 1;");
        due("70 mean", x.mean(0, 2), true);
        due("70 top", x.top(), 6);
        due("70 bottom", x.bottom(), 1);
        // seed 2 becomes 17,235: 2,154: the first
        due("70 mean", x.mean(0, 3), true);
        due("70 top", x.top(), 17);
        due("70 bottom", x.bottom(), 3);
        due("70 all stays", x.told(3) + x.told(4) + x.told(8), 0);
        Kit.refused(x, "69 not lived", x.lived(0), 6);
        Kit.refused(x, "70 seed", x.mean(-1, 1), 1);
        Kit.refused(x, "70 many", x.mean(0, 0), 1);
        Kit.refused(x, "70 many", x.mean(0, 21), 1);
        Kit.refused(x, "70 the last above", x.mean(9981, 20), 1);
        Kit.refused(x, "70 far out", x.mean(Integer.MAX_VALUE, 20), 1);
        due("70 the last", x.mean(9980, 20), true);
        due("70 the last", x.mean(9999, 1), true);
        DryDoors dry = Kit.of("room a floor 0;");
        Kit.nights(dry, "hour 1;");
        due("70 of nothing", dry.mean(5, 7), true);
        due("70 0 by 1", dry.top() * 10 + dry.bottom(), 1);
    }

    private static void marks() {
        DryDoors x = held(BASIN + "errand e by p from 1 to 2;", 0);
        Kit.nights(x, "hour 1;");
        due("71 mark", x.mark(), 1);
        x.hour(2);
        x.moon(0, 50);
        x.pump(0, 7);
        x.raise(0, 3);
        x.rota(4, 0, true);
        x.tray(0, 0, 1);
        due("71 mark", x.mark(), 2);
        Kit.land(x, "");
        due("71 mark", x.mark(), 3);
        Kit.refused(x, "71 a fourth", x.mark(), 4);
        due("13 no rooms", x.told(0), 0);
        due("72 undo", x.undo(), 2);
        due("13 no rooms still", x.told(0), 0);
        due("72 undo", x.undo(), 1);
        due("72 water", x.told(4), 10);
        due("72 tide", x.tide(0), 50);
        due("72 sill", x.door(0, 2), 8);
        due("72 rota", x.door(0, 5), 16);
        due("72 mark on the wall", x.room(0, 7), 10);
        due("72 nights", x.live(0), 1);
        due("72 nights lived", x.told(3), 3);
        Kit.fine(x, "72 undo", x.undo(), 0);
        int[] told = {1, 1, 1, 0, 0, 0, 0, 1, 1, 0};
        for (int what = 0; what < 10; what++) {
            due("72 told " + what, x.told(what), told[what]);
        }
        due("72 tide", x.tide(0), 10);
        due("72 pump", x.room(0, 3), 0);
        due("72 sill", x.door(0, 2), 5);
        due("72 errand", x.errand(0, 1), 1);
        Kit.fine(x, "72 trays stay", x.read(0, 0), 0);
        due("69 lived stays", x.lived(1), 1);
        due("72 names", Kit.nights(x, "open p;bail a 1;"), 2);
        Kit.refused(x, "72 none", x.undo(), 6);
    }

    public static void main(String[] args) {
        newObject();
        statusAndFraction();
        trays();
        pour();
        tape();
        landFaults();
        landTaken();
        landInPlace();
        nightsFaults();
        told();
        flows();
        depths();
        seaAndWays();
        hours();
        hourInDetail();
        roomHoldsNoMore();
        hands();
        wipeAndRota();
        raiseAndBuild();
        later();
        whenFirst();
        ifHeld();
        bestHour();
        pumps();
        walls();
        bailing();
        sieges();
        keeping();
        planning();
        saving();
        guilty();
        printing();
        living();
        livingByTests();
        mostSteps();
        draws();
        mean();
        marks();
        Kit.end("promises by hand");
    }
}
