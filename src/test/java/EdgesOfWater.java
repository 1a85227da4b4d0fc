/** The sentences that name a boundary case: section 2 (DEPTH to FLOW), what is told (promises 13 to 26). */
public final class EdgesOfWater {
    private static final int LEAST = Integer.MIN_VALUE;
    private static final int MOST = Integer.MAX_VALUE;
    private static final String BASIN = "room a floor 0;door p from sea to a sill 5;";

    // ---- DEPTH, SURFACE, OPEN

    private static void roundedDown() {
        Kit.sentence("2.: DEPTH of a ROOM: its WATER by its AREA, rounded down");
        DryDoors x = Kit.of("room a floor 0 area 3 water 2;room b floor 0 area 3 water 3;room c floor 0 area 3 water 5;"
                + "room d floor 0 area 20 water 999;room e floor 0 water 999;");
        int[] depth = {0, 1, 1, 49, 999};
        for (int r = 0; r < 5; r++) {
            Kit.fine(x, "DEPTH of " + r, x.room(r, 5), depth[r]);
        }
    }

    private static void surfaces() {
        Kit.sentence("2.: SURFACE: FLOOR and DEPTH");
        DryDoors x = Kit.of("room a floor 0 area 3 water 2;room b floor 7 area 3 water 6;room c floor 99 water 999;");
        int[] surface = {0, 9, 1098};
        for (int r = 0; r < 3; r++) {
            Kit.fine(x, "SURFACE of " + r, x.room(r, 6), surface[r]);
        }
    }

    private static void tideOfTheHour() {
        Kit.sentence("2.: of the SEA its TIDE in that HOUR of the day (what is left of the HOUR by 12)");
        DryDoors x = Kit.of("room a floor 0;door p from sea to a sill 5;tide 0 6;tide 11 9;tide 1 7;");
        int[] drive = {1, 2, 5, 5, 5, 5, 5, 5, 5, 5, 5, 4, 1, 2, 5};
        for (int h = 0; h < drive.length; h++) {
            Kit.fine(x, "DRIVE in HOUR " + h, x.drive(0), drive[h]);
            x.hour(1);
        }
        Kit.goTo(x, 12 * 700 + 11);
        Kit.fine(x, "DRIVE in HOUR 8,411", x.drive(0), 4);
        x.hour(1);
        Kit.fine(x, "DRIVE in HOUR 8,412", x.drive(0), 1);
    }

    private static void openDoors() {
        Kit.sentence("2.: a DOOR is OPEN if it is not WALLED, and held OPEN by hand, or OPENED by the ROTA in that HOUR "
                + "of the day");
        DryDoors x = Kit.of(BASIN + "rota 1 p;rota 11 p;");
        Kit.fine(x, "HOUR 0", x.told(7), 0);
        x.hour(1);
        Kit.fine(x, "HOUR 1: by the ROTA", x.told(7), 1);
        x.wall(0, true);
        Kit.fine(x, "WALLED, on the ROTA", x.told(7), 0);
        x.hold(0, true);
        Kit.fine(x, "WALLED, held and on the ROTA", x.told(7), 0);
        x.hour(1);
        Kit.fine(x, "WALLED and held", x.told(7), 0);
        x.wall(0, false);
        Kit.fine(x, "HOUR 2: held", x.told(7), 1);
        x.hold(0, false);
        Kit.fine(x, "HOUR 2", x.told(7), 0);
        Kit.goTo(x, 11);
        Kit.fine(x, "HOUR 11: by the ROTA", x.told(7), 1);
        x.hour(1);
        Kit.fine(x, "HOUR 12 is 0 of the day", x.told(7), 0);
        x.hour(1);
        Kit.fine(x, "HOUR 13 is 1 of the day", x.told(7), 1);
    }

    // ---- DRIVE

    private static void lesserOfBoth() {
        Kit.sentence("2.: DRIVE: .. above the SILL and above the lower SURFACE (the lesser of both");
        DryDoors x = Kit.of("room a floor 3;room b floor 8;door p from sea to a sill 4;door q from sea to a sill 3;"
                + "door r from sea to a sill 2;door s from sea to b sill 2;door t from b to a sill 7;"
                + "door u from a to b sill 0;");
        // SURFACES: sea 10, a 3, b 8
        int[] drive = {6, 7, 7, 2, 1, 5};
        for (int d = 0; d < 6; d++) {
            Kit.fine(x, "DRIVE of " + d, x.drive(d), drive[d]);
        }
    }

    private static void notBelowZero() {
        Kit.sentence("2.: DRIVE: (.. 0 if that is below 0)");
        DryDoors x = Kit.of("room a floor 0;room b floor 10;door p from sea to a sill 9;door q from sea to a sill 10;"
                + "door r from sea to a sill 11;door s from sea to a sill 99;door t from sea to b sill 0;"
                + "door u from a to b sill 10;");
        int[] drive = {1, 0, 0, 0, 0, 0};
        for (int d = 0; d < 6; d++) {
            Kit.fine(x, "DRIVE of " + d, x.drive(d), drive[d]);
            Kit.fine(x, "FLOW of it, if it were OPEN, " + d, x.flowOpen(d), drive[d]);
        }
    }

    // ---- FLOW

    private static void flowIfOpen() {
        Kit.sentence("2.: FLOW: DRIVE times WIDE if it is OPEN");
        DryDoors x = Kit.held("room a floor 0 water 4;door p from sea to a sill 5;door q from sea to a sill 5 wide 9 leaks 9;"
                + "door r from sea to a sill 10 wide 9 leaks 9;", 0, 1, 2);
        Kit.fine(x, "WIDE 1", x.flow(0), 5);
        Kit.fine(x, "WIDE 9", x.flow(1), 45);
        Kit.fine(x, "DRIVE 0", x.flow(2), 0);
    }

    private static void flowIfShut() {
        Kit.sentence("2.: FLOW: .. else the lesser of that and what it LEAKS");
        DryDoors x = Kit.of("room a floor 0;door p from sea to a sill 8 wide 2 leaks 3;door q from sea to a sill 8 wide 2 "
                + "leaks 4;door r from sea to a sill 8 wide 2 leaks 5;door s from sea to a sill 8 wide 2;"
                + "door t from sea to a sill 10 leaks 9;");
        int[] flow = {3, 4, 4, 0, 0};
        for (int d = 0; d < 5; d++) {
            Kit.fine(x, "FLOW of " + d, x.flow(d), flow[d]);
        }
    }

    private static void higherToLower() {
        Kit.sentence("2.: FLOW: from the higher to the lower; Promise 19: above 0 from its first END to its second, below 0 "
                + "the other way");
        DryDoors x = Kit.held("room a floor 12;room b floor 3;door p from a to b sill 0;door q from b to a sill 0;"
                + "door r from sea to a sill 0;door s from a to sea sill 0;door t from sea to b sill 0;"
                + "door u from b to sea sill 0;", 0, 1, 2, 3, 4, 5);
        int[] flow = {9, -9, -2, 2, 7, -7};
        for (int d = 0; d < 6; d++) {
            Kit.fine(x, "FLOW of " + d, x.flow(d), flow[d]);
            Kit.fine(x, "flowOpen of " + d, x.flowOpen(d), flow[d]);
        }
    }

    private static void walledFlow() {
        Kit.sentence("2.: WALL: a DOOR is WALLED up (FLOW 0); Promise 19: (WALLED: 0)");
        DryDoors x = Kit.held("room a floor 0;door p from sea to a sill 5 leaks 2;", 0);
        x.wall(0, true);
        Kit.fine(x, "held", x.flow(0), 0);
        x.hold(0, false);
        Kit.fine(x, "it doesn't leak either", x.flow(0), 0);
        x.rota(0, 0, true);
        Kit.fine(x, "on the ROTA", x.flow(0), 0);
        x.hour(1);
        Kit.fine(x, "nothing came", x.told(4), 0);
        x.rota(0, 0, false);
        x.wall(0, false);
        Kit.fine(x, "a DOOR again leaks", x.flow(0), 2);
    }

    private static void flowMinusOne() {
        Kit.sentence("Promise 19: STATUS tells NONE from -1");
        DryDoors x = Kit.of("room a floor 0;door p from a to sea sill 9 leaks 5;");
        Kit.fine(x, "FLOW -1", x.flow(0), -1);
        Kit.refused(x, "no such DOOR", x.flow(1), 1);
        Kit.fine(x, "FLOW -1, if it were OPEN", x.flowOpen(0), -1);
        Kit.refused(x, "no such DOOR", x.flowOpen(1), 1);
    }

    private static void flowIfItWereOpen() {
        Kit.sentence("Promise 20: FLOW as that, if it were OPEN (WALLED or not)");
        DryDoors x = Kit.of("room a floor 0;door p from sea to a sill 5 wide 3 leaks 2;");
        Kit.fine(x, "shut", x.flowOpen(0), 15);
        x.hold(0, true);
        Kit.fine(x, "OPEN", x.flowOpen(0), 15);
        x.wall(0, true);
        Kit.fine(x, "WALLED", x.flowOpen(0), 15);
        Kit.fine(x, "its FLOW", x.flow(0), 0);
    }

    // ---- promises 13 to 17

    private static void whatIsTold() {
        Kit.sentence("Promise 13: what 0 to 9 (1)");
        DryDoors x = Kit.of("room a floor 0 area 2 water 5;room b floor 0 water 1;room c floor 0 area 2 water 1;"
                + "room d floor 0 bears 1 water 7;door p from sea to a sill 99;door q from sea to b sill 99;"
                + "door r from a to b sill 99;rota 1 r;errand e by p from 0 to 0;errand f by p from 0 to 0;"
                + "errand g by p from 0 to 0;errand h by p from 0 to 0;");
        x.hold(0, true);
        x.hold(1, true);
        x.wall(1, true);
        x.hour(1);
        Kit.told(x, 4, 3, 4, 1, 14, 1 | 2 | 8, 8, 1 | 4, 1 | 2, 2);
        Kit.refused(x, "what -1", x.told(-1), 1);
        Kit.refused(x, "what 10", x.told(10), 1);
        Kit.refused(x, "what least", x.told(LEAST), 1);
        Kit.refused(x, "what most", x.told(MOST), 1);
    }

    private static void wetOnes() {
        Kit.sentence("3.: WET: its DEPTH is above 0");
        DryDoors x = Kit.of("room a floor 0 area 4 water 3;room b floor 0 area 4 water 4;");
        Kit.fine(x, "told(5)", x.told(5), 2);
        x.bail(1, 1);
        Kit.fine(x, "told(5) with 3 of 4", x.told(5), 0);
    }

    private static void roomsAndWhat() {
        Kit.sentence("Promise 14: what 0 to 7 (1)");
        DryDoors x = Kit.of(Kit.parts(6, "room # floor 0;") + "room z floor 7 area 3 bears 4 water 11;pump z 2;");
        x.hour(1);
        int[] want = {7, 3, 4, 2, 9, 3, 10, 3};
        for (int what = 0; what < 8; what++) {
            Kit.fine(x, "what " + what, x.room(6, what), want[what]);
        }
        Kit.refused(x, "what -1", x.room(6, -1), 1);
        Kit.refused(x, "what 8", x.room(6, 8), 1);
        Kit.refused(x, "what least", x.room(0, LEAST), 1);
        Kit.refused(x, "what most", x.room(0, MOST), 1);
        Kit.refused(x, "ROOM -1", x.room(-1, 0), 1);
        Kit.refused(x, "ROOM 7", x.room(7, 0), 1);
        Kit.refused(x, "ROOM least", x.room(LEAST, 0), 1);
        Kit.refused(x, "ROOM most", x.room(MOST, 0), 1);
        DryDoors two = Kit.of("room a floor 0;room b floor 5;");
        Kit.fine(two, "ROOM 1 of 2", two.room(1, 0), 5);
        Kit.refused(two, "ROOM 2 of 2", two.room(2, 0), 1);
        two.mark();
        Kit.land(two, "room c floor 0;");
        Kit.refused(two, "ROOM 1 of 1, where there were 2", two.room(1, 0), 1);
    }

    private static void doorsAndWhat() {
        Kit.sentence("Promise 15: what 0 to 5 (1); NONE with STATUS 0: the SEA");
        DryDoors x = Kit.of("room a floor 0;room b floor 0;" + Kit.parts(9, "door # from a to b sill 0;", 'c')
                + "door z from b to sea sill 8 wide 7 leaks 6;rota 0 z;rota 2 z;");
        int[] want = {1, -1, 8, 7, 6, 5};
        for (int what = 0; what < 6; what++) {
            Kit.fine(x, "what " + what, x.door(9, what), want[what]);
        }
        Kit.refused(x, "what -1", x.door(9, -1), 1);
        Kit.refused(x, "what 6", x.door(9, 6), 1);
        Kit.refused(x, "what least", x.door(0, LEAST), 1);
        Kit.refused(x, "what most", x.door(0, MOST), 1);
        Kit.refused(x, "DOOR -1", x.door(-1, 1), 1);
        Kit.refused(x, "DOOR 10", x.door(10, 1), 1);
        Kit.refused(x, "DOOR least", x.door(LEAST, 0), 1);
        Kit.refused(x, "DOOR most", x.door(MOST, 0), 1);
        DryDoors one = Kit.of("room a floor 0;door p from sea to a sill 4;");
        Kit.fine(one, "the SEA first", one.door(0, 0), -1);
        Kit.fine(one, "SILL of DOOR 0 of 1", one.door(0, 2), 4);
        Kit.refused(one, "DOOR 1 of 1", one.door(1, 0), 1);
    }

    private static void hoursOnTheRota() {
        Kit.sentence("Promise 15: the HOURS of the day in which it is on the ROTA (a set, 1 for HOUR 0 ..)");
        DryDoors x = Kit.of(BASIN + "door q from a to sea sill 5;rota 0 p;rota 11 p;rota 5 q;");
        Kit.fine(x, "p", x.door(0, 5), 1 + 2048);
        Kit.fine(x, "q", x.door(1, 5), 32);
        for (int h = 0; h < 12; h++) {
            x.rota(h, 0, true);
        }
        Kit.fine(x, "all HOURS", x.door(0, 5), 4095);
        Kit.fine(x, "q as it was", x.door(1, 5), 32);
    }

    private static void errandsAndWhat() {
        Kit.sentence("Promise 16: what 0 to 2 (1)");
        DryDoors x = Kit.of(BASIN + "door q from a to sea sill 5;errand e by q from 3 to 7;errand f by p from 0 to 11;");
        int[] want = {1, 3, 7, 0, 0, 11};
        for (int i = 0; i < 6; i++) {
            Kit.fine(x, "ERRAND " + i / 3 + ", what " + i % 3, x.errand(i / 3, i % 3), want[i]);
        }
        Kit.refused(x, "what -1", x.errand(0, -1), 1);
        Kit.refused(x, "what 3", x.errand(0, 3), 1);
        Kit.refused(x, "what least", x.errand(0, LEAST), 1);
        Kit.refused(x, "what most", x.errand(0, MOST), 1);
        Kit.refused(x, "ERRAND -1", x.errand(-1, 0), 1);
        Kit.refused(x, "ERRAND 2", x.errand(2, 0), 1);
        Kit.refused(x, "ERRAND least", x.errand(LEAST, 0), 1);
        Kit.refused(x, "ERRAND most", x.errand(MOST, 0), 1);
    }

    private static void hoursOfTheDay() {
        Kit.sentence("Promise 17: TIDE in an HOUR of the day (1)");
        DryDoors x = Kit.of("tide 0 3;tide 11 4;");
        Kit.fine(x, "HOUR 0", x.tide(0), 3);
        Kit.fine(x, "HOUR 11", x.tide(11), 4);
        Kit.refused(x, "HOUR -1", x.tide(-1), 1);
        Kit.refused(x, "HOUR 12", x.tide(12), 1);
        Kit.refused(x, "HOUR least", x.tide(LEAST), 1);
        Kit.refused(x, "HOUR most", x.tide(MOST), 1);
    }

    // ---- promises 18 to 26

    private static void noSuchDoor() {
        Kit.sentence("Promises 18, 19, 20, 25: (1)");
        DryDoors x = Kit.of("room a floor 0;" + Kit.parts(10, "door # from sea to a sill 9;", 'b'));
        int[] doors = {-1, 10, LEAST, MOST};
        for (int d : doors) {
            Kit.refused(x, "drive " + d, x.drive(d), 1);
            Kit.refused(x, "flow " + d, x.flow(d), 1);
            Kit.refused(x, "flowOpen " + d, x.flowOpen(d), 1);
            Kit.refused(x, "high " + d, x.high(d), 1);
        }
        Kit.fine(x, "drive 9", x.drive(9), 1);
        Kit.fine(x, "flow 9", x.flow(9), 0);
        Kit.fine(x, "flowOpen 9", x.flowOpen(9), 1);
        Kit.fine(x, "high 9", x.high(9), 4095);
    }

    private static void noSuchRoom() {
        Kit.sentence("Promises 23, 26: (1)");
        DryDoors x = Kit.of(Kit.parts(7, "room # floor 0 bears 3;"));
        int[] rooms = {-1, 7, LEAST, MOST};
        for (int r : rooms) {
            Kit.refused(x, "spare " + r, x.spare(r), 1);
            Kit.refused(x, "linked " + r, x.linked(r), 1);
        }
        Kit.fine(x, "spare 6", x.spare(6), 3);
        Kit.fine(x, "linked 6", x.linked(6), 64);
    }

    private static void deepestOfSeveral() {
        Kit.sentence("Promise 21: the greatest DEPTH, of several the first");
        DryDoors x = Kit.of("room a floor 90 water 2;room b floor 0 area 2 water 7;room c floor 0 water 3;"
                + "room d floor 0 area 20 water 70;");
        Kit.fine(x, "3, by DEPTH, not by WATER or SURFACE", x.deepest(), 1);
        x.bail(1, 2);
        Kit.fine(x, "the next of them", x.deepest(), 2);
        x.bail(2, 1);
        Kit.fine(x, "the last one", x.deepest(), 3);
        DryDoors first = Kit.of("room a floor 0 water 3;room b floor 0 water 3;room c floor 0 water 2;");
        Kit.fine(first, "the first of all", first.deepest(), 0);
    }

    private static void noneIsWet() {
        Kit.sentence("Promise 21: (6: none is WET)");
        DryDoors x = Kit.of("room a floor 9 area 5 water 4;room b floor 0;");
        Kit.refused(x, "WATER, but no DEPTH", x.deepest(), 6);
        DryDoors one = Kit.of("room a floor 9 area 5 water 4;room b floor 0 area 4 water 4;");
        Kit.fine(one, "DEPTH 1", one.deepest(), 1);
        DryDoors none = new DryDoors();
        Kit.refused(none, "no ROOMS", none.deepest(), 6);
    }

    private static void busiestOfSeveral() {
        Kit.sentence("Promise 22: the greatest FLOW either way in this HOUR, of several the first");
        String land = "room a floor 14;room b floor 6;door p from sea to b sill 0 leaks 3;door q from sea to a sill 0;"
                + "door r from sea to b sill 0;";
        DryDoors x = Kit.held(land, 1, 2);
        // p leaks 3, q: 4 the other way, r: 4
        Kit.fine(x, "-4 ahead of 4", x.busiest(), 1);
        x.hold(1, false);
        Kit.fine(x, "4", x.busiest(), 2);
        x.hold(0, true);
        Kit.fine(x, "4 ahead of 4", x.busiest(), 0);
        x.wall(0, true);
        Kit.fine(x, "WALLED", x.busiest(), 2);
        x.hold(2, false);
        x.wall(0, false);
        x.hold(0, false);
        Kit.fine(x, "what leaks flows, too", x.busiest(), 0);
    }

    private static void nothingFlows() {
        Kit.sentence("Promise 22: (6: nothing flows)");
        DryDoors x = Kit.held("room a floor 0;door p from sea to a sill 10;", 0);
        Kit.refused(x, "DRIVE 0", x.busiest(), 6);
        x.raise(0, -1);
        Kit.fine(x, "DRIVE 1", x.busiest(), 0);
        x.hold(0, false);
        Kit.refused(x, "shut", x.busiest(), 6);
        DryDoors none = new DryDoors();
        Kit.refused(none, "no DOORS", none.busiest(), 6);
    }

    private static void spares() {
        Kit.sentence("Promise 23: how much more may be at the most, so that its DEPTH is not above what it BEARS (0 at least)");
        int[] water = {0, 10, 11, 12, 999};
        int[] spare = {11, 1, 0, 0, 0};
        for (int i = 0; i < water.length; i++) {
            DryDoors x = Kit.of("room a floor 0 area 3 bears 3 water " + water[i] + ";");
            Kit.fine(x, "spare of 3 times 3 and 2, with " + water[i], x.spare(0), spare[i]);
            Kit.fine(x, "DROWNED with " + water[i], x.hour(1), water[i] > 11 ? 1 : 0);
        }
        DryDoors most = Kit.of("room a floor 0 area 20 bears 99;");
        Kit.fine(most, "the most", most.spare(0), 20 * 99 + 19);
        DryDoors least = Kit.of("room a floor 0 bears 1;");
        Kit.fine(least, "the least", least.spare(0), 1);
    }

    private static void lowest() {
        Kit.sentence("Promise 24: the HOUR of the day with the lowest TIDE, of several the first");
        DryDoors x = new DryDoors();
        Kit.fine(x, "all alike", x.low(), 0);
        DryDoors y = new DryDoors();
        y.moon(1, 9);
        Kit.fine(y, "the second", y.low(), 1);
        x.moon(11, 9);
        Kit.fine(x, "the last", x.low(), 11);
        x.moon(4, 9);
        Kit.fine(x, "of two the first", x.low(), 4);
        x.moon(5, 8);
        Kit.fine(x, "lower", x.low(), 5);
        x.hour(6);
        Kit.fine(x, "by number, whatever HOUR it is", x.low(), 5);
    }

    private static void aboveTheSill() {
        Kit.sentence("Promise 25: the set of HOURS of the day in which the SEA is above the SILL of a DOOR");
        DryDoors x = Kit.of("room a floor 0;room b floor 0;door p from sea to a sill 7;door q from a to b sill 99;"
                + "door r from a to b sill 0;");
        Kit.allTides(x, 0);
        x.moon(0, 8);
        x.moon(3, 7);
        x.moon(5, 6);
        x.moon(11, 99);
        Kit.fine(x, "8 and 99 are, 7 is not", x.high(0), 1 | 1 << 11);
        Kit.fine(x, "99 is not above 99", x.high(1), 0);
        Kit.fine(x, "of a DOOR between ROOMS; 0 is not above 0", x.high(2), 1 | 8 | 32 | 1 << 11);
        x.wall(2, true);
        Kit.fine(x, "WALLED", x.high(2), 1 | 8 | 32 | 1 << 11);
    }

    private static void linkedOnes() {
        Kit.sentence("Promise 26: DOORS (not WALLED) lead from a ROOM, one after the other (itself, too; not over the SEA)");
        // a row of all seven whose DOORS stand against its direction
        DryDoors x = Kit.of(Kit.parts(7, "room # floor 0;") + "door m from g to f sill 99;door n from f to e sill 99;"
                + "door o from e to d sill 99;door p from c to d sill 99;door q from c to b sill 99;"
                + "door r from b to a sill 99;");
        for (int r = 0; r < 7; r++) {
            Kit.fine(x, "all of them from " + r, x.linked(r), 127);
        }
        x.wall(3, true);
        Kit.fine(x, "from the first three", x.linked(0), 7);
        Kit.fine(x, "from the last four", x.linked(6), 120);
        DryDoors sea = Kit.of("room a floor 0;room b floor 0;door p from a to sea sill 0;door q from sea to b sill 0;");
        Kit.fine(sea, "not over the SEA", sea.linked(0), 1);
        Kit.fine(sea, "not over the SEA", sea.linked(1), 2);
    }

    public static void main(String[] args) {
        roundedDown();
        surfaces();
        tideOfTheHour();
        openDoors();
        lesserOfBoth();
        notBelowZero();
        flowIfOpen();
        flowIfShut();
        higherToLower();
        walledFlow();
        flowMinusOne();
        flowIfItWereOpen();
        whatIsTold();
        wetOnes();
        roomsAndWhat();
        doorsAndWhat();
        hoursOnTheRota();
        errandsAndWhat();
        hoursOfTheDay();
        noSuchDoor();
        noSuchRoom();
        deepestOfSeveral();
        noneIsWet();
        busiestOfSeveral();
        nothingFlows();
        spares();
        lowest();
        aboveTheSill();
        linkedOnes();
        Kit.end("edges of water");
    }
}
