/** The sentences that name a boundary case: an HOUR goes by (section 2), what is done (promises 27 to 36). */
public final class EdgesOfDeeds {
    private static final int LEAST = Integer.MIN_VALUE;
    private static final int MOST = Integer.MAX_VALUE;
    private static final String BASIN = "room a floor 0;door p from sea to a sill 5;";

    private static void dueWater(DryDoors x, String what, int... water) {
        for (int r = 0; r < water.length; r++) {
            Kit.due(what + ": WATER in " + r, x.room(r, 4), water[r]);
        }
    }

    // ---- an HOUR goes by

    private static void flowsByWhatIsThereThen() {
        Kit.sentence("2., an HOUR goes by: 1. all FLOWS are found by what is there then");
        // q gives 2 by the SURFACES 10 and 8, whatever comes into b by p
        DryDoors x = Kit.held("room a floor 20 water 9;room b floor 10;room c floor 8;door p from a to b sill 0;"
                + "door q from b to c sill 0;", 0, 1);
        x.hour(1);
        dueWater(x, "by the SURFACES at first", 0, 7, 2);
        DryDoors late = Kit.held("room a floor 0;door p from sea to a sill 0;door q from sea to a sill 0;", 0, 1);
        late.hour(1);
        dueWater(late, "both as if the other had not been", 20);
    }

    private static void doorByDoor() {
        Kit.sentence("2., an HOUR goes by: 1. DOOR by DOOR, by numbers, as much goes through");
        String rooms = "room a floor 5;room b floor 0;";
        DryDoors x = Kit.held(rooms + "door p from sea to a sill 0;door q from a to b sill 0;", 0, 1);
        x.hour(1);
        dueWater(x, "what has come by DOOR 0 goes on by DOOR 1", 0, 5);
        DryDoors y = Kit.held(rooms + "door q from a to b sill 0;door p from sea to a sill 0;", 0, 1);
        y.hour(1);
        dueWater(y, "DOOR 0 has nothing to give yet", 5, 0);
    }

    private static void noMoreThanThereIs() {
        Kit.sentence("2., an HOUR goes by: 1. but no more than is still in the ROOM that it comes from");
        String more = "room b floor 0;room c floor 0;door p from a to b sill 0;door q from a to c sill 0;";
        // AREA 20: DEPTH 1 and FLOWS 21 by 39; DEPTH 2 and FLOWS 22 by 42 and 44
        int[] water = {39, 42, 44};
        int[] first = {21, 22, 22};
        int[] second = {18, 20, 22};
        for (int i = 0; i < 3; i++) {
            DryDoors x = Kit.held("room a floor 20 area 20 water " + water[i] + ";" + more, 0, 1);
            Kit.fine(x, "FLOW", x.flow(1), first[i]);
            x.hour(1);
            dueWater(x, "the second gets the rest of " + water[i], 0, first[i], second[i]);
        }
        DryDoors y = Kit.held("room a floor 20 water 1;room b floor 0;room c floor 0;door p from b to a sill 0;"
                + "door q from a to c sill 0;", 0, 1);
        y.hour(1);
        dueWater(y, "the first takes it all, against its direction", 0, 1, 0);
    }

    private static void seaHasEnough() {
        Kit.sentence("2., an HOUR goes by: 1. (the SEA has enough");
        DryDoors x = Kit.held("room a floor 0;room b floor 0;tide 0 99;door p from sea to a sill 0 wide 9;"
                + "door q from b to sea sill 0 wide 9;", 0, 1);
        x.hour(1);
        dueWater(x, "99 times 9 by each", 891, 891);
    }

    /** ROOM 0 is filled by 891 in even HOURS, all of which goes to ROOM 1 in odd ones: 999 and 891 each time. */
    private static DryDoors filling() {
        DryDoors x = Kit.of("room a floor 0;room g floor 0 area 20 bears 99 water 999;room h floor 0;"
                + "door p from a to g sill 0 wide 9;door q from sea to a sill 0 wide 9;door r from g to h sill 0;");
        Kit.allTides(x, 99);
        for (int h = 0; h < 12; h += 2) {
            x.rota(h, 1, true);
            x.rota(h + 1, 0, true);
        }
        x.hour(20);
        dueWater(x, "ten times", 0, 9909, 0);
        return x;
    }

    private static void mostInARoom() {
        Kit.sentence("2., an HOUR goes by: 1. a ROOM holds 9,999 at most: what would be more is lost)");
        int[] bailed = {802, 801, 800, 1};
        int[] water = {9998, 9999, 9999, 9999};
        for (int i = 0; i < bailed.length; i++) {
            DryDoors x = filling();
            Kit.fine(x, "bail", x.bail(1, bailed[i]), 9909 - bailed[i]);
            x.hour(1);
            Kit.due("through", x.through(0, 1), 891);
            x.hour(1);
            dueWater(x, "891 more than 9909 less " + bailed[i], 0, water[i], 0);
            Kit.due("all WATER", x.told(4), water[i]);
        }
        DryDoors x = filling();
        Kit.due("nothing is lost yet", x.allLater(1), 9909 + 891);
        Kit.due("801 are lost", x.allLater(2), 9999);
        Kit.due("and 891 each time", x.later(1, 4), 9999);
    }

    private static void lostAtOnce() {
        Kit.sentence("2., an HOUR goes by: 1. DOOR by DOOR: what would be more is lost when it comes");
        DryDoors x = filling();
        x.hour(1);
        x.rota(9, 2, true);
        // HOUR 21 is 9 of the day: g, 495 deep, gives 495 to h behind what came
        x.hour(1);
        dueWater(x, "9,999 less 495", 0, 9999 - 495, 495);
    }

    private static void pumpsTakeWhatThereIs() {
        Kit.sentence("2., an HOUR goes by: 2. each PUMP takes its amount to the SEA, or what there is");
        DryDoors x = Kit.of("room a floor 0 water 2;room b floor 0 water 3;room c floor 0 water 4;room d floor 0;"
                + "room e floor 0 water 999;pump a 3;pump b 3;pump c 3;pump d 3;pump e 99;");
        x.hour(1);
        dueWater(x, "3 each, or what there is, or 99", 0, 0, 1, 0, 900);
        DryDoors y = Kit.held("room a floor 0;door p from sea to a sill 5;pump a 4;", 0);
        y.hour(1);
        dueWater(y, "behind the FLOWS", 1);
    }

    private static void aboveWhatItBears() {
        Kit.sentence("2., an HOUR goes by: 3. a ROOM whose DEPTH is above what it BEARS is DROWNED");
        DryDoors x = Kit.of("room a floor 0 bears 3 water 3;room b floor 0 bears 3 water 4;"
                + "room c floor 0 area 2 bears 3 water 7;room d floor 0 area 2 bears 3 water 8;"
                + "room e floor 0 bears 1 water 5;pump e 4;room f floor 0 bears 1 water 5;pump f 3;");
        Kit.fine(x, "hour", x.hour(1), 2 | 8 | 32);
        Kit.fine(x, "DROWNED", x.told(6), 2 | 8 | 32);
    }

    private static void drownedForGood() {
        Kit.sentence("2., an HOUR goes by: 3. .. is DROWNED (for good)");
        DryDoors x = Kit.of("room a floor 0 bears 1 water 2;");
        x.hour(1);
        x.bail(0, 2);
        x.hour(99);
        Kit.fine(x, "without WATER, 99 HOURS later", x.told(6), 1);
        Kit.fine(x, "no less DROWNED", x.drownsIn(0), 0);
    }

    private static void greatestAtTheEnd() {
        Kit.sentence("2., an HOUR goes by: 4. the MARK on the WALL of each ROOM is the greatest DEPTH there was at the end of "
                + "an HOUR (0 at first");
        DryDoors x = Kit.of("room a floor 0 area 2 water 13;pump a 3;");
        Kit.fine(x, "0 at first", x.room(0, 7), 0);
        x.hour(1);
        Kit.fine(x, "10 by 2, behind the PUMP", x.room(0, 7), 5);
        x.hour(1);
        Kit.fine(x, "7 by 2 are less", x.room(0, 7), 5);
        x.pump(0, 0);
        Kit.land(x, "room a floor 0;door p from sea to a sill 5;");
        x.hold(0, true);
        x.hour(1);
        Kit.fine(x, "5", x.room(0, 7), 5);
        x.hour(1);
        Kit.fine(x, "10 are more", x.room(0, 7), 10);
        x.bail(0, 5);
        Kit.fine(x, "it stays where WATER is bailed", x.room(0, 7), 10);
    }

    private static void wipedIsZero() {
        Kit.sentence("2., an HOUR goes by: 4. (.. WIPED: 0)");
        DryDoors x = Kit.of("room a floor 0 water 4;");
        x.hour(1);
        Kit.fine(x, "wipe", x.wipe(), 1);
        Kit.fine(x, "MARK", x.room(0, 7), 0);
        x.bail(0, 1);
        x.hour(1);
        Kit.fine(x, "at the end of the next HOUR", x.room(0, 7), 3);
    }

    // ---- promise 27

    private static void oneToNinetyNine() {
        Kit.sentence("Promise 27: so many HOURS (1 to 99) (1)");
        DryDoors x = Kit.held(BASIN, 0);
        int[] wrong = {0, -1, 100, LEAST, MOST};
        for (int many : wrong) {
            Kit.refused(x, "hour " + many, x.hour(many), 1);
        }
        Kit.fine(x, "none went by", x.told(3), 0);
        Kit.fine(x, "1", x.hour(1), 0);
        Kit.fine(x, "HOUR", x.told(3), 1);
        dueWater(x, "by one", 5);
        Kit.fine(x, "99", x.hour(99), 0);
        Kit.fine(x, "HOUR", x.told(3), 100);
    }

    private static void toTheLastHour() {
        Kit.sentence("Promise 27: (4: above 9,999); 2.: an HOUR goes by (to 9,999)");
        DryDoors x = Kit.of("room a floor 0;");
        Kit.goTo(x, 9900);
        Kit.refused(x, "100 is no such number", x.hour(100), 1);
        Kit.fine(x, "99 to 9,999", x.hour(99), 0);
        Kit.fine(x, "HOUR", x.told(3), 9999);
        Kit.refused(x, "one more", x.hour(1), 4);
        Kit.refused(x, "99 more", x.hour(99), 4);
        Kit.fine(x, "HOUR still", x.told(3), 9999);
        DryDoors y = Kit.of("room a floor 0 water 5;pump a 1;");
        Kit.goTo(y, 9901);
        y.pump(0, 0);
        Kit.refused(y, "99 to 10,000", y.hour(99), 4);
        Kit.fine(y, "HOUR still", y.told(3), 9901);
        Kit.fine(y, "98 to 9,999", y.hour(98), 0);
    }

    private static void statusOneFirst() {
        Kit.sentence("Promise 27: (1 ahead of 4)");
        DryDoors x = Kit.of("room a floor 0;");
        Kit.goTo(x, 9999);
        Kit.refused(x, "100", x.hour(100), 1);
        Kit.refused(x, "most", x.hour(MOST), 1);
        Kit.refused(x, "0", x.hour(0), 1);
        Kit.refused(x, "1", x.hour(1), 4);
    }

    private static void drownedInThem() {
        Kit.sentence("Promise 27: the set of ROOMS that were DROWNED in them");
        DryDoors x = Kit.of("room a floor 0 bears 1 water 9;room b floor 0 bears 5;room c floor 0;"
                + "door p from sea to b sill 0 leaks 1;pump a 2;");
        Kit.fine(x, "a, though it is dry at their end; b not in 5", x.hour(5), 1);
        Kit.fine(x, "b in the sixth, a no more", x.hour(1), 2);
        Kit.fine(x, "none", x.hour(99), 0);
        x.build(1);
        Kit.fine(x, "b once more", x.hour(1), 2);
    }

    // ---- promises 28, 29

    private static void held() {
        Kit.sentence("Promise 28: HOLD a DOOR OPEN by hand, or no more (1; 7: it is so)");
        DryDoors x = Kit.of(BASIN + "door q from a to sea sill 0;rota 0 q;");
        Kit.refused(x, "it is not", x.hold(0, false), 7);
        Kit.refused(x, "the ROTA is no hand", x.hold(1, false), 7);
        Kit.fine(x, "held", x.hold(0, true));
        Kit.refused(x, "it is", x.hold(0, true), 7);
        Kit.fine(x, "held, those", x.told(8), 1);
        Kit.fine(x, "the other, though it is OPEN by the ROTA", x.hold(1, true));
        Kit.fine(x, "no more", x.hold(0, false));
        Kit.fine(x, "held, those", x.told(8), 2);
        int[] wrong = {-1, 2, 10, LEAST, MOST};
        for (int d : wrong) {
            Kit.refused(x, "hold " + d, x.hold(d, true), 1);
            Kit.refused(x, "hold no more " + d, x.hold(d, false), 1);
        }
        Kit.fine(x, "held, those", x.told(8), 2);
    }

    private static void heldByTheHour() {
        Kit.sentence("Promise 28: a DOOR is held until it is no more");
        DryDoors x = Kit.held(BASIN, 0);
        x.hour(99);
        x.hour(99);
        Kit.refused(x, "it is so", x.hold(0, true), 7);
        x.wall(0, true);
        Kit.refused(x, "WALLED, it is so", x.hold(0, true), 7);
        Kit.fine(x, "WALLED, no more", x.hold(0, false));
        Kit.fine(x, "WALLED, held", x.hold(0, true));
    }

    private static void walled() {
        Kit.sentence("Promise 29: WALL a DOOR up, or make it a DOOR again (1; 7: it is so)");
        DryDoors x = Kit.of(BASIN + "door q from a to sea sill 0;");
        Kit.refused(x, "it is not", x.wall(1, false), 7);
        Kit.fine(x, "WALLED", x.wall(1, true));
        Kit.refused(x, "it is", x.wall(1, true), 7);
        Kit.fine(x, "WALLED, those", x.told(9), 2);
        Kit.fine(x, "again", x.wall(1, false));
        Kit.fine(x, "WALLED, none", x.told(9), 0);
        int[] wrong = {-1, 2, 10, LEAST, MOST};
        for (int d : wrong) {
            Kit.refused(x, "wall " + d, x.wall(d, true), 1);
            Kit.refused(x, "no wall " + d, x.wall(d, false), 1);
        }
        Kit.fine(x, "WALLED, none", x.told(9), 0);
    }

    // ---- promises 30, 31

    private static void bailed() {
        Kit.sentence("Promise 30: (1: n 1 to 999, too; 7: there is less)");
        DryDoors x = Kit.of("room a floor 0 water 999;room b floor 0 water 4;");
        int[] wrong = {0, -1, 1000, LEAST, MOST};
        for (int n : wrong) {
            Kit.refused(x, "bail " + n, x.bail(0, n), 1);
        }
        int[] rooms = {-1, 2, 7, LEAST, MOST};
        for (int r : rooms) {
            Kit.refused(x, "bail out of " + r, x.bail(r, 1), 1);
        }
        Kit.fine(x, "999 of 999", x.bail(0, 999), 0);
        Kit.refused(x, "1 of 0", x.bail(0, 1), 7);
        Kit.refused(x, "5 of 4", x.bail(1, 5), 7);
        Kit.refused(x, "999 of 4", x.bail(1, 999), 7);
        Kit.fine(x, "1 of 4", x.bail(1, 1), 3);
        Kit.fine(x, "3 of 3", x.bail(1, 3), 0);
    }

    private static void bailStatuses() {
        Kit.sentence("Promise 30: (1 ahead of 7)");
        DryDoors x = Kit.of("room a floor 0 water 4;");
        Kit.refused(x, "1000 of 4", x.bail(0, 1000), 1);
        Kit.refused(x, "5 of no ROOM", x.bail(1, 5), 1);
        Kit.refused(x, "5 of 4", x.bail(0, 5), 7);
    }

    private static void bailedIsNotAnHour() {
        Kit.sentence("Promise 30: BAIL: how much is in the ROOM still (the rest is as it was)");
        DryDoors x = Kit.of("room a floor 0 bears 1 water 9;room b floor 0 water 5;");
        x.hour(1);
        Kit.fine(x, "bail", x.bail(0, 9), 0);
        Kit.fine(x, "HOUR", x.told(3), 1);
        Kit.fine(x, "MARK", x.room(0, 7), 9);
        Kit.fine(x, "DROWNED", x.told(6), 1);
        Kit.fine(x, "the other ROOM", x.room(1, 4), 5);
    }

    private static void howManyAboveZero() {
        Kit.sentence("Promise 31: all MARKS on WALLS are WIPED: how many were above 0");
        DryDoors none = new DryDoors();
        Kit.fine(none, "no ROOMS", none.wipe(), 0);
        DryDoors x = Kit.of("room a floor 0 water 1;room b floor 0 area 2 water 1;room c floor 0 area 2 water 2;"
                + "room d floor 0;room e floor 0 water 999;room f floor 0 water 5;room g floor 0 water 5;");
        Kit.fine(x, "all 0 at first", x.wipe(), 0);
        x.hour(1);
        Kit.fine(x, "five", x.wipe(), 5);
        for (int r = 0; r < 7; r++) {
            Kit.fine(x, "MARK of " + r, x.room(r, 7), 0);
        }
        Kit.fine(x, "all 0", x.wipe(), 0);
    }

    // ---- promises 32 to 36

    private static void ontoTheRota() {
        Kit.sentence("Promise 32: a DOOR comes onto the ROTA in an HOUR of the day, or off it (1; 7: it is so)");
        DryDoors x = Kit.of(BASIN + "door q from a to sea sill 0;rota 3 q;");
        Kit.fine(x, "HOUR 0", x.rota(0, 0, true));
        Kit.fine(x, "HOUR 11", x.rota(11, 0, true));
        Kit.fine(x, "HOURS of p", x.door(0, 5), 1 | 2048);
        Kit.fine(x, "HOURS of q", x.door(1, 5), 8);
        Kit.refused(x, "it is", x.rota(0, 0, true), 7);
        Kit.refused(x, "it is, by the LAND", x.rota(3, 1, true), 7);
        Kit.refused(x, "it is not", x.rota(3, 0, false), 7);
        Kit.fine(x, "off", x.rota(3, 1, false));
        Kit.refused(x, "it is not", x.rota(3, 1, false), 7);
        Kit.fine(x, "HOURS of q", x.door(1, 5), 0);
        int[] hours = {-1, 12, LEAST, MOST};
        for (int h : hours) {
            Kit.refused(x, "rota " + h, x.rota(h, 0, true), 1);
            Kit.refused(x, "rota off " + h, x.rota(h, 0, false), 1);
        }
        int[] doors = {-1, 2, 10, LEAST, MOST};
        for (int d : doors) {
            Kit.refused(x, "rota of " + d, x.rota(1, d, true), 1);
            Kit.refused(x, "rota off of " + d, x.rota(1, d, false), 1);
        }
        Kit.fine(x, "HOURS of p still", x.door(0, 5), 1 | 2048);
    }

    private static void moonHeights() {
        Kit.sentence("Promise 33: TIDE of an HOUR of the day is another one (0 to 99) (1)");
        DryDoors x = new DryDoors();
        Kit.fine(x, "HOUR 0, height 0", x.moon(0, 0));
        Kit.fine(x, "HOUR 11, height 99", x.moon(11, 99));
        Kit.fine(x, "the same again", x.moon(11, 99));
        int[] heights = {-1, 100, LEAST, MOST};
        for (int height : heights) {
            Kit.refused(x, "height " + height, x.moon(5, height), 1);
        }
        int[] hours = {-1, 12, LEAST, MOST};
        for (int h : hours) {
            Kit.refused(x, "HOUR " + h, x.moon(h, 5), 1);
        }
        Kit.fine(x, "TIDE 0", x.tide(0), 0);
        Kit.fine(x, "TIDE 5", x.tide(5), 10);
        Kit.fine(x, "TIDE 11", x.tide(11), 99);
    }

    private static void pumpAmounts() {
        Kit.sentence("Promise 34: PUMP of a ROOM takes so much (0 to 99) (1)");
        DryDoors x = Kit.of("room a floor 0;room b floor 0;pump a 4;pump b 5;");
        int[] wrong = {-1, 100, LEAST, MOST};
        for (int much : wrong) {
            Kit.refused(x, "much " + much, x.pump(0, much), 1);
        }
        int[] rooms = {-1, 2, 7, LEAST, MOST};
        for (int r : rooms) {
            Kit.refused(x, "ROOM " + r, x.pump(r, 1), 1);
        }
        Kit.fine(x, "as it was", x.room(0, 3), 4);
        Kit.fine(x, "much 99", x.pump(0, 99));
        Kit.fine(x, "much 0", x.pump(1, 0));
        Kit.fine(x, "PUMP 99", x.room(0, 3), 99);
        Kit.fine(x, "PUMP 0", x.room(1, 3), 0);
        Kit.fine(x, "the same again", x.pump(1, 0));
    }

    private static void raisedSills() {
        Kit.sentence("Promise 35: so much higher (-99 to 99): SILL then (1; 7: below 0, above 99)");
        DryDoors x = Kit.of("room a floor 0;door p from sea to a sill 0;door q from sea to a sill 50;");
        int[] wrong = {-100, 100, LEAST, MOST};
        for (int much : wrong) {
            Kit.refused(x, "much " + much, x.raise(1, much), 1);
        }
        int[] doors = {-1, 2, 10, LEAST, MOST};
        for (int d : doors) {
            Kit.refused(x, "DOOR " + d, x.raise(d, 1), 1);
        }
        Kit.refused(x, "0 to -1", x.raise(0, -1), 7);
        Kit.fine(x, "0 to 99", x.raise(0, 99), 99);
        Kit.refused(x, "99 to 100", x.raise(0, 1), 7);
        Kit.refused(x, "99 to 198", x.raise(0, 99), 7);
        Kit.fine(x, "99 to 0", x.raise(0, -99), 0);
        Kit.refused(x, "0 to -99", x.raise(0, -99), 7);
        Kit.refused(x, "50 to 100", x.raise(1, 50), 7);
        Kit.refused(x, "50 to -1", x.raise(1, -51), 7);
        Kit.fine(x, "50 still", x.door(1, 2), 50);
        Kit.fine(x, "by 0", x.raise(1, 0), 50);
        Kit.fine(x, "50 to 99", x.raise(1, 49), 99);
    }

    private static void raiseStatuses() {
        Kit.sentence("Promise 35: (1 ahead of 7)");
        DryDoors x = Kit.of(BASIN);
        Kit.refused(x, "5 to 105", x.raise(0, 100), 1);
        Kit.refused(x, "5 to -95", x.raise(0, -100), 1);
        Kit.refused(x, "5 to -94", x.raise(0, -99), 7);
    }

    private static void builtAnew() {
        Kit.sentence("Promise 36: a DROWNED ROOM is built anew: how many are DROWNED (1; 7: it is not)");
        DryDoors x = Kit.of("room a floor 0 bears 1 water 2;room b floor 0 bears 1 water 1;room c floor 0 bears 1 water 2;");
        Kit.refused(x, "it is not yet", x.build(0), 7);
        x.hour(1);
        Kit.fine(x, "DROWNED", x.told(6), 5);
        Kit.refused(x, "it bears that", x.build(1), 7);
        int[] rooms = {-1, 3, 7, LEAST, MOST};
        for (int r : rooms) {
            Kit.refused(x, "ROOM " + r, x.build(r), 1);
        }
        Kit.fine(x, "a", x.build(0), 1);
        Kit.fine(x, "DROWNED", x.told(6), 4);
        Kit.refused(x, "a is not", x.build(0), 7);
        Kit.fine(x, "c", x.build(2), 0);
        Kit.fine(x, "DROWNED", x.told(6), 0);
    }

    public static void main(String[] args) {
        flowsByWhatIsThereThen();
        doorByDoor();
        noMoreThanThereIs();
        seaHasEnough();
        mostInARoom();
        lostAtOnce();
        pumpsTakeWhatThereIs();
        aboveWhatItBears();
        drownedForGood();
        greatestAtTheEnd();
        wipedIsZero();
        oneToNinetyNine();
        toTheLastHour();
        statusOneFirst();
        drownedInThem();
        held();
        heldByTheHour();
        walled();
        bailed();
        bailStatuses();
        bailedIsNotAnHour();
        howManyAboveZero();
        ontoTheRota();
        moonHeights();
        pumpAmounts();
        raisedSills();
        raiseStatuses();
        builtAnew();
        Kit.end("edges of deeds");
    }
}
