/** The sentences that name a boundary case: what would be (section 3; promises 37 to 55). */
public final class EdgesOfForesight {
    private static final int LEAST = Integer.MIN_VALUE;
    private static final int MOST = Integer.MAX_VALUE;
    private static final String BASIN = "room a floor 0;door p from sea to a sill 5;";
    private static final int[] NO_HOURS = {-1, 100, LEAST, MOST};

    /** Into ROOM 0 comes 1 each day, in one HOUR of it: 9 at the end of the HOUR 96 later. */
    private static DryDoors dripping(String room, int hour) {
        DryDoors x = Kit.of("room a floor 0 " + room + ";room b floor 0;door p from sea to a sill 5 leaks 1;");
        Kit.allTides(x, 5);
        x.moon(hour, 6);
        return x;
    }

    /** 1 comes in an HOUR while the DOOR is OPEN: 12 in 12 of them. */
    private static String oneAnHour(String room) {
        return "room a floor 0 " + room + ";door p from sea to a sill 9;";
    }

    private static DryDoors atTheLastHour(String land) {
        DryDoors x = Kit.of(land);
        Kit.goTo(x, 9999);
        return x;
    }

    // ---- promises 37, 38

    private static void later() {
        Kit.sentence("Promise 37: WATER in a ROOM in so many HOURS (0 to 99) (1)");
        DryDoors x = dripping("area 20", 2);
        Kit.fine(x, "0", x.later(0, 0), 0);
        Kit.fine(x, "2", x.later(0, 2), 0);
        Kit.fine(x, "3", x.later(0, 3), 1);
        Kit.fine(x, "98", x.later(0, 98), 8);
        Kit.fine(x, "99", x.later(0, 99), 9);
        Kit.fine(x, "99, of the other ROOM", x.later(1, 99), 0);
        for (int hours : NO_HOURS) {
            Kit.refused(x, "hours " + hours, x.later(0, hours), 1);
        }
        int[] rooms = {-1, 2, 7, LEAST, MOST};
        for (int r : rooms) {
            Kit.refused(x, "ROOM " + r, x.later(r, 0), 1);
        }
    }

    private static void allLater() {
        Kit.sentence("Promise 38: all WATER in so many HOURS (0 to 99) (1)");
        DryDoors x = Kit.of("room a floor 0 water 300;room b floor 0 water 8;pump a 1;");
        Kit.fine(x, "0", x.allLater(0), 308);
        Kit.fine(x, "1", x.allLater(1), 307);
        Kit.fine(x, "99", x.allLater(99), 209);
        for (int hours : NO_HOURS) {
            Kit.refused(x, "hours " + hours, x.allLater(hours), 1);
        }
        DryDoors none = new DryDoors();
        Kit.fine(none, "no ROOMS", none.allLater(99), 0);
    }

    private static void nothingHappens() {
        Kit.sentence("3.: by what would be, from now on (nothing of it comes to be)");
        DryDoors x = Kit.held("room a floor 0 bears 1;door p from sea to a sill 5;rota 3 p;", 0);
        x.later(0, 99);
        x.allLater(99);
        x.wetIn(0);
        x.drownsIn(0);
        x.dryIn();
        x.fails(0);
        x.worst();
        x.sillFor(0);
        x.through(0, 99);
        x.greatest(0, 99);
        x.firstDrowned();
        x.bestHour(0);
        x.pumpFor(0);
        x.pumpAt(99);
        x.twoWalls();
        x.gain(0);
        x.bailFor(0, 24);
        x.siege(99);
        x.borne();
        Kit.told(x, 1, 1, 0, 0, 0, 0, 0, 1, 1, 0);
        Kit.fine(x, "MARK", x.room(0, 7), 0);
        Kit.fine(x, "PUMP", x.room(0, 3), 0);
        Kit.fine(x, "SILL", x.door(0, 2), 5);
        Kit.fine(x, "ROTA", x.door(0, 5), 8);
        Kit.fine(x, "TIDE", x.tide(0), 10);
    }

    private static void beyondTheLastHour() {
        Kit.sentence("3.: (9,999 does not matter)");
        DryDoors x = atTheLastHour("room a floor 0 bears 9;tide 3 6;door p from sea to a sill 5;"
                + "errand e by p from 4 to 5;");
        x.hold(0, true);
        // HOUR 9,999 is 3 of the day: 1 comes in it, then 5, then 4
        Kit.fine(x, "later", x.later(0, 3), 10);
        Kit.fine(x, "allLater", x.allLater(2), 6);
        Kit.fine(x, "wetIn", x.wetIn(0), 1);
        Kit.fine(x, "drownsIn", x.drownsIn(0), 3);
        Kit.fine(x, "fails", x.fails(0), 1);
        Kit.fine(x, "through", x.through(0, 2), 6);
        Kit.fine(x, "greatest", x.greatest(0, 99), 10);
        Kit.fine(x, "firstDrowned", x.firstDrowned(), 0);
        Kit.fine(x, "siege", x.siege(10), 1);
        Kit.fine(x, "damage", x.damage(1), 10);
        Kit.fine(x, "plan", x.plan(1), 10);
        x.hold(0, false);
        Kit.fine(x, "planned", x.planned(0), 4);
        Kit.fine(x, "bestHour", x.bestHour(0), 3);
        Kit.fine(x, "save", x.save(12), 0);
        Kit.refused(x, "an HOUR itself", x.hour(1), 4);
    }

    // ---- promises 39 to 41

    private static void wetIn() {
        Kit.sentence("Promise 39: in how many HOURS (0 to 99) a ROOM is WET first (1; 6: not in 99)");
        DryDoors x = dripping("area 9", 2);
        Kit.fine(x, "at the end of the 99th", x.wetIn(0), 99);
        Kit.refused(x, "never", x.wetIn(1), 6);
        x.moon(2, 5);
        x.moon(3, 6);
        Kit.refused(x, "at the end of the 100th", x.wetIn(0), 6);
        x.hour(1);
        Kit.fine(x, "which is the 99th now", x.wetIn(0), 99);
        DryDoors now = Kit.of("room a floor 0 area 3 water 3;room b floor 0 area 3 water 2;pump a 9;");
        Kit.fine(now, "now, though no more in an HOUR", now.wetIn(0), 0);
        Kit.refused(now, "WATER without DEPTH", now.wetIn(1), 6);
        int[] rooms = {-1, 2, 7, LEAST, MOST};
        for (int r : rooms) {
            Kit.refused(now, "ROOM " + r, now.wetIn(r), 1);
        }
    }

    private static void drownsIn() {
        Kit.sentence("Promise 40: in how many HOURS (0 to 99) a ROOM is DROWNED first (0: it is) (1; 6: not in 99)");
        DryDoors x = dripping("area 3 bears 2", 2);
        Kit.fine(x, "at the end of the 99th", x.drownsIn(0), 99);
        Kit.refused(x, "never", x.drownsIn(1), 6);
        x.moon(2, 5);
        x.moon(3, 6);
        Kit.refused(x, "at the end of the 100th", x.drownsIn(0), 6);
        x.hour(1);
        Kit.fine(x, "which is the 99th now", x.drownsIn(0), 99);
        DryDoors now = Kit.of("room a floor 0 bears 1 water 9;");
        Kit.fine(now, "above what it BEARS, but not DROWNED yet", now.drownsIn(0), 1);
        now.hour(1);
        now.bail(0, 9);
        Kit.fine(now, "it is, without WATER", now.drownsIn(0), 0);
        int[] rooms = {-1, 1, 7, LEAST, MOST};
        for (int r : rooms) {
            Kit.refused(now, "ROOM " + r, now.drownsIn(r), 1);
        }
    }

    private static void dryIn() {
        Kit.sentence("Promise 41: in how many HOURS (0 to 99) no ROOM is WET first (6: not in 99)");
        DryDoors x = Kit.of("room a floor 0 water 100;room b floor 0 water 50;pump a 1;pump b 2;");
        Kit.refused(x, "in 100", x.dryIn(), 6);
        x.bail(0, 1);
        Kit.fine(x, "in 99", x.dryIn(), 99);
        x.bail(0, 98);
        Kit.fine(x, "the other one is WET for longer", x.dryIn(), 25);
        x.bail(1, 50);
        Kit.fine(x, "in 1", x.dryIn(), 1);
        x.bail(0, 1);
        Kit.fine(x, "now", x.dryIn(), 0);
        DryDoors few = Kit.of("room a floor 0 area 20 water 19;");
        Kit.fine(few, "WATER without DEPTH", few.dryIn(), 0);
        DryDoors none = new DryDoors();
        Kit.fine(none, "no ROOMS", none.dryIn(), 0);
    }

    // ---- promises 42 to 44

    private static void fails() {
        Kit.sentence("Promise 42: DROWNED in 12 HOURS (those that are now, too), if a DOOR were held OPEN from now on (1)");
        DryDoors twelfth = Kit.of(oneAnHour("area 2 bears 5"));
        Kit.fine(twelfth, "12 by 2 at the end of the 12th", twelfth.fails(0), 1);
        twelfth.moon(11, 9);
        Kit.fine(twelfth, "it would be at the end of the 13th", twelfth.fails(0), 0);
        DryDoors bears = Kit.of(oneAnHour("area 2 bears 6"));
        Kit.fine(bears, "it BEARS 12 by 2", bears.fails(0), 0);
        DryDoors x = Kit.of("room a floor 0 bears 1;room b floor 0 bears 1 water 9;room c floor 0 bears 1 water 1;"
                + "door p from sea to a sill 5;door q from b to c sill 0;");
        x.hour(1);
        x.bail(1, 9);
        Kit.fine(x, "b is now, a would be", x.fails(0), 3);
        Kit.fine(x, "b is now", x.fails(1), 2);
        x.wall(0, true);
        Kit.fine(x, "a WALLED DOOR is not OPEN, held or not", x.fails(0), 2);
        int[] doors = {-1, 2, 10, LEAST, MOST};
        for (int d : doors) {
            Kit.refused(x, "DOOR " + d, x.fails(d), 1);
        }
        DryDoors both = Kit.held("room a floor 0 bears 1;room b floor 0 bears 1;door p from sea to a sill 5;"
                + "door q from sea to b sill 5;", 0);
        Kit.fine(both, "the other is held all the same", both.fails(1), 3);
        both.moon(0, 0);
        both.rota(11, 1, true);
        both.hold(0, false);
        Kit.fine(both, "the ROTA goes on as well", both.fails(0), 3);
    }

    private static void worst() {
        Kit.sentence("Promise 43: the most WATER into all ROOMS in 12 HOURS, of several the first (6: no DOORS)");
        String land = "room a floor 0 area 20;room b floor 0 area 20;room c floor 0 area 20;";
        DryDoors x = Kit.of(land + "door p from sea to a sill 9;door q from sea to b sill 8;door r from sea to c sill 8;");
        // 12, 24, 24
        Kit.fine(x, "q and r", x.worst(), 1);
        x.wall(1, true);
        Kit.fine(x, "r", x.worst(), 2);
        x.moon(11, 9);
        x.wall(1, false);
        x.raise(1, -1);
        // 35 by q in 12 HOURS, 23 by r
        Kit.fine(x, "q", x.worst(), 1);
        DryDoors twelve = Kit.of(land + "door p from sea to a sill 9 wide 2;door q from sea to b sill 8;");
        twelve.moon(11, 9);
        Kit.fine(twelve, "22 by p, 23 by q in 12 HOURS", twelve.worst(), 1);
        twelve.moon(11, 8);
        Kit.fine(twelve, "22 by p, 22 by q", twelve.worst(), 0);
        DryDoors no = Kit.of(land + "door p from a to b sill 9;door q from b to c sill 9;");
        Kit.fine(no, "nothing by either", no.worst(), 0);
        DryDoors less = Kit.of("room a floor 20 water 5;door p from a to sea sill 20;door q from a to sea sill 24;");
        Kit.fine(less, "the most is less than now", less.worst(), 1);
        // p 3 in six HOURS and 0 in six, q 2 and 1: 18 each; in the 13th, 0 of the day, q would bring 1 more
        DryDoors twelveAlone = Kit.of(land + "door p from sea to a sill 9 wide 3;door q from sea to b sill 8;");
        for (int h = 0; h < 12; h += 2) {
            twelveAlone.moon(h, 9);
        }
        Kit.fine(twelveAlone, "18 each in just 12 HOURS", twelveAlone.worst(), 0);
        // a holds 20 whoever brings them: with p held q brings 1 more at most, r 12 into b
        DryDoors held = Kit.held("room a floor 9 area 20;room b floor 0 area 20;door p from sea to a sill 0 wide 2;"
                + "door q from sea to a sill 0 wide 9;door r from sea to b sill 9;", 0);
        Kit.fine(held, "the others as they are", held.worst(), 2);
        held.hold(0, false);
        Kit.fine(held, "q alone brings 27", held.worst(), 1);
        DryDoors none = Kit.of(land);
        Kit.refused(none, "no DOORS", none.worst(), 6);
    }

    private static void sillFor() {
        Kit.sentence("Promise 44: the least by which a SILL must be raised .. (0 to 99; SILL to 99) (1; 6: not by that)");
        DryDoors x = Kit.of("room a floor 0 bears 1;door p from sea to a sill 0;door q from sea to a sill 1;");
        Kit.allTides(x, 99);
        // at SILL 98 there are 2 in a in two HOURS
        Kit.fine(x, "0 to 99", x.sillFor(0), 99);
        Kit.fine(x, "1 to 99", x.sillFor(1), 98);
        Kit.fine(x, "raised so much", x.raise(0, 99), 99);
        Kit.fine(x, "99 already", x.sillFor(0), 0);
        DryDoors not = Kit.of("room a floor 0 bears 1;room b floor 99 water 2;door p from b to a sill 98;");
        // SURFACE 101: 2 come even over 99
        Kit.refused(not, "not by 99", not.sillFor(0), 6);
        not.bail(1, 1);
        Kit.fine(not, "1 is borne", not.sillFor(0), 0);
        int[] doors = {-1, 1, 10, LEAST, MOST};
        for (int d : doors) {
            Kit.refused(not, "DOOR " + d, not.sillFor(d), 1);
        }
    }

    private static void noRoomMore() {
        Kit.sentence("Promise 44: .. if it were held OPEN, no ROOM more would be DROWNED in 12 HOURS than are now");
        DryDoors x = Kit.of("room a floor 0 area 2 bears 5;room b floor 0 bears 1 water 2;door p from sea to a sill 7;");
        Kit.refused(x, "b would be", x.sillFor(0), 6);
        x.hour(1);
        // 2 an HOUR by SILL 8 are 24, 1 by SILL 9 are 12, which is 6 deep
        Kit.fine(x, "b is, a would be by all but 10", x.sillFor(0), 3);
        x.moon(0, 9);
        Kit.fine(x, "11 are 5 deep", x.sillFor(0), 2);
        x.raise(0, 2);
        Kit.fine(x, "by 0", x.sillFor(0), 0);
        DryDoors held = Kit.held("room a floor 0 bears 1;room b floor 0 bears 1;door p from sea to a sill 5;"
                + "door q from sea to b sill 5;", 1);
        Kit.refused(held, "b would be by q, which is held", held.sillFor(0), 6);
        held.hold(1, false);
        Kit.fine(held, "by none of both", held.sillFor(0), 5);
    }

    // ---- promises 45 to 47

    private static void through() {
        Kit.sentence("Promise 45: how much WATER goes through a DOOR, either way, in so many HOURS (0 to 99), all together (1)");
        DryDoors x = dripping("area 20", 2);
        Kit.fine(x, "0", x.through(0, 0), 0);
        Kit.fine(x, "2", x.through(0, 2), 0);
        Kit.fine(x, "3", x.through(0, 3), 1);
        Kit.fine(x, "98", x.through(0, 98), 8);
        Kit.fine(x, "99", x.through(0, 99), 9);
        for (int hours : NO_HOURS) {
            Kit.refused(x, "hours " + hours, x.through(0, hours), 1);
        }
        int[] doors = {-1, 1, 10, LEAST, MOST};
        for (int d : doors) {
            Kit.refused(x, "DOOR " + d, x.through(d, 1), 1);
        }
        // there and back: 3 each time, no more than there are
        DryDoors y = Kit.held("room a floor 0 water 3;room b floor 0;door p from a to b sill 0 wide 9;"
                + "door q from sea to b sill 99;", 0);
        Kit.fine(y, "either way", y.through(0, 5), 15);
        Kit.fine(y, "of the other DOOR", y.through(1, 99), 0);
    }

    private static void greatest() {
        Kit.sentence("Promise 46: the greatest DEPTH of a ROOM now and at the end of each of so many HOURS (0 to 99) (1)");
        DryDoors x = dripping("area 9", 2);
        Kit.fine(x, "98", x.greatest(0, 98), 0);
        Kit.fine(x, "99", x.greatest(0, 99), 1);
        for (int hours : NO_HOURS) {
            Kit.refused(x, "hours " + hours, x.greatest(0, hours), 1);
        }
        int[] rooms = {-1, 2, 7, LEAST, MOST};
        for (int r : rooms) {
            Kit.refused(x, "ROOM " + r, x.greatest(r, 1), 1);
        }
        DryDoors y = Kit.held("room a floor 0 water 4;door p from sea to a sill 5;pump a 7;", 0);
        // 4 and 5 less 7 are 2, then 0
        Kit.fine(y, "now, with no HOURS", y.greatest(0, 0), 4);
        Kit.fine(y, "now, at no end again", y.greatest(0, 99), 4);
        y.hour(1);
        Kit.fine(y, "at the end of HOURS, not within them", y.greatest(0, 99), 2);
    }

    private static void firstDrowned() {
        Kit.sentence("Promise 47: the ROOM, not DROWNED now, that is DROWNED the soonest, of several the first (6: none in 99 "
                + "HOURS)");
        DryDoors x = Kit.of("room a floor 0 bears 9;room b floor 0 bears 3;room c floor 0 bears 3;room d floor 0 bears 1 "
                + "water 2;door p from sea to a sill 0 leaks 5;door q from sea to b sill 5 leaks 2;"
                + "door r from sea to c sill 5 leaks 2;");
        // a has 10 in two HOURS, b and c 4; d has 2 now
        Kit.fine(x, "the soonest", x.firstDrowned(), 3);
        x.hour(1);
        Kit.fine(x, "of several the first, d is DROWNED now", x.firstDrowned(), 0);
        x.pump(0, 9);
        Kit.fine(x, "of both", x.firstDrowned(), 1);
        x.hour(1);
        x.bail(1, 4);
        x.bail(2, 4);
        x.bail(3, 2);
        Kit.refused(x, "all that can be are", x.firstDrowned(), 6);
        DryDoors last = dripping("area 3 bears 2", 2);
        Kit.fine(last, "in 99", last.firstDrowned(), 0);
        last.moon(2, 5);
        last.moon(3, 6);
        Kit.refused(last, "in 100", last.firstDrowned(), 6);
        DryDoors none = new DryDoors();
        Kit.refused(none, "no ROOMS", none.firstDrowned(), 6);
    }

    // ---- promises 48 to 50

    private static void bestHour() {
        Kit.sentence("Promise 48: the HOUR of the day .. that the least WATER is in all ROOMS behind the 12, of several the "
                + "first by number (1)");
        DryDoors x = Kit.of(BASIN);
        Kit.fine(x, "all alike", x.bestHour(0), 0);
        x.moon(11, 9);
        Kit.fine(x, "4 in HOUR 11", x.bestHour(0), 11);
        x.moon(7, 9);
        Kit.fine(x, "4 in HOUR 7, too", x.bestHour(0), 7);
        x.hour(8);
        Kit.fine(x, "by number, though 11 comes first", x.bestHour(0), 7);
        int[] doors = {-1, 1, 10, LEAST, MOST};
        for (int d : doors) {
            Kit.refused(x, "DOOR " + d, x.bestHour(d), 1);
        }
    }

    private static void thatHourAlone() {
        Kit.sentence("Promise 48: (that one of the next 12 HOURS alone by hand; else as it is)");
        DryDoors x = Kit.of(BASIN + "rota 5 p;tide 3 9;");
        // OPEN in HOUR 5 by the ROTA, whatever hands do: nothing more comes in it
        Kit.fine(x, "on the ROTA", x.bestHour(0), 5);
        Kit.fine(x, "on the ROTA still", x.door(0, 5), 32);
        x.wall(0, true);
        Kit.fine(x, "WALLED: all alike", x.bestHour(0), 0);
        // it gives 1 in the first HOUR alone, 5 and all later
        DryDoors two = Kit.held("room a floor 0;room b floor 0;door p from sea to a sill 5;door q from sea to b sill 9;"
                + "tide 4 6;", 1);
        Kit.fine(two, "the other DOOR as it is", two.bestHour(0), 4);
        // in HOUR 4 of the day nothing comes, and 1 in each of the other 11
        Kit.fine(two, "the one held by hand", two.bestHour(1), 4);
    }

    private static void othersAsTheyAre() {
        Kit.sentence("Promise 48: (.. else as it is): hands and the ROTA at the other DOORS");
        // by p alone come 2, by HOUR 5 1; with q held it is 10 at the end in any case; with q on the ROTA 10 by HOURS 0
        // and 2 to 11, 12 by HOUR 1, and in HOUR 5 1 goes back to the SEA
        DryDoors x = Kit.of("room a floor 0;door p from sea to a sill 8;door q from sea to a sill 5;tide 5 9;");
        Kit.fine(x, "q shut", x.bestHour(0), 5);
        x.hold(1, true);
        Kit.fine(x, "q held: 10 by all", x.bestHour(0), 0);
        x.hold(1, false);
        for (int h = 0; h < 2; h++) {
            x.rota(h, 1, true);
        }
        Kit.fine(x, "q on the ROTA in HOURS 0 and 1", x.bestHour(0), 5);
    }

    private static void heldNow() {
        Kit.sentence("Promise 48: (Held by hand now: no more but for that HOUR.)");
        DryDoors x = Kit.held("room a floor 0 area 20;door p from sea to a sill 5;tide 6 7;", 0);
        // held all the time, 6 would be no better than any
        Kit.fine(x, "bestHour", x.bestHour(0), 6);
        Kit.fine(x, "held still", x.told(8), 1);
    }

    private static void pumpFor() {
        Kit.sentence("Promise 49: the least PUMP (0 to 99) of a ROOM by which it is not DROWNED behind 24 HOURS (1; 6: not by "
                + "any)");
        DryDoors x = Kit.of("room a floor 0 bears 23;room b floor 0 bears 24;door p from sea to a sill 50 leaks 1;"
                + "door q from sea to b sill 50 leaks 1;pump b 7;");
        Kit.allTides(x, 99);
        Kit.fine(x, "24 are above 23", x.pumpFor(0), 1);
        Kit.fine(x, "24 are borne, with none", x.pumpFor(1), 0);
        int[] rooms = {-1, 2, 7, LEAST, MOST};
        for (int r : rooms) {
            Kit.refused(x, "ROOM " + r, x.pumpFor(r), 1);
        }
        DryDoors y = Kit.held("room a floor 0 bears 1;door p from sea to a sill 0;door q from sea to a sill 98;", 0, 1);
        Kit.allTides(y, 99);
        // 99 and 1 in the first HOUR, 98 and 1 later
        Kit.fine(y, "by 99 there is 1", y.pumpFor(0), 99);
        y.raise(1, -1);
        Kit.refused(y, "by 99 there are 2", y.pumpFor(0), 6);
        y.hold(1, false);
        Kit.fine(y, "by 98 there is 1", y.pumpFor(0), 98);
        y.hour(1);
        Kit.refused(y, "DROWNED already", y.pumpFor(0), 6);
    }

    /** Into a come 100 an HOUR, of which its PUMP takes 98; b has 20. */
    private static DryDoors pumped() {
        DryDoors x = Kit.held("room a floor 0 area 20;room b floor 0 water 20;door p from sea to a sill 49 wide 2;pump a 98;",
                0);
        Kit.allTides(x, 99);
        return x;
    }

    private static void pumpAt() {
        Kit.sentence("Promise 50: the ROOM whose PUMP, if it took so much (1 to 99) more, .. in 12 HOURS, of several the first "
                + "(1; 6: no ROOMS)");
        DryDoors x = pumped();
        Kit.fine(x, "24 and 20 now", x.allLater(12), 44);
        Kit.fine(x, "12 less by either", x.pumpAt(1), 0);
        x.bail(1, 9);
        // 11 less by b
        Kit.fine(x, "12 less by a", x.pumpAt(2), 0);
        int[] wrong = {0, -1, 100, LEAST, MOST};
        for (int much : wrong) {
            Kit.refused(x, "much " + much, x.pumpAt(much), 1);
        }
        DryDoors none = new DryDoors();
        Kit.refused(none, "no ROOMS", none.pumpAt(1), 6);
        Kit.refused(none, "no ROOMS", none.pumpAt(99), 6);
        DryDoors dry = Kit.of("room a floor 0;room b floor 0;");
        Kit.fine(dry, "all alike", dry.pumpAt(99), 0);
        DryDoors twelve = Kit.of("room a floor 0 water 12;room b floor 0 water 50;");
        Kit.fine(twelve, "12 in 12 HOURS by either, 13 in 13 by b alone", twelve.pumpAt(1), 0);
        twelve.bail(0, 1);
        Kit.fine(twelve, "11 by a, 12 in 12 HOURS by b", twelve.pumpAt(1), 1);
    }

    private static void ninetyNineInAll() {
        Kit.sentence("Promise 50: (99 at most in all)");
        DryDoors x = pumped();
        // a takes but 1 more: 12 less; b 20 less
        Kit.fine(x, "2", x.pumpAt(2), 1);
        Kit.fine(x, "3", x.pumpAt(3), 1);
        Kit.fine(x, "99", x.pumpAt(99), 1);
        x.pump(0, 97);
        // of the 36 there would be, 24 less with 2 more
        Kit.fine(x, "2, up to 99", x.pumpAt(2), 0);
    }

    private static void pumpAtStatuses() {
        Kit.sentence("Promise 50: (1 ahead of 6)");
        DryDoors none = new DryDoors();
        Kit.refused(none, "0, and no ROOMS", none.pumpAt(0), 1);
        Kit.refused(none, "100, and no ROOMS", none.pumpAt(100), 1);
    }

    // ---- promises 51, 52

    private static void twoWalls() {
        Kit.sentence("Promise 51: 10 times the lesser and the other, of several the least of these");
        StringBuilder land = new StringBuilder("room a floor 0 area 20 bears 99;");
        for (char c = 'b'; c <= 'i'; c++) {
            land.append("door ").append(c).append(" from sea to a sill 10;");
        }
        land.append("door j from sea to a sill 9;door k from sea to a sill 8;");
        DryDoors x = Kit.of(land.toString());
        for (int d = 0; d < 10; d++) {
            x.hold(d, true);
        }
        Kit.fine(x, "8 and 9", x.twoWalls(), 89);
        x.raise(8, 1);
        Kit.fine(x, "9 and any", x.twoWalls(), 9);
        x.raise(9, 2);
        Kit.fine(x, "any two", x.twoWalls(), 1);
        x.wall(0, true);
        Kit.fine(x, "any two of the others", x.twoWalls(), 12);
    }

    private static void thereAreNotTwo() {
        Kit.sentence("Promise 51: the two DOORS, not WALLED (6: there are not two)");
        DryDoors x = Kit.of("room a floor 0;" + Kit.parts(4, "door # from sea to a sill 5;", 'p'));
        x.wall(0, true);
        x.wall(2, true);
        Kit.fine(x, "1 and 3", x.twoWalls(), 13);
        x.wall(3, true);
        Kit.refused(x, "one", x.twoWalls(), 6);
        x.wall(1, true);
        Kit.refused(x, "none", x.twoWalls(), 6);
        DryDoors one = Kit.of(BASIN);
        Kit.refused(one, "one DOOR", one.twoWalls(), 6);
        DryDoors none = new DryDoors();
        Kit.refused(none, "no DOORS", none.twoWalls(), 6);
    }

    private static void gain() {
        Kit.sentence("Promise 52: how much less WATER in 12 HOURS, if a DOOR were WALLED from now on; STATUS tells NONE from "
                + "-1 (1)");
        DryDoors x = Kit.held("room a floor 0 area 20;room b floor 20 water 1;door p from sea to a sill 9;"
                + "door q from b to sea sill 20;", 0, 1);
        Kit.fine(x, "12 less", x.gain(0), 12);
        Kit.fine(x, "1 more", x.gain(1), -1);
        Kit.refused(x, "no such DOOR", x.gain(2), 1);
        x.wall(0, true);
        Kit.fine(x, "WALLED already", x.gain(0), 0);
        x.wall(0, false);
        x.moon(11, 9);
        Kit.fine(x, "11 less in 12 HOURS", x.gain(0), 11);
        int[] doors = {-1, 10, LEAST, MOST};
        for (int d : doors) {
            Kit.refused(x, "DOOR " + d, x.gain(d), 1);
        }
    }

    // ---- promises 53 to 55

    private static void bailFor() {
        Kit.sentence("Promise 53: the least to BAIL out of a ROOM now (0 to all of it), so that it is not WET behind so many "
                + "HOURS (1 to 24) (1; 6: not by all)");
        DryDoors x = Kit.of("room a floor 0 water 30;room b floor 0 area 2 water 31;room c floor 0 water 3;pump a 1;pump b 1;");
        Kit.fine(x, "1", x.bailFor(0, 1), 29);
        Kit.fine(x, "23", x.bailFor(0, 23), 7);
        Kit.fine(x, "24", x.bailFor(0, 24), 6);
        Kit.fine(x, "of AREA 2 one may stay", x.bailFor(1, 24), 6);
        Kit.fine(x, "all of it", x.bailFor(2, 24), 3);
        x.bail(2, 3);
        Kit.fine(x, "all of nothing", x.bailFor(2, 1), 0);
        x.bail(0, 6);
        Kit.fine(x, "0", x.bailFor(0, 24), 0);
        Kit.fine(x, "1 in 23", x.bailFor(0, 23), 1);
        int[] wrong = {0, -1, 25, LEAST, MOST};
        for (int hours : wrong) {
            Kit.refused(x, "hours " + hours, x.bailFor(0, hours), 1);
        }
        int[] rooms = {-1, 3, 7, LEAST, MOST};
        for (int r : rooms) {
            Kit.refused(x, "ROOM " + r, x.bailFor(r, 1), 1);
        }
        DryDoors tides = Kit.held("room a floor 0 area 2 water 9;door p from sea to a sill 9;pump a 3;", 0);
        Kit.allTides(tides, 9);
        tides.moon(1, 11);
        // 2 come in HOUR 1 alone
        tides.hour(1);
        Kit.fine(tides, "6 and 2 less 3: 5", tides.bailFor(0, 1), 4);
        Kit.fine(tides, "6 and 2 less 6: 2", tides.bailFor(0, 2), 1);
        tides.moon(1, 9);
        tides.moon(2, 11);
        Kit.fine(tides, "6 less 3: 3", tides.bailFor(0, 1), 2);
        Kit.fine(tides, "6 less 3 and 2 less 3: 2", tides.bailFor(0, 2), 1);
        DryDoors not = Kit.held("room a floor 0 water 3;room b floor 0;door p from sea to a sill 5;", 0);
        Kit.refused(not, "not by all", not.bailFor(0, 1), 6);
        Kit.fine(not, "of the other ROOM", not.bailFor(1, 1), 0);
        not.hold(0, false);
        Kit.fine(not, "by all", not.bailFor(0, 1), 3);
    }

    private static void siege() {
        Kit.sentence("Promise 54: DROWNED in 12 HOURS (those that are now, too), if the TIDE were so high (0 to 99) in all "
                + "HOURS (1)");
        DryDoors x = Kit.held("room a floor 0 area 2 bears 5;room b floor 0 bears 1 water 2;door p from sea to a sill 9;"
                + "tide 0 0;tide 11 99;", 0);
        Kit.fine(x, "9", x.siege(9), 2);
        Kit.fine(x, "10: 12 in 12 HOURS", x.siege(10), 3);
        Kit.fine(x, "0", x.siege(0), 2);
        Kit.fine(x, "99", x.siege(99), 3);
        x.hour(1);
        x.bail(1, 2);
        Kit.fine(x, "b is now", x.siege(0), 2);
        int[] wrong = {-1, 100, LEAST, MOST};
        for (int height : wrong) {
            Kit.refused(x, "height " + height, x.siege(height), 1);
        }
        DryDoors more = Kit.held("room a floor 0 area 2 bears 6;door p from sea to a sill 9;", 0);
        Kit.fine(more, "12 by 2 are borne", more.siege(10), 0);
        DryDoors twelve = Kit.held("room a floor 0 bears 12;room b floor 0 bears 11;door p from sea to a sill 49;"
                + "door q from sea to b sill 49;", 0, 1);
        Kit.fine(twelve, "12 in 12 HOURS are above 11, 13 in 13 were above 12", twelve.siege(50), 2);
        DryDoors none = new DryDoors();
        Kit.fine(none, "no ROOMS", none.siege(99), 0);
    }

    private static void borne() {
        Kit.sentence("Promise 55: the greatest height (0 to 99) of a SIEGE by which no ROOM more is DROWNED (6: none)");
        DryDoors x = Kit.held("room a floor 0 area 2 bears 5;room b floor 0 bears 1 water 2;door p from sea to a sill 9;", 0);
        Kit.refused(x, "b is by all", x.borne(), 6);
        x.hour(1);
        x.bail(0, 1);
        Kit.fine(x, "b is already; at the SILL", x.borne(), 9);
        x.raise(0, 90);
        Kit.fine(x, "99", x.borne(), 99);
        x.raise(0, -1);
        Kit.fine(x, "98", x.borne(), 98);
        x.wall(0, true);
        Kit.fine(x, "WALLED", x.borne(), 99);
        DryDoors zero = Kit.held("room a floor 0 bears 1;door p from sea to a sill 0 wide 2;", 0);
        Kit.fine(zero, "1 is 2 in an HOUR", zero.siege(1), 1);
        Kit.fine(zero, "0", zero.borne(), 0);
        DryDoors none = new DryDoors();
        Kit.fine(none, "no ROOMS", none.borne(), 99);
    }

    private static void borneThoughLowerIsNot() {
        Kit.sentence("Promise 55: the greatest height: a lower one need not be borne");
        // in HOUR 5 c, 10 deep, gives 90 to b if that is dry, but nothing to b as deep as it is itself
        DryDoors x = Kit.held("room b floor 0 bears 20;room c floor 0 area 20 bears 99 water 200;"
                + "door p from sea to b sill 0;door q from c to b sill 0 wide 9;rota 5 q;", 0);
        Kit.fine(x, "0", x.siege(0), 1);
        Kit.fine(x, "10", x.siege(10), 0);
        Kit.fine(x, "20", x.siege(20), 0);
        Kit.fine(x, "21", x.siege(21), 1);
        Kit.fine(x, "greatest", x.borne(), 20);
    }

    public static void main(String[] args) {
        later();
        allLater();
        nothingHappens();
        beyondTheLastHour();
        wetIn();
        drownsIn();
        dryIn();
        fails();
        worst();
        sillFor();
        noRoomMore();
        through();
        greatest();
        firstDrowned();
        bestHour();
        thatHourAlone();
        othersAsTheyAre();
        heldNow();
        pumpFor();
        pumpAt();
        ninetyNineInAll();
        pumpAtStatuses();
        twoWalls();
        thereAreNotTwo();
        gain();
        bailFor();
        siege();
        borne();
        borneThoughLowerIsNot();
        Kit.end("edges of foresight");
    }
}
