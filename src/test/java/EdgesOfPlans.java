/** The sentences that name a boundary case: plans (section 3; promises 56 to 67). */
public final class EdgesOfPlans {
    private static final int LEAST = Integer.MIN_VALUE;
    private static final int MOST = Integer.MAX_VALUE;
    private static final String BASIN = "room a floor 0;door p from sea to a sill 5;";

    // ---- promises 56, 57

    private static void dueKeep(DryDoors x, String what, int room, int set) {
        Kit.fine(x, what + ": keep " + room, x.keep(room), Integer.bitCount(set));
        Kit.fine(x, what + ": keepSet " + room, x.keepSet(room), set);
    }

    private static void noRowLeads() {
        Kit.sentence("3.: KEEP: .. so that no row of DOORS leads from the SEA to it: none need be WALLED");
        DryDoors x = Kit.of("room a floor 0;room b floor 0;room c floor 0;door p from sea to a sill 0;"
                + "door q from b to c sill 0;");
        dueKeep(x, "no row to b", 1, 0);
        dueKeep(x, "no row to c", 2, 0);
        dueKeep(x, "a row to a", 0, 1);
        x.wall(0, true);
        dueKeep(x, "no row any more", 0, 0);
    }

    private static void walledAlreadyAre() {
        Kit.sentence("3.: KEEP: the fewest DOORS to be WALLED (those WALLED already are)");
        DryDoors x = Kit.of("room a floor 0;room b floor 0;door p from sea to a sill 0;door q from a to sea sill 99;"
                + "door r from b to a sill 0;door s from sea to b sill 0;");
        dueKeep(x, "p, q and r; or p, q and s", 0, 7);
        x.wall(0, true);
        dueKeep(x, "p is: q and r", 0, 6);
        x.wall(2, true);
        dueKeep(x, "p and r are: q", 0, 2);
        dueKeep(x, "s alone", 1, 8);
        x.wall(1, true);
        dueKeep(x, "all are", 0, 0);
        x.wall(2, false);
        dueKeep(x, "r is no more", 0, 4);
    }

    private static void fewestAhead() {
        Kit.sentence("3.: KEEP: the fewest DOORS ahead of the least number; of several sets the least as a number");
        String three = "room a floor 0;room b floor 0;door p from sea to a sill 0;door q from sea to a sill 0;";
        dueKeep(Kit.of(three + "door r from a to b sill 0;"), "r, not p and q", 1, 4);
        dueKeep(Kit.of(three + "door r from a to b sill 0;door s from b to a sill 0;"), "p and q, not r and s", 1, 3);
        DryDoors row = Kit.of("room a floor 0;room b floor 0;room c floor 0;door p from b to c sill 0;"
                + "door q from a to b sill 0;door r from sea to a sill 0;");
        dueKeep(row, "any of a row: the least number", 2, 1);
        dueKeep(row, "any of q, r", 1, 2);
        dueKeep(row, "r", 0, 4);
    }

    private static void allTenDoors() {
        Kit.sentence("3.: KEEP a ROOM: sets of up to 10 DOORS");
        DryDoors x = Kit.of("room a floor 0;" + Kit.parts(10, "door # from a to sea sill 99;", 'b'));
        dueKeep(x, "all ten", 0, 1023);
        x.wall(9, true);
        dueKeep(x, "nine", 0, 511);
        String rooms = "room a floor 0;room b floor 0;";
        String nine = Kit.parts(9, "door # from a to sea sill 99;", 'c');
        DryDoors last = Kit.of(rooms + nine + "door z from a to b sill 0;");
        dueKeep(last, "nine of ten, but the last", 0, 511);
        dueKeep(last, "the last alone", 1, 512);
        DryDoors first = Kit.of(rooms + "door z from a to b sill 0;" + nine);
        dueKeep(first, "nine of ten, but the first", 0, 1022);
        dueKeep(first, "the first alone", 1, 1);
    }

    private static void noSuchRoom() {
        Kit.sentence("Promises 56, 57: (1)");
        DryDoors x = Kit.of(BASIN + "room b floor 0;");
        int[] rooms = {-1, 2, 7, LEAST, MOST};
        for (int r : rooms) {
            Kit.refused(x, "keep " + r, x.keep(r), 1);
            Kit.refused(x, "keepSet " + r, x.keepSet(r), 1);
        }
    }

    // ---- promises 58, 59

    private static void dueHours(DryDoors x, String what, int... hours) {
        for (int e = 0; e < hours.length; e++) {
            Kit.fine(x, what + ": ERRAND " + e, x.planned(e), hours[e]);
        }
    }

    private static void fromTo() {
        Kit.sentence("3.: ERRAND plan: each ERRAND has an HOUR of its own FROM .. TO in which its DOOR is OPEN");
        String land = BASIN + "tide 0 6;tide 3 7;tide 4 8;tide 6 8;tide 7 7;tide 11 6;";
        DryDoors both = Kit.of(land + "errand e by p from 4 to 6;");
        Kit.fine(both, "3 come, though 2 would by HOUR 3 or 7", both.plan(1), 3);
        dueHours(both, "FROM", 4);
        DryDoors to = Kit.of(land + "errand e by p from 5 to 6;");
        dueHours(to, "TO", 6);
        DryDoors one = Kit.of(land + "errand e by p from 5 to 5;");
        Kit.fine(one, "5 come", one.plan(1), 5);
        dueHours(one, "the only one", 5);
        DryDoors all = Kit.of(land + "errand e by p from 0 to 11;");
        Kit.fine(all, "1 comes", all.plan(1), 1);
        dueHours(all, "the first of 0 and 11", 0);
        DryDoors last = Kit.of(land + "errand e by p from 1 to 11;");
        dueHours(last, "11", 11);
    }

    private static void mayShareAnHour() {
        Kit.sentence("3.: ERRAND plan: HOURS of ERRANDS, which have their own FROM and TO each, may be the same");
        DryDoors x = Kit.of(BASIN + "errand e by p from 2 to 2;errand f by p from 2 to 2;errand g by p from 0 to 3;"
                + "errand h by p from 2 to 11;");
        Kit.fine(x, "5 come by all four at once", x.plan(1), 5);
        dueHours(x, "all four", 2, 2, 2, 2);
    }

    private static void nextTwelve() {
        Kit.sentence("3.: ERRAND plan: in the next 12 HOURS");
        DryDoors x = Kit.of("room a floor 0 area 20;door p from sea to a sill 5;pump a 1;errand e by p from 2 to 5;");
        // what comes in HOUR 2 of the day is pumped out for 10 HOURS
        Kit.fine(x, "from HOUR 0", x.plan(1), 0);
        dueHours(x, "from HOUR 0: in any of them 5 are gone", 2);
        x.hour(4);
        // HOUR 4 of the day is the first of the next 12, 3 the last
        Kit.fine(x, "from HOUR 4", x.plan(1), 0);
        dueHours(x, "from HOUR 4", 4);
        x.hour(2);
        // 2 is the ninth of them, 5 the last
        Kit.fine(x, "from HOUR 6", x.plan(1), 1);
        dueHours(x, "from HOUR 6", 2);
        Kit.fine(x, "nothing of it comes to be", x.told(4) + x.told(7), 0);
    }

    private static void fewestDrownedAhead() {
        Kit.sentence("3.: ERRAND plan: the fewest ROOMS are DROWNED at their end, then the least WATER");
        // by p come 15 at once, of which the PUMP leaves 3 at the end by HOUR 0; by HOUR 11 come 9, of which 8 stay
        DryDoors x = Kit.of("room a floor 0 bears 9;door p from sea to a sill 5 wide 3;pump a 1;tide 11 8;"
                + "errand e by p from 0 to 11;");
        Kit.fine(x, "none is DROWNED", x.plan(0), 0);
        Kit.fine(x, "8 are left", x.plan(1), 8);
        dueHours(x, "in HOUR 11", 11);
        // 14 are above 13 in any HOUR: the least WATER is by the first
        DryDoors y = Kit.of("room a floor 0 bears 13;door p from sea to a sill 5 wide 3;pump a 1;errand e by p from 0 to 11;");
        Kit.fine(y, "DROWNED by any", y.plan(0), 1);
        Kit.fine(y, "3 are left", y.plan(1), 3);
        dueHours(y, "in HOUR 0", 0);
        DryDoors early = Kit.of("room a floor 0 bears 9;door p from sea to a sill 5 wide 3;pump a 1;tide 0 8;"
                + "errand e by p from 0 to 11;");
        Kit.fine(early, "none is DROWNED by the first", early.plan(0), 0);
        dueHours(early, "in HOUR 0", 0);
    }

    private static void drownedNowToo() {
        Kit.sentence("Promise 58: how many ROOMS are DROWNED, those that are now, too");
        DryDoors x = Kit.of("room a floor 0 bears 1 water 9;room b floor 0 bears 1 water 9;room c floor 0 bears 1;"
                + "door p from sea to c sill 99;errand e by p from 0 to 11;");
        Kit.fine(x, "in an HOUR", x.plan(0), 2);
        x.hour(1);
        x.bail(0, 9);
        Kit.fine(x, "now", x.plan(0), 2);
        x.build(0);
        Kit.fine(x, "a no more", x.plan(0), 1);
        DryDoors all = Kit.of(Kit.parts(7, "room # floor 0 bears 1 water 2;") + "door p from sea to a sill 99;"
                + "errand x by p from 3 to 5;");
        Kit.fine(all, "all seven by any plan", all.plan(0), 7);
        Kit.fine(all, "their WATER", all.plan(1), 14);
        dueHours(all, "the first", 3);
    }

    private static void firstByErrands() {
        Kit.sentence("3.: ERRAND plan: of several the first by the HOURS of ERRAND 0, 1 ..");
        // 10 come by either DOOR alone; both in one HOUR bring 20
        String land = "room a floor 0;door p from sea to a sill 5 wide 2;door q from sea to a sill 5 wide 2;";
        DryDoors x = Kit.of(land + "errand e by p from 6 to 8;errand f by q from 6 to 8;");
        Kit.fine(x, "one behind the other", x.plan(1), 10);
        dueHours(x, "ERRAND 0 first", 6, 7);
        DryDoors y = Kit.of(land + "errand e by q from 7 to 8;errand f by p from 6 to 8;");
        dueHours(y, "ERRAND 0 first", 7, 6);
        y.hour(8);
        dueHours(y, "by number, though 8 comes first", 7, 6);
        DryDoors three = Kit.of("room a floor 0;door p from sea to a sill 99;errand e by p from 3 to 11;"
                + "errand f by p from 0 to 11;errand g by p from 5 to 6;errand h by p from 11 to 11;");
        dueHours(three, "nothing comes by any: FROM each", 3, 0, 5, 11);
        DryDoors four = Kit.of("room a floor 0;door p from sea to a sill 99;errand e by p from 7 to 11;"
                + "errand f by p from 1 to 11;errand g by p from 0 to 11;errand h by p from 3 to 11;");
        dueHours(four, "nothing comes by any: FROM each of four", 7, 1, 0, 3);
        four.hour(9);
        dueHours(four, "by number in HOUR 9, too", 7, 1, 0, 3);
    }

    private static void handsCount() {
        Kit.sentence("3.: ERRAND plan: (the ROTA does not count, hands do)");
        DryDoors x = Kit.of("room a floor 0;door p from sea to a sill 5;tide 3 6;errand e by p from 2 to 4;rota 9 p;rota 10 p;");
        Kit.fine(x, "1 comes", x.plan(1), 1);
        dueHours(x, "the ROTA does not count", 3);
        x.hold(0, true);
        Kit.fine(x, "10 come", x.plan(1), 10);
        dueHours(x, "hands do", 2);
        x.wall(0, true);
        Kit.fine(x, "WALLED", x.plan(1), 0);
        dueHours(x, "WALLED", 2);
    }

    private static void whatOfThePlan() {
        Kit.sentence("Promise 58: what 0: how many ROOMS are DROWNED, 1: how much WATER there is (1; 6: no ERRANDS)");
        DryDoors x = Kit.of(BASIN + "errand e by p from 0 to 0;");
        int[] wrong = {-1, 2, LEAST, MOST};
        for (int what : wrong) {
            Kit.refused(x, "what " + what, x.plan(what), 1);
        }
        Kit.fine(x, "what 0", x.plan(0), 0);
        Kit.fine(x, "what 1", x.plan(1), 5);
        DryDoors none = Kit.of(BASIN);
        Kit.refused(none, "no ERRANDS", none.plan(0), 6);
        Kit.refused(none, "no ERRANDS", none.plan(1), 6);
        Kit.sentence("Promise 58: (1 ahead of 6)");
        Kit.refused(none, "what 2, no ERRANDS", none.plan(2), 1);
        Kit.refused(none, "what -1, no ERRANDS", none.plan(-1), 1);
    }

    private static void hoursOfErrands() {
        Kit.sentence("Promise 59: the HOUR of an ERRAND by that (1)");
        DryDoors x = Kit.of(BASIN + "errand e by p from 1 to 1;errand f by p from 3 to 3;");
        dueHours(x, "both", 1, 3);
        int[] wrong = {-1, 2, 4, LEAST, MOST};
        for (int e : wrong) {
            Kit.refused(x, "ERRAND " + e, x.planned(e), 1);
        }
        DryDoors none = Kit.of(BASIN);
        Kit.refused(none, "no ERRANDS", none.planned(0), 1);
    }

    // ---- promises 60, 61

    private static void zeroToTwelve() {
        Kit.sentence("3.: SAVE h HOURS (0 to 12): PUMPS go in just h of the next 12 HOURS; Promises 60, 61: (1)");
        DryDoors x = Kit.of("room a floor 0 water 100;pump a 3;");
        for (int h = 0; h <= 12; h++) {
            Kit.fine(x, "save " + h, x.save(h), 100 - 3 * h);
            Kit.fine(x, "saveSet " + h, x.saveSet(h), (1 << h) - 1);
        }
        int[] wrong = {-1, 13, LEAST, MOST};
        for (int h : wrong) {
            Kit.refused(x, "save " + h, x.save(h), 1);
            Kit.refused(x, "saveSet " + h, x.saveSet(h), 1);
        }
        Kit.fine(x, "nothing is pumped", x.told(4), 100);
    }

    private static void allOfThemOrNone() {
        Kit.sentence("3.: SAVE: (all of them, or none): so that the least WATER is in all ROOMS at their end");
        // a has 5 from HOUR 0 on; into b come 9 in HOUR 7 alone
        DryDoors x = Kit.of("room a floor 0 water 5;room b floor 0;door p from sea to b sill 1;rota 7 p;pump a 5;pump b 9;");
        Kit.fine(x, "of none", x.save(0), 14);
        Kit.fine(x, "of one", x.save(1), 0);
        Kit.fine(x, "the first in which both can", x.saveSet(1), 128);
        Kit.fine(x, "the least number with it", x.saveSet(2), 129);
        x.pump(1, 4);
        Kit.fine(x, "9 less 4", x.save(1), 5);
        Kit.fine(x, "one in which both can", x.saveSet(1), 128);
        Kit.fine(x, "9 less 8", x.save(2), 1);
        Kit.fine(x, "7 and 8", x.saveSet(2), 128 + 256);
    }

    private static void setOfHoursOfTheDay() {
        Kit.sentence("3.: SAVE: the set of HOURS of the day (1 for HOUR 0 ..), of several the least as a number");
        DryDoors x = Kit.of("room a floor 0;door p from sea to a sill 9 leaks 1;pump a 99;");
        Kit.fine(x, "the last one takes all", x.saveSet(1), 1 << 11);
        x.hour(1);
        Kit.fine(x, "the last of the next 12 is HOUR 0 of the day", x.saveSet(1), 1);
        x.hour(4);
        Kit.fine(x, "it is HOUR 4", x.saveSet(1), 16);
        Kit.fine(x, "the least with it", x.saveSet(2), 17);
        Kit.fine(x, "all", x.saveSet(12), 4095);
        Kit.fine(x, "none", x.saveSet(0), 0);
        DryDoors none = new DryDoors();
        none.hour(7);
        Kit.fine(none, "no ROOMS: all alike", none.saveSet(2), 3);
        Kit.fine(none, "no ROOMS", none.save(2), 0);
    }

    // ---- promises 62, 63

    /** A ROOM one above the TIDE by 1: p, r and s bring 1 an HOUR, q 2, until there are 20 or more. */
    private static final String SHARED = "room a floor 9 area 20;door p from sea to a sill 0;door q from sea to a sill 0 wide 2;"
            + "door r from sea to a sill 0;door s from sea to a sill 0;";

    private static void sets() {
        Kit.sentence("Promise 62: DAMAGE of a set of DOORS (1: no such set)");
        DryDoors x = Kit.of(SHARED);
        int[] damage = {0, 12, 20, 21, 12, 20, 21, 20, 12, 20, 21, 20, 20, 21, 20, 20};
        for (int set = 0; set < 16; set++) {
            Kit.fine(x, "damage " + set, x.damage(set), damage[set]);
        }
        int[] wrong = {16, 17, 31, 32, 1024, -1, LEAST, MOST};
        for (int set : wrong) {
            Kit.refused(x, "damage " + set, x.damage(set), 1);
        }
        DryDoors ten = Kit.of("room a floor 9 area 20;" + Kit.parts(10, "door # from sea to a sill 0;", 'b'));
        Kit.fine(ten, "all ten", ten.damage(1023), 20);
        Kit.refused(ten, "an 11th", ten.damage(1024), 1);
        DryDoors none = new DryDoors();
        Kit.fine(none, "none of none", none.damage(0), 0);
        Kit.refused(none, "one of none", none.damage(1), 1);
    }

    private static void justTheseAreOpen() {
        Kit.sentence("3.: DAMAGE: WATER in all ROOMS in 12 HOURS, if just these are OPEN (all HOURS; ROTA and hands do not "
                + "count)");
        DryDoors x = Kit.of("room a floor 0 area 20;room b floor 0 water 7;door p from sea to a sill 9;"
                + "door q from sea to a sill 8 leaks 1;rota 5 p;");
        x.hold(1, true);
        Kit.fine(x, "q leaks", x.damage(0), 7 + 12);
        Kit.fine(x, "p in all HOURS, q leaks", x.damage(1), 7 + 24);
        Kit.fine(x, "q in all HOURS", x.damage(2), 7 + 24);
        Kit.fine(x, "both", x.damage(3), 7 + 36);
        x.moon(11, 8);
        Kit.fine(x, "in 12 HOURS", x.damage(3), 7 + 33);
        Kit.fine(x, "hands and ROTA are as they were", x.told(8) * 100 + x.door(0, 5), 232);
        x.moon(11, 10);
        x.wall(1, true);
        Kit.fine(x, "a WALLED DOOR is not OPEN", x.damage(3), 7 + 12);
    }

    private static void dueGuilt(DryDoors x, int door, int doors, int top, int bottom) {
        Kit.fine(x, "guilt " + door + " in " + doors, x.guilt(door, doors));
        Kit.due("top of " + door + " in " + doors, x.top(), top);
        Kit.due("bottom of " + door + " in " + doors, x.bottom(), bottom);
    }

    private static void meanOfAllOrders() {
        Kit.sentence("3.: FAULT: on the mean of all orders of the set by how much DAMAGE is more with it than with those ahead "
                + "of it alone");
        DryDoors x = Kit.of(SHARED);
        dueGuilt(x, 0, 1, 12, 1);
        // 12 and 21 less 20; 20 and 21 less 12
        dueGuilt(x, 0, 3, 13, 2);
        dueGuilt(x, 1, 3, 29, 2);
        // q of p, q, r: 2 times 20, 21 less 12, 21 less 12, 2 times 20 less 20
        dueGuilt(x, 1, 7, 29, 3);
        // p of them: 2 times 12, 21 less 20, 20 less 12, 2 times 20 less 21
        dueGuilt(x, 0, 7, 31, 6);
        dueGuilt(x, 2, 7, 31, 6);
        // p, r, s are alike: 21 in all
        dueGuilt(x, 3, 13, 7, 1);
        // q of all: 6 times 20; 3 times 2 times 21 less 12; 3 times 2 times 20 less 20; 6 times 20 less 21: 168 by 24
        dueGuilt(x, 1, 15, 7, 1);
    }

    private static void oneToFiveDoors() {
        Kit.sentence("3.: FAULT of a DOOR in a set of DOORS (1 to 5 of them; it is in it); Promise 63: (1)");
        DryDoors x = Kit.of("room a floor 9 area 20;" + Kit.parts(10, "door # from sea to a sill 0;", 'b'));
        dueGuilt(x, 9, 512, 12, 1);
        dueGuilt(x, 0, 1, 12, 1);
        // 20 by four or five, 21 by three
        dueGuilt(x, 0, 0b1111, 5, 1);
        dueGuilt(x, 4, 0b11111, 4, 1);
        dueGuilt(x, 9, 0b1111100000, 4, 1);
        Kit.refused(x, "six", x.guilt(0, 0b111111), 1);
        Kit.refused(x, "ten", x.guilt(0, 1023), 1);
        Kit.refused(x, "none", x.guilt(0, 0), 1);
        Kit.refused(x, "not in it", x.guilt(0, 2), 1);
        Kit.refused(x, "not in it", x.guilt(9, 31), 1);
        Kit.refused(x, "no such set", x.guilt(0, 1025), 1);
        Kit.refused(x, "no such set", x.guilt(0, -1), 1);
        Kit.refused(x, "no such set", x.guilt(0, LEAST + 1), 1);
        int[] doors = {-1, 10, 32, LEAST, MOST};
        for (int d : doors) {
            Kit.refused(x, "no such DOOR", x.guilt(d, 1), 1);
        }
        Kit.due("the FRACTION is kept", x.top() * 10 + x.bottom(), 41);
        DryDoors two = Kit.of(SHARED);
        Kit.refused(two, "DOOR 4 of 4", two.guilt(4, 16), 1);
        Kit.refused(two, "a set with a fifth of 4", two.guilt(0, 17), 1);
    }

    // ---- promises 64 to 67

    private static void printInTwelve() {
        Kit.sentence("3.: PRINT of a DOOR: the MARKS on all WALLS in 12 HOURS, WIPED now, if just that DOOR is OPEN all the "
                + "time");
        DryDoors x = Kit.of("room a floor 0 area 2;room b floor 0 area 3 water 8;door p from sea to a sill 9;"
                + "door q from sea to a sill 8 leaks 1;rota 3 q;");
        x.hold(1, true);
        x.hour(1);
        x.bail(1, 5);
        x.wall(1, true);
        x.bail(0, 2);
        x.tray(0, 3, 2);
        Kit.fine(x, "print", x.print(0, 0), 2);
        Kit.fine(x, "12 by 2", x.read(0, 0), 6);
        Kit.fine(x, "1, though there was 2 ahead", x.read(0, 1), 1);
        x.wall(1, false);
        Kit.fine(x, "print", x.print(0, 0), 2);
        // 2 an HOUR are 20 by 2 at the end of the tenth; then nothing comes any more
        Kit.fine(x, "q leaks as well", x.read(0, 0), 10);
        Kit.fine(x, "the WALLS are as they were", x.room(1, 7), 2);
        x.moon(0, 9);
        x.wall(1, true);
        Kit.fine(x, "print", x.print(0, 0), 2);
        Kit.fine(x, "11 by 2 in 12 HOURS", x.read(0, 0), 5);
    }

    private static void printRoomByRoom() {
        Kit.sentence("Promise 64: PRINT comes to a TRAY, ROOM by ROOM: how many");
        DryDoors x = Kit.of(Kit.parts(7, "room # floor 0;") + "door p from sea to g sill 7;door q from sea to a sill 5;");
        x.tray(1, 2, 8);
        for (int i = 0; i < 8; i++) {
            x.write(1, i, 50 + i);
        }
        Kit.fine(x, "how many", x.print(0, 1), 7);
        for (int i = 0; i < 6; i++) {
            Kit.fine(x, "place " + i, x.read(1, i), 0);
        }
        Kit.fine(x, "place 6", x.read(1, 6), 10);
        Kit.fine(x, "place 7 is as it was", x.read(1, 7), 57);
        Kit.fine(x, "how many", x.print(1, 1), 7);
        Kit.fine(x, "place 0", x.read(1, 0), 10);
        Kit.fine(x, "place 6", x.read(1, 6), 0);
    }

    private static void printStatuses() {
        Kit.sentence("Promise 64: (1; 2; 3), the first that holds");
        DryDoors x = Kit.of("room a floor 0;room b floor 0;door p from sea to a sill 5;");
        x.tray(0, 0, 2);
        x.tray(1, 0, 1);
        x.tray(2, 0, 0);
        int[] doors = {-1, 1, 10, LEAST, MOST};
        for (int d : doors) {
            Kit.refused(x, "DOOR " + d, x.print(d, 0), 1);
            Kit.refused(x, "DOOR " + d + ", MISSING", x.print(d, 3), 1);
            Kit.refused(x, "DOOR " + d + ", too few", x.print(d, 1), 1);
        }
        int[] trays = {-1, 4, LEAST, MOST};
        for (int t : trays) {
            Kit.refused(x, "TRAY " + t, x.print(0, t), 1);
        }
        Kit.refused(x, "MISSING", x.print(0, 3), 2);
        Kit.refused(x, "one too few", x.print(0, 1), 3);
        Kit.refused(x, "none", x.print(0, 2), 3);
        Kit.fine(x, "just enough", x.print(0, 0), 2);
        Kit.fine(x, "nothing came by those refused", x.read(1, 0), 0);
    }

    private static void printIsCut() {
        Kit.sentence("Promise 64: PRINT comes to a TRAY: cut to its sort");
        DryDoors x = Kit.of("room a floor 0 water 128;room b floor 0 water 127;room c floor 0;"
                + "door p from sea to c sill 99;");
        x.tray(0, 0, 3);
        x.tray(1, 1, 3);
        x.print(0, 0);
        x.print(0, 1);
        Kit.fine(x, "128 in 8 bits", x.read(0, 0), -128);
        Kit.fine(x, "127 in 8 bits", x.read(0, 1), 127);
        Kit.fine(x, "128 in 16 bits", x.read(1, 0), 128);
    }

    private static DryDoors suspected() {
        // PRINTS: p, q, r 10 0; s 0 9 (39 by 4: 5 five times, then 4, 3, 2, 2, 1, 1, 1); t 0 0
        return Kit.of("room a floor 0;room b floor 0 area 4;door p from sea to a sill 5;door q from sea to a sill 6;"
                + "door r from sea to a sill 5;door s from sea to b sill 5;door t from a to b sill 0;");
    }

    private static void suspects() {
        Kit.sentence("3.: SUSPECTS by a TRAY (ROOM by ROOM): DOORS, not WALLED, with just that PRINT");
        DryDoors x = suspected();
        x.tray(0, 1, 3);
        x.write(0, 0, 10);
        x.write(0, 2, 99);
        // q: 4, 4 and 2
        Kit.fine(x, "p, q, r; what is behind the ROOMS does not matter", x.suspects(0), 7);
        x.wall(0, true);
        Kit.fine(x, "p is WALLED", x.suspects(0), 6);
        x.write(0, 1, 1);
        Kit.fine(x, "none", x.suspects(0), 0);
        x.write(0, 0, 0);
        x.write(0, 1, 0);
        Kit.fine(x, "t, not p that is WALLED", x.suspects(0), 16);
        x.write(0, 1, 9);
        Kit.fine(x, "s", x.suspects(0), 8);
        x.write(0, 1, 8);
        Kit.fine(x, "one less", x.suspects(0), 0);
        x.write(0, 1, 10);
        Kit.fine(x, "one more", x.suspects(0), 0);
    }

    private static void suspectsStatuses() {
        Kit.sentence("Promise 65: (1; 2; 3)");
        DryDoors x = suspected();
        int[] trays = {-1, 4, LEAST, MOST};
        for (int t : trays) {
            Kit.refused(x, "TRAY " + t, x.suspects(t), 1);
        }
        Kit.refused(x, "MISSING", x.suspects(2), 2);
        x.tray(2, 3, 1);
        Kit.refused(x, "one too few", x.suspects(2), 3);
        x.tray(2, 3, 0);
        Kit.refused(x, "none", x.suspects(2), 3);
        x.tray(2, 3, 2);
        Kit.fine(x, "just enough: t", x.suspects(2), 16);
        DryDoors none = new DryDoors();
        Kit.refused(none, "MISSING, no ROOMS", none.suspects(0), 2);
        none.tray(0, 0, 0);
        Kit.fine(none, "no ROOMS: none are enough, no DOORS", none.suspects(0), 0);
    }

    private static void telling() {
        Kit.sentence("3.: TELLING: the ROOM in whose MARKS the most unlike ones are, of several the first");
        DryDoors x = suspected();
        // a: 10 and 0; b: 9 and 0
        Kit.fine(x, "two each", x.telling(), 0);
        x.raise(0, 5);
        x.raise(1, 4);
        x.raise(2, 5);
        // nothing comes into a by p and q and r any more
        Kit.fine(x, "b", x.telling(), 1);
        x.raise(1, -1);
        // by q 10 at the end of the tenth HOUR
        Kit.fine(x, "two each again", x.telling(), 0);
        DryDoors none = new DryDoors();
        Kit.refused(none, "no ROOMS", none.telling(), 6);
        DryDoors noDoors = Kit.of("room a floor 0 water 3;room b floor 0 water 4;");
        Kit.fine(noDoors, "no DOORS: the first", noDoors.telling(), 0);
    }

    private static void unlikeMarks() {
        Kit.sentence("Promise 67: how many unlike MARKS of a ROOM there are in all PRINTS of DOORS that are not WALLED (1)");
        DryDoors x = suspected();
        Kit.fine(x, "10 and 0", x.prints(0), 2);
        Kit.fine(x, "9 and 0", x.prints(1), 2);
        x.wall(4, true);
        x.wall(3, true);
        Kit.fine(x, "10", x.prints(0), 1);
        Kit.fine(x, "0", x.prints(1), 1);
        for (int d = 0; d < 3; d++) {
            x.wall(d, true);
        }
        Kit.fine(x, "all are WALLED", x.prints(0), 0);
        Kit.fine(x, "telling of no PRINTS: the first", x.telling(), 0);
        int[] rooms = {-1, 2, 7, LEAST, MOST};
        for (int r : rooms) {
            Kit.refused(x, "ROOM " + r, x.prints(r), 1);
        }
        DryDoors no = Kit.of("room a floor 0;");
        Kit.fine(no, "no DOORS", no.prints(0), 0);
    }

    private static void tenUnlikeMarks() {
        Kit.sentence("Promise 67: .. of all 10 DOORS there may be; Promise 66: the most of them");
        StringBuilder land = new StringBuilder("room b floor 0;room a floor 0 area 12;door c from sea to a sill 10;");
        for (int wide = 1; wide <= 9; wide++) {
            land.append("door ").append((char) ('c' + wide)).append(" from sea to a sill 9 wide ").append(wide).append(";");
        }
        DryDoors x = Kit.of(land.toString());
        // 12 times WIDE by 12: 0 to 9
        Kit.fine(x, "0 to 9", x.prints(1), 10);
        Kit.fine(x, "0", x.prints(0), 1);
        Kit.fine(x, "telling", x.telling(), 1);
        x.tray(0, 0, 2);
        x.write(0, 1, 9);
        Kit.fine(x, "the last DOOR", x.suspects(0), 512);
    }

    public static void main(String[] args) {
        noRowLeads();
        walledAlreadyAre();
        fewestAhead();
        allTenDoors();
        noSuchRoom();
        fromTo();
        mayShareAnHour();
        nextTwelve();
        fewestDrownedAhead();
        drownedNowToo();
        firstByErrands();
        handsCount();
        whatOfThePlan();
        hoursOfErrands();
        zeroToTwelve();
        allOfThemOrNone();
        setOfHoursOfTheDay();
        sets();
        justTheseAreOpen();
        meanOfAllOrders();
        oneToFiveDoors();
        printInTwelve();
        printRoomByRoom();
        printStatuses();
        printIsCut();
        suspects();
        suspectsStatuses();
        telling();
        unlikeMarks();
        tenUnlikeMarks();
        Kit.end("edges of plans");
    }
}
