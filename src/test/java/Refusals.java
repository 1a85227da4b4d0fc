/**
 * Section 5: with another STATUS than 0 a call gives NONE, or false, and changes nothing else. Two objects come to the
 * same state; one of them is asked a call that is refused; behind it both must answer all further calls alike.
 */
public final class Refusals {
    private static final int LEAST = Integer.MIN_VALUE;
    private static final int MOST = Integer.MAX_VALUE;

    private interface State {
        DryDoors made();
    }

    private interface Call {
        long of(DryDoors x);
    }

    private interface YesNo {
        boolean of(DryDoors x);
    }

    /** Something of everything: WATER, DROWNED, held, WALLED, NIGHTS, MARKS, TRAYS, a FRACTION, a FAULT, a tape. */
    private static DryDoors busyWithoutTape() {
        DryDoors x = new DryDoors();
        Kit.land(x, "room a floor 0 area 2 bears 3 water 9;room b floor 5;room c floor 50 water 3;"
                + "door p from sea to a sill 5 leaks 1;door q from a to b sill 3 wide 2;door r from c to sea sill 50;"
                + "tide 4 7;pump b 2;rota 1 p;errand e by p from 1 to 3;errand f by q from 0 to 11;");
        Kit.nights(x, "any;hour 2;when wet a;bail a 1;bail b 900;end;open p;");
        x.tray(0, 1, 3);
        x.write(0, 0, 7);
        x.write(0, 2, -1);
        x.tray(1, 0, 2);
        x.write(1, 1, 5);
        x.tray(2, 2, 0);
        x.hour(1);
        x.hold(1, true);
        x.mark();
        x.wall(2, true);
        x.live(7);
        x.mark();
        x.hour(3);
        x.guilt(0, 3);
        Kit.nights(x, "hour!");
        return x;
    }

    private static DryDoors busy() {
        DryDoors x = busyWithoutTape();
        Kit.onTape(x, "room z floor 7;tide ");
        return x;
    }

    private static DryDoors fullOfMarks() {
        DryDoors x = busy();
        x.hour(2);
        x.mark();
        x.hour(1);
        return x;
    }

    private static DryDoors atTheLastHour() {
        DryDoors x = busy();
        Kit.goTo(x, 9990);
        return x;
    }

    private static DryDoors fullTape() {
        DryDoors x = busy();
        for (int i = 0; i < 44; i++) {
            x.feed(0x20202020, 0x20202020, 0x20202020, 0x20202020, 0x20202020);
        }
        return x;
    }

    private static DryDoors fresh() {
        return new DryDoors();
    }

    private static DryDoors dry() {
        DryDoors x = new DryDoors();
        Kit.land(x, "room a floor 0 area 5 water 4;room b floor 0;door p from sea to a sill 50;door q from sea to b sill 50;"
                + "tide 3 9;");
        x.wall(1, true);
        x.tray(0, 0, 1);
        return x;
    }

    /** ROOM 0 is DROWNED in the first HOUR and WET for all time. */
    private static DryDoors lost() {
        DryDoors x = new DryDoors();
        Kit.land(x, "room a floor 0 bears 1 water 5;door p from sea to a sill 5;");
        x.hold(0, true);
        return x;
    }

    private static DryDoors lostAlready() {
        DryDoors x = lost();
        x.hour(1);
        return x;
    }

    private static DryDoors withoutRoomsButNights() {
        DryDoors x = new DryDoors();
        Kit.nights(x, "any;hour 1;");
        return x;
    }

    // ---- all that can be asked

    private static void add(StringBuilder all, DryDoors x, long answer) {
        all.append(answer).append('/').append(x.status()).append(' ');
    }

    private static void addLand(StringBuilder all, DryDoors x) {
        for (int what = 0; what < 10; what++) {
            add(all, x, x.told(what));
        }
        for (int r = 0; r < 7; r++) {
            for (int what = 0; what < 8; what++) {
                add(all, x, x.room(r, what));
            }
        }
        for (int d = 0; d < 10; d++) {
            for (int what = 0; what < 6; what++) {
                add(all, x, x.door(d, what));
            }
        }
        for (int e = 0; e < 4; e++) {
            for (int what = 0; what < 3; what++) {
                add(all, x, x.errand(e, what));
            }
        }
        for (int h = 0; h < 12; h++) {
            add(all, x, x.tide(h));
        }
    }

    private static void addTrays(StringBuilder all, DryDoors x) {
        for (int t = 0; t < 4; t++) {
            for (int i = 0; i < 4; i++) {
                add(all, x, x.read(t, i));
            }
        }
    }

    private static void addLife(StringBuilder all, DryDoors x) {
        for (int what = 0; what < 5; what++) {
            add(all, x, x.lived(what));
        }
    }

    private static String everything(DryDoors x) {
        StringBuilder all = new StringBuilder();
        all.append(x.top()).append(' ').append(x.bottom()).append(' ');
        all.append(x.fault(0)).append(' ').append(x.fault(1)).append(' ');
        addLand(all, x);
        addTrays(all, x);
        addLife(all, x);
        add(all, x, x.allLater(5));
        add(all, x, x.live(3));
        addLife(all, x);
        addLand(all, x);
        for (int i = 0; i < 4; i++) {
            add(all, x, x.undo());
            addLand(all, x);
            add(all, x, x.live(1));
            addLife(all, x);
        }
        all.append(x.feed(0x20202020, 0x20202020, 0x20202020, 0x20202020, 0x20202020)).append(' ');
        add(all, x, x.land(15));
        all.append(x.fault(0)).append(' ').append(x.fault(1)).append(' ');
        addLand(all, x);
        return all.toString();
    }

    /** Tells the first answer that is another one, not them all. */
    private static void dueAlike(String what, String got, String want) {
        String[] g = got.split(" ");
        String[] w = want.split(" ");
        int first = 0;
        while (first < g.length && first < w.length && g[first].equals(w[first])) {
            first++;
        }
        Kit.due(what + ": behind it answer " + first, first < g.length ? g[first] : "none",
                first < w.length ? w[first] : "none");
    }

    private static void dueRefused(State state, String what, int status, Call call) {
        DryDoors x = state.made();
        Kit.due(what, call.of(x), DryDoors.NONE);
        Kit.due(what + ": status", x.status(), status);
        dueAlike(what, everything(x), everything(state.made()));
    }

    private static void dueNot(State state, String what, int status, YesNo call) {
        DryDoors x = state.made();
        Kit.due(what, call.of(x), false);
        Kit.due(what + ": status", x.status(), status);
        dueAlike(what, everything(x), everything(state.made()));
    }

    // ---- what is refused, call by call

    private static void trays() {
        Kit.sentence("5., promises 5 to 8: a refused call changes nothing");
        for (int t : new int[] {-1, 4, LEAST, MOST}) {
            dueNot(Refusals::busy, "tray " + t, 1, x -> x.tray(t, 0, 1));
            dueNot(Refusals::busy, "write " + t, 1, x -> x.write(t, 0, 9));
            dueRefused(Refusals::busy, "read " + t, 1, x -> x.read(t, 0));
            dueNot(Refusals::busy, "pour from " + t, 1, x -> x.pour(t, 0, 1, 0, 1));
            dueNot(Refusals::busy, "pour to " + t, 1, x -> x.pour(1, 0, t, 0, 1));
        }
        dueNot(Refusals::busy, "sort -1", 1, x -> x.tray(0, -1, 1));
        dueNot(Refusals::busy, "sort 4", 1, x -> x.tray(0, 4, 1));
        dueNot(Refusals::busy, "many -1", 1, x -> x.tray(3, 0, -1));
        dueNot(Refusals::busy, "many 61", 1, x -> x.tray(3, 0, 61));
        dueNot(Refusals::busy, "write MISSING", 2, x -> x.write(3, 0, 9));
        dueRefused(Refusals::busy, "read MISSING", 2, x -> x.read(3, 0));
        for (int i : new int[] {-1, 3, LEAST, MOST}) {
            dueNot(Refusals::busy, "write place " + i, 3, x -> x.write(0, i, 9));
            dueRefused(Refusals::busy, "read place " + i, 3, x -> x.read(0, i));
        }
        dueNot(Refusals::busy, "pour place -1", 1, x -> x.pour(0, -1, 0, 1, 1));
        dueNot(Refusals::busy, "pour at -1", 1, x -> x.pour(0, 0, 0, -1, 1));
        dueNot(Refusals::busy, "pour many -1", 1, x -> x.pour(0, 0, 0, 1, -1));
        dueNot(Refusals::busy, "pour from MISSING", 2, x -> x.pour(3, 0, 0, 0, 1));
        dueNot(Refusals::busy, "pour to MISSING", 2, x -> x.pour(0, 0, 3, 0, 1));
        dueNot(Refusals::busy, "pour unlike", 8, x -> x.pour(0, 0, 1, 0, 1));
        dueNot(Refusals::busy, "pour too many", 3, x -> x.pour(0, 1, 0, 0, 3));
        dueNot(Refusals::busy, "pour too far", 3, x -> x.pour(0, 0, 0, 2, 2));
    }

    private static void texts() {
        Kit.sentence("5., promises 9 to 11: a refused call changes nothing");
        for (int n : new int[] {-1, 21, 901, LEAST, MOST}) {
            dueRefused(Refusals::busy, "land " + n, 1, x -> x.land(n));
            dueRefused(Refusals::busy, "nights " + n, 1, x -> x.nights(n));
        }
        dueRefused(Refusals::fullTape, "land 901", 1, x -> x.land(901));
        dueRefused(Refusals::fullTape, "nights 301", 1, x -> x.nights(301));
        dueRefused(Refusals::fullTape, "nights 900", 1, x -> x.nights(900));
        DryDoors full = fullTape();
        full.status();
        Kit.due("feed of a full tape", full.feed(0, 0, 0, 0, 0), -1);
        dueAlike("feed of a full tape", everything(full), everything(fullTape()));
    }

    private static void faults() {
        Kit.sentence("5.: .. changes nothing else (but land(), nights() with 9 the tape, and what fault() tells)");
        String want = everything(busyWithoutTape());
        String[] texts = {"!", "room z floor 7", "room z floor 100;", "room z floor 7;room z", "any;hour", "any;any;end;",
            "open nobody;", "bail a 1000;"};
        for (String text : texts) {
            DryDoors land = busyWithoutTape();
            Kit.refused(land, "land of " + text, Kit.land(land, text), 9);
            Kit.refused(land, "the tape is empty", land.land(1), 1);
            Kit.nights(land, "hour!");
            dueAlike("land of " + text, everything(land), want);
            DryDoors nights = busyWithoutTape();
            Kit.refused(nights, "nights of " + text, Kit.nights(nights, text), 9);
            Kit.refused(nights, "the tape is empty", nights.nights(1), 1);
            Kit.nights(nights, "hour!");
            dueAlike("nights of " + text, everything(nights), want);
        }
    }

    private static void told() {
        Kit.sentence("5., promises 13 to 17: a refused call changes nothing");
        for (int i : new int[] {-1, 10, LEAST, MOST}) {
            dueRefused(Refusals::busy, "told " + i, 1, x -> x.told(i));
            dueRefused(Refusals::busy, "room " + i, 1, x -> x.room(i, 4));
            dueRefused(Refusals::busy, "room what " + i, 1, x -> x.room(0, i));
            dueRefused(Refusals::busy, "door " + i, 1, x -> x.door(i, 2));
            dueRefused(Refusals::busy, "door what " + i, 1, x -> x.door(0, i));
            dueRefused(Refusals::busy, "errand " + i, 1, x -> x.errand(i, 0));
            dueRefused(Refusals::busy, "errand what " + i, 1, x -> x.errand(0, i));
        }
        dueRefused(Refusals::busy, "room 3 of 3", 1, x -> x.room(3, 0));
        dueRefused(Refusals::busy, "door 3 of 3", 1, x -> x.door(3, 0));
        dueRefused(Refusals::busy, "errand 2 of 2", 1, x -> x.errand(2, 0));
        dueRefused(Refusals::busy, "tide -1", 1, x -> x.tide(-1));
        dueRefused(Refusals::busy, "tide 12", 1, x -> x.tide(12));
    }

    private static void water() {
        Kit.sentence("5., promises 18 to 26: a refused call changes nothing");
        for (int i : new int[] {-1, 3, LEAST, MOST}) {
            dueRefused(Refusals::busy, "drive " + i, 1, x -> x.drive(i));
            dueRefused(Refusals::busy, "flow " + i, 1, x -> x.flow(i));
            dueRefused(Refusals::busy, "flowOpen " + i, 1, x -> x.flowOpen(i));
            dueRefused(Refusals::busy, "spare " + i, 1, x -> x.spare(i));
            dueRefused(Refusals::busy, "high " + i, 1, x -> x.high(i));
            dueRefused(Refusals::busy, "linked " + i, 1, x -> x.linked(i));
        }
        dueRefused(Refusals::dry, "deepest", 6, x -> x.deepest());
        dueRefused(Refusals::dry, "busiest", 6, x -> x.busiest());
    }

    private static void deeds() {
        Kit.sentence("5., promises 27 to 36: a refused call changes nothing");
        for (int many : new int[] {0, -1, 100, LEAST, MOST}) {
            dueRefused(Refusals::busy, "hour " + many, 1, x -> x.hour(many));
        }
        dueRefused(Refusals::atTheLastHour, "hour 10", 4, x -> x.hour(10));
        dueRefused(Refusals::atTheLastHour, "hour 99", 4, x -> x.hour(99));
        dueRefused(Refusals::atTheLastHour, "hour 100", 1, x -> x.hour(100));
        for (int i : new int[] {-1, 3, LEAST, MOST}) {
            dueNot(Refusals::busy, "hold " + i, 1, x -> x.hold(i, true));
            dueNot(Refusals::busy, "wall " + i, 1, x -> x.wall(i, true));
            dueRefused(Refusals::busy, "bail of " + i, 1, x -> x.bail(i, 1));
            dueNot(Refusals::busy, "rota of " + i, 1, x -> x.rota(0, i, true));
            dueNot(Refusals::busy, "pump of " + i, 1, x -> x.pump(i, 3));
            dueRefused(Refusals::busy, "raise " + i, 1, x -> x.raise(i, 1));
            dueRefused(Refusals::busy, "build " + i, 1, x -> x.build(i));
        }
        dueNot(Refusals::busy, "hold what is not", 7, x -> x.hold(2, false));
        dueNot(Refusals::fullOfMarks, "hold what is", 7, x -> x.hold(0, true));
        dueNot(Refusals::busy, "wall what is not", 7, x -> x.wall(0, false));
        dueNot(Refusals::busy, "wall what is", 7, x -> x.wall(2, true));
        for (int n : new int[] {0, -1, 1000, LEAST, MOST}) {
            dueRefused(Refusals::busy, "bail " + n, 1, x -> x.bail(0, n));
        }
        dueRefused(Refusals::busy, "bail 999", 7, x -> x.bail(0, 999));
        for (int h : new int[] {-1, 12, LEAST, MOST}) {
            dueNot(Refusals::busy, "rota " + h, 1, x -> x.rota(h, 0, true));
            dueNot(Refusals::busy, "moon " + h, 1, x -> x.moon(h, 3));
        }
        dueNot(Refusals::busy, "rota of what is", 7, x -> x.rota(1, 0, true));
        dueNot(Refusals::busy, "rota of what is not", 7, x -> x.rota(0, 0, false));
        for (int much : new int[] {-1, 100, LEAST, MOST}) {
            dueNot(Refusals::busy, "moon of " + much, 1, x -> x.moon(3, much));
            dueNot(Refusals::busy, "pump " + much, 1, x -> x.pump(1, much));
        }
        for (int much : new int[] {-100, 100, LEAST, MOST}) {
            dueRefused(Refusals::busy, "raise by " + much, 1, x -> x.raise(0, much));
        }
        dueRefused(Refusals::busy, "raise below 0", 7, x -> x.raise(0, -6));
        dueRefused(Refusals::busy, "raise above 99", 7, x -> x.raise(0, 95));
        dueRefused(Refusals::busy, "build what is not", 7, x -> x.build(1));
    }

    private static void foresight() {
        Kit.sentence("5., promises 37 to 55: a refused call changes nothing");
        for (int i : new int[] {-1, 3, LEAST, MOST}) {
            dueRefused(Refusals::busy, "later of " + i, 1, x -> x.later(i, 3));
            dueRefused(Refusals::busy, "wetIn " + i, 1, x -> x.wetIn(i));
            dueRefused(Refusals::busy, "drownsIn " + i, 1, x -> x.drownsIn(i));
            dueRefused(Refusals::busy, "fails " + i, 1, x -> x.fails(i));
            dueRefused(Refusals::busy, "sillFor " + i, 1, x -> x.sillFor(i));
            dueRefused(Refusals::busy, "through of " + i, 1, x -> x.through(i, 3));
            dueRefused(Refusals::busy, "greatest of " + i, 1, x -> x.greatest(i, 3));
            dueRefused(Refusals::busy, "bestHour " + i, 1, x -> x.bestHour(i));
            dueRefused(Refusals::busy, "pumpFor " + i, 1, x -> x.pumpFor(i));
            dueRefused(Refusals::busy, "gain " + i, 1, x -> x.gain(i));
            dueRefused(Refusals::busy, "bailFor of " + i, 1, x -> x.bailFor(i, 3));
        }
        for (int i : new int[] {-1, 100, LEAST, MOST}) {
            dueRefused(Refusals::busy, "later " + i, 1, x -> x.later(0, i));
            dueRefused(Refusals::busy, "allLater " + i, 1, x -> x.allLater(i));
            dueRefused(Refusals::busy, "through " + i, 1, x -> x.through(0, i));
            dueRefused(Refusals::busy, "greatest " + i, 1, x -> x.greatest(0, i));
            dueRefused(Refusals::busy, "pumpAt " + i, 1, x -> x.pumpAt(i));
            dueRefused(Refusals::busy, "siege " + i, 1, x -> x.siege(i));
            dueRefused(Refusals::busy, "bailFor " + i, 1, x -> x.bailFor(0, i));
        }
        dueRefused(Refusals::busy, "pumpAt 0", 1, x -> x.pumpAt(0));
        dueRefused(Refusals::busy, "bailFor 0", 1, x -> x.bailFor(0, 0));
        dueRefused(Refusals::busy, "bailFor 25", 1, x -> x.bailFor(0, 25));
    }

    private static void foresightOfNone() {
        Kit.sentence("5., promises 39 to 55: a call that finds none such changes nothing");
        dueRefused(Refusals::dry, "wetIn", 6, x -> x.wetIn(0));
        dueRefused(Refusals::dry, "drownsIn", 6, x -> x.drownsIn(0));
        dueRefused(Refusals::dry, "firstDrowned", 6, x -> x.firstDrowned());
        dueRefused(Refusals::dry, "twoWalls", 6, x -> x.twoWalls());
        dueRefused(Refusals::fresh, "worst", 6, x -> x.worst());
        dueRefused(Refusals::fresh, "pumpAt", 6, x -> x.pumpAt(1));
        dueRefused(Refusals::lost, "dryIn", 6, x -> x.dryIn());
        dueRefused(Refusals::lost, "sillFor", 6, x -> x.sillFor(0));
        dueRefused(Refusals::lostAlready, "pumpFor", 6, x -> x.pumpFor(0));
        dueRefused(Refusals::lost, "bailFor", 6, x -> x.bailFor(0, 24));
        dueRefused(Refusals::lost, "borne", 6, x -> x.borne());
    }

    private static void plans() {
        Kit.sentence("5., promises 56 to 67: a refused call changes nothing");
        for (int i : new int[] {-1, 3, LEAST, MOST}) {
            dueRefused(Refusals::busy, "keep " + i, 1, x -> x.keep(i));
            dueRefused(Refusals::busy, "keepSet " + i, 1, x -> x.keepSet(i));
            dueRefused(Refusals::busy, "plan " + i, 1, x -> x.plan(i));
            dueRefused(Refusals::busy, "planned " + i, 1, x -> x.planned(i));
            dueNot(Refusals::busy, "guilt of " + i, 1, x -> x.guilt(i, 3));
            dueRefused(Refusals::busy, "print of " + i, 1, x -> x.print(i, 0));
            dueRefused(Refusals::busy, "prints " + i, 1, x -> x.prints(i));
        }
        for (int i : new int[] {-1, 13, LEAST, MOST}) {
            dueRefused(Refusals::busy, "save " + i, 1, x -> x.save(i));
            dueRefused(Refusals::busy, "saveSet " + i, 1, x -> x.saveSet(i));
            dueRefused(Refusals::busy, "damage " + i, 1, x -> x.damage(i));
            dueNot(Refusals::busy, "guilt " + i, 1, x -> x.guilt(0, i));
        }
        dueRefused(Refusals::busy, "planned 2 of 2", 1, x -> x.planned(2));
        dueRefused(Refusals::busy, "damage 8 of 3", 1, x -> x.damage(8));
        dueNot(Refusals::busy, "guilt of none", 1, x -> x.guilt(0, 0));
        dueNot(Refusals::busy, "guilt of others", 1, x -> x.guilt(0, 6));
        dueRefused(Refusals::fresh, "plan 0", 6, x -> x.plan(0));
        dueRefused(Refusals::fresh, "telling", 6, x -> x.telling());
        for (int t : new int[] {-1, 4, LEAST, MOST}) {
            dueRefused(Refusals::busy, "print to " + t, 1, x -> x.print(0, t));
            dueRefused(Refusals::busy, "suspects " + t, 1, x -> x.suspects(t));
        }
        dueRefused(Refusals::busy, "print to MISSING", 2, x -> x.print(0, 3));
        dueRefused(Refusals::busy, "suspects MISSING", 2, x -> x.suspects(3));
        dueRefused(Refusals::busy, "print to too few", 3, x -> x.print(0, 1));
        dueRefused(Refusals::busy, "suspects by too few", 3, x -> x.suspects(1));
    }

    private static DryDoors moreDoors() {
        DryDoors x = new DryDoors();
        Kit.land(x, "room a floor 0;" + Kit.parts(5, "door # from sea to a sill 9;", 'p')
                + Kit.parts(3, "errand # by p from 1 to 2;", 'x'));
        return x;
    }

    private static DryDoors moreRooms() {
        DryDoors x = new DryDoors();
        Kit.land(x, Kit.parts(5, "room # floor 0;") + "door p from sea to a sill 9;"
                + Kit.parts(3, "errand # by p from 1 to 2;", 'x'));
        x.tray(0, 0, 60);
        return x;
    }

    private static void noSuchRoomThoughADoor() {
        Kit.sentence("5.: 1: no such ROOM (there are fewer of them than DOORS and ERRANDS)");
        for (int i = 1; i < 5; i++) {
            int r = i;
            Call[] calls = {x -> x.room(r, 0), x -> x.spare(r), x -> x.linked(r), x -> x.bail(r, 1), x -> x.build(r),
                x -> x.later(r, 1), x -> x.wetIn(r), x -> x.drownsIn(r), x -> x.greatest(r, 1), x -> x.pumpFor(r),
                x -> x.bailFor(r, 1), x -> x.keep(r), x -> x.keepSet(r), x -> x.prints(r)};
            for (int c = 0; c < calls.length; c++) {
                dueRefused(Refusals::moreDoors, "call " + c + " of ROOM " + r, 1, calls[c]);
            }
            dueNot(Refusals::moreDoors, "pump of ROOM " + r, 1, x -> x.pump(r, 1));
        }
    }

    private static void noSuchDoorThoughARoom() {
        Kit.sentence("5.: 1: no such DOOR (there are fewer of them than ROOMS and ERRANDS)");
        for (int i = 1; i < 5; i++) {
            int d = i;
            Call[] calls = {x -> x.door(d, 2), x -> x.drive(d), x -> x.flow(d), x -> x.flowOpen(d), x -> x.high(d),
                x -> x.raise(d, 1), x -> x.fails(d), x -> x.sillFor(d), x -> x.through(d, 1), x -> x.bestHour(d),
                x -> x.gain(d), x -> x.damage(1 << d), x -> x.print(d, 0)};
            for (int c = 0; c < calls.length; c++) {
                dueRefused(Refusals::moreRooms, "call " + c + " of DOOR " + d, 1, calls[c]);
            }
            dueNot(Refusals::moreRooms, "hold " + d, 1, x -> x.hold(d, true));
            dueNot(Refusals::moreRooms, "wall " + d, 1, x -> x.wall(d, true));
            dueNot(Refusals::moreRooms, "rota of " + d, 1, x -> x.rota(0, d, true));
            dueNot(Refusals::moreRooms, "guilt of " + d, 1, x -> x.guilt(d, 1 << d));
        }
        dueRefused(Refusals::moreRooms, "errand 3", 1, x -> x.errand(3, 0));
        dueRefused(Refusals::moreRooms, "planned 3", 1, x -> x.planned(3));
        dueRefused(Refusals::moreDoors, "errand 3", 1, x -> x.errand(3, 0));
        dueRefused(Refusals::moreDoors, "planned 3", 1, x -> x.planned(3));
    }

    /** The last one of each there is, where there are fewer of the others. */
    private static void lastOnes() {
        Kit.sentence("5.: STATUS 0 of the last ROOM, DOOR, ERRAND");
        Call[] ofRooms = {x -> x.room(4, 0), x -> x.spare(4), x -> x.linked(4), x -> x.later(4, 1), x -> x.greatest(4, 1),
            x -> x.pumpFor(4), x -> x.bailFor(4, 1), x -> x.keep(4), x -> x.keepSet(4), x -> x.prints(4), x -> x.errand(2, 0),
            x -> x.planned(2)};
        long[] dueOfRooms = {0, 10, 16, 0, 0, 0, 0, 0, 0, 1, 0, 1};
        for (int c = 0; c < ofRooms.length; c++) {
            DryDoors x = moreRooms();
            Kit.fine(x, "call " + c + " of ROOM 4", ofRooms[c].of(x), dueOfRooms[c]);
        }
        Call[] ofDoors = {x -> x.door(4, 2), x -> x.drive(4), x -> x.flow(4), x -> x.flowOpen(4), x -> x.high(4),
            x -> x.raise(4, 1), x -> x.fails(4), x -> x.sillFor(4), x -> x.through(4, 1), x -> x.bestHour(4), x -> x.gain(4),
            x -> x.damage(16), x -> x.errand(2, 0), x -> x.planned(2)};
        // by one DOOR alone 1 comes in an HOUR, 10 in all, which are borne
        long[] dueOfDoors = {9, 1, 0, 1, 4095, 10, 0, 0, 0, 0, 0, 10, 0, 1};
        for (int c = 0; c < ofDoors.length; c++) {
            DryDoors x = moreDoors();
            Kit.fine(x, "call " + c + " of DOOR 4", ofDoors[c].of(x), dueOfDoors[c]);
        }
    }

    private static void nightsAndMarks() {
        Kit.sentence("5., promises 68 to 72: a refused call changes nothing");
        for (int i : new int[] {-1, 10000, LEAST, MOST}) {
            dueRefused(Refusals::busy, "live " + i, 1, x -> x.live(i));
            dueRefused(Refusals::busy, "lived " + i, 1, x -> x.lived(i));
            dueNot(Refusals::busy, "mean " + i, 1, x -> x.mean(i, 1));
            dueNot(Refusals::busy, "mean of so many " + i, 1, x -> x.mean(0, i));
        }
        dueRefused(Refusals::busy, "lived 5", 1, x -> x.lived(5));
        dueNot(Refusals::busy, "mean of none", 1, x -> x.mean(0, 0));
        dueNot(Refusals::busy, "mean of 21", 1, x -> x.mean(0, 21));
        dueNot(Refusals::busy, "mean to 10,000", 1, x -> x.mean(9981, 20));
        dueRefused(Refusals::dry, "live", 6, x -> x.live(0));
        dueNot(Refusals::dry, "mean", 6, x -> x.mean(0, 1));
        dueRefused(Refusals::withoutRoomsButNights, "lived", 6, x -> x.lived(0));
        dueRefused(Refusals::fullOfMarks, "mark", 4, x -> x.mark());
        dueRefused(Refusals::dry, "undo", 6, x -> x.undo());
    }

    /** Calls that only tell something, and are not refused. */
    private static void askedOnly() {
        Kit.sentence("3.: what would be, and what is told, changes nothing but STATUS");
        Call[] calls = {x -> x.deepest(), x -> x.busiest(), x -> x.low(), x -> x.high(0), x -> x.linked(0), x -> x.spare(1),
            x -> x.drive(0), x -> x.flow(0), x -> x.flowOpen(2), x -> x.later(0, 99), x -> x.allLater(99), x -> x.wetIn(1),
            x -> x.drownsIn(1), x -> x.dryIn(), x -> x.fails(0), x -> x.worst(), x -> x.sillFor(1), x -> x.through(0, 99),
            x -> x.greatest(0, 99), x -> x.firstDrowned(), x -> x.bestHour(0), x -> x.pumpFor(1), x -> x.pumpAt(99),
            x -> x.twoWalls(), x -> x.gain(0), x -> x.bailFor(0, 24), x -> x.siege(99), x -> x.borne(), x -> x.keep(0),
            x -> x.keepSet(0), x -> x.plan(0), x -> x.plan(1), x -> x.planned(1), x -> x.save(5), x -> x.saveSet(5),
            x -> x.damage(7), x -> x.suspects(0), x -> x.telling(), x -> x.prints(0), x -> x.status(), x -> x.top(),
            x -> x.bottom(), x -> x.fault(0)};
        String want = everything(busy());
        for (int i = 0; i < calls.length; i++) {
            DryDoors x = busy();
            calls[i].of(x);
            dueAlike("call " + i, everything(x), want);
        }
        DryDoors mean = busy();
        Kit.fine(mean, "mean", mean.mean(9, 20));
        // the same FRACTION as at first, so that all is as it was
        Kit.fine(mean, "guilt", mean.guilt(0, 3));
        DryDoors guilt = busy();
        Kit.fine(guilt, "guilt", guilt.guilt(0, 3));
        dueAlike("mean", everything(mean), everything(guilt));
    }

    public static void main(String[] args) {
        trays();
        texts();
        faults();
        told();
        water();
        deeds();
        foresight();
        foresightOfNone();
        plans();
        noSuchRoomThoughADoor();
        noSuchDoorThoughARoom();
        lastOnes();
        nightsAndMarks();
        askedOnly();
        Kit.end("refusals");
    }
}
