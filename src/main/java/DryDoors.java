/** A land below the sea kept dry by its doors; ../shared/DOC.md says what each call promises. */
public final class DryDoors {
    public static final int NONE = -1;

    private static final int FINE = 0;
    private static final int NO_SUCH = 1;
    private static final int MISSING = 2;
    private static final int NO_PLACE = 3;
    private static final int ONE_TOO_MANY = 4;
    private static final int NONE_SUCH = 6;
    private static final int CANT_BE = 7;
    private static final int UNLIKE = 8;
    private static final int FAULTY = 9;

    private static final int MOST_ROOMS = 7;
    private static final int MOST_DOORS = 10;
    private static final int MOST_ERRANDS = 4;
    private static final int MOST_MARKS = 3;
    private static final int TRAYS = 4;
    private static final int MOST_IN_TRAY = 60;
    private static final int MOST_ON_TAPE = 900;
    private static final int MOST_IN_NIGHTS = 300;
    private static final int BYTES_FED = 20;

    /** HOURS of the day, which are the next 12 HOURS of all that is foretold, too. */
    private static final int DAY = 12;
    private static final int ALL_HOURS = (1 << DAY) - 1;
    private static final int TIDE_UNTOLD = 10;
    private static final int LAST_HOUR = 9999;
    private static final int FORESEEN = 99;
    private static final int HIGHEST = 99;
    private static final int MOST_WATER = 9999;
    /** More than all ROOMS together can hold. */
    private static final int FAR_TOO_MUCH = 1000000;
    private static final int MOST_BAILED = 999;
    private static final int LAST_SEED = 9999;
    private static final int MOST_SEEDS = 20;
    private static final int MOST_GUILTY = 5;

    /** The SEA stands behind the ROOMS, so that surfaces of both are found in one row. */
    private static final int SEA = MOST_ROOMS;

    private final Land land = new Land();
    private final Nights nights = new Nights();
    private final Land trial = new Land();
    private final Planner planner = new Planner();
    private final LandReader landReader = new LandReader();
    private final NightsReader nightsReader = new NightsReader();
    private final Life life = new Life();
    private final Life dreamt = new Life();
    private final Land[] markedLands = new Land[MOST_MARKS];
    private final Nights[] markedNights = new Nights[MOST_MARKS];
    private int marked;
    private final Tray[] trays = new Tray[TRAYS];
    private final byte[] tape = new byte[MOST_ON_TAPE];
    private int taped;
    private int status = FINE;
    private long top;
    private long bottom = 1;
    private int faultKind = NONE;
    private int faultPlace = NONE;

    public DryDoors() {
        for (int i = 0; i < MOST_MARKS; i++) {
            markedLands[i] = new Land();
            markedNights[i] = new Nights();
        }
        for (int i = 0; i < TRAYS; i++) {
            trays[i] = new Tray();
        }
    }

    private int fine(int answer) {
        status = FINE;
        return answer;
    }

    private int none(int why) {
        status = why;
        return NONE;
    }

    private boolean done() {
        status = FINE;
        return true;
    }

    private boolean refused(int why) {
        status = why;
        return false;
    }

    private boolean isRoom(int room) {
        return room >= 0 && room < land.rooms.count;
    }

    private boolean isDoor(int door) {
        return door >= 0 && door < land.doors.count;
    }

    private static boolean isHourOfDay(int hour) {
        return hour >= 0 && hour < DAY;
    }

    private static boolean isWithin(int number, int least, int most) {
        return number >= least && number <= most;
    }

    public int status() {
        return status;
    }

    public long top() {
        return top;
    }

    public long bottom() {
        return bottom;
    }

    private void tellFraction(long above, long below) {
        long divisor = commonDivisor(above < 0 ? -above : above, below);
        if (divisor < 1) {
            divisor = 1;
        }
        top = above / divisor;
        bottom = below / divisor;
    }

    private static long commonDivisor(long a, long b) {
        long greater = a;
        long lesser = b;
        for (int i = 0; i < 1000 && lesser != 0; i++) {
            long rest = greater % lesser;
            greater = lesser;
            lesser = rest;
        }
        return greater;
    }

    // ---- TRAYS

    private Tray trayAt(int tray) {
        return tray >= 0 && tray < TRAYS ? trays[tray] : null;
    }

    public boolean tray(int tray, int sort, int many) {
        Tray row = trayAt(tray);
        if (row == null || !isWithin(sort, 0, Tray.LAST_SORT) || !isWithin(many, 0, MOST_IN_TRAY)) {
            return refused(NO_SUCH);
        }
        row.lay(sort, many);
        return done();
    }

    public boolean write(int tray, int place, long v) {
        Tray row = trayAt(tray);
        if (row == null) {
            return refused(NO_SUCH);
        }
        if (row.isMissing()) {
            return refused(MISSING);
        }
        if (!row.has(place)) {
            return refused(NO_PLACE);
        }
        row.put(place, v);
        return done();
    }

    public long read(int tray, int place) {
        Tray row = trayAt(tray);
        if (row == null) {
            return none(NO_SUCH);
        }
        if (row.isMissing()) {
            return none(MISSING);
        }
        if (!row.has(place)) {
            return none(NO_PLACE);
        }
        status = FINE;
        return row.at(place);
    }

    public boolean pour(int from, int place, int to, int at, int many) {
        Tray source = trayAt(from);
        Tray goal = trayAt(to);
        if (source == null || goal == null || place < 0 || at < 0 || many < 0) {
            return refused(NO_SUCH);
        }
        if (source.isMissing() || goal.isMissing()) {
            return refused(MISSING);
        }
        if (source.sort != goal.sort) {
            return refused(UNLIKE);
        }
        if (!source.hasRow(place, many) || !goal.hasRow(at, many)) {
            return refused(NO_PLACE);
        }
        System.arraycopy(source.numbers, place, goal.numbers, at, many);
        return done();
    }

    // ---- texts

    public int feed(int a, int b, int c, int d, int e) {
        if (taped + BYTES_FED > MOST_ON_TAPE) {
            return NONE;
        }
        putOnTape(a);
        putOnTape(b);
        putOnTape(c);
        putOnTape(d);
        putOnTape(e);
        return taped;
    }

    private void putOnTape(int four) {
        for (int shift = 24; shift >= 0 && taped < MOST_ON_TAPE; shift -= 8) {
            tape[taped] = (byte) (four >> shift);
            taped++;
        }
    }

    public int land(int n) {
        if (n < 0 || n > taped) {
            return none(NO_SUCH);
        }
        boolean taken = landReader.readAll(tape, n);
        emptyTape(landReader.text);
        if (!taken) {
            return none(FAULTY);
        }
        land.copyFrom(landReader.draft);
        nights.forget();
        return fine(land.doors.count);
    }

    public int nights(int n) {
        if (n < 0 || n > taped || n > MOST_IN_NIGHTS) {
            return none(NO_SUCH);
        }
        boolean taken = nightsReader.readAll(tape, n, land);
        emptyTape(nightsReader.text);
        if (!taken) {
            return none(FAULTY);
        }
        nights.copyFrom(nightsReader.draft);
        return fine(nights.steps);
    }

    private void emptyTape(Text text) {
        taped = 0;
        faultKind = text.fault;
        faultPlace = text.faultPlace;
    }

    public int fault(int what) {
        if (what == 0) {
            return faultKind;
        }
        return what == 1 ? faultPlace : NONE;
    }

    public int told(int what) {
        switch (what) {
            case 0: return fine(land.rooms.count);
            case 1: return fine(land.doors.count);
            case 2: return fine(land.errands);
            case 3: return fine(land.hour);
            case 4: return fine(land.rooms.allWater());
            case 5: return fine(land.rooms.wetOnes());
            case 6: return fine(land.rooms.drowned);
            case 7: return fine(land.openNow());
            case 8: return fine(land.doors.held);
            case 9: return fine(land.doors.walled);
            default: return none(NO_SUCH);
        }
    }

    public int room(int room, int what) {
        if (!isRoom(room)) {
            return none(NO_SUCH);
        }
        Rooms rooms = land.rooms;
        switch (what) {
            case 0: return fine(rooms.floor[room]);
            case 1: return fine(rooms.area[room]);
            case 2: return fine(rooms.bears[room]);
            case 3: return fine(rooms.pump[room]);
            case 4: return fine(rooms.water[room]);
            case 5: return fine(rooms.depth(room));
            case 6: return fine(rooms.floor[room] + rooms.depth(room));
            case 7: return fine(rooms.mark[room]);
            default: return none(NO_SUCH);
        }
    }

    public int door(int door, int what) {
        if (!isDoor(door)) {
            return none(NO_SUCH);
        }
        Doors doors = land.doors;
        switch (what) {
            case 0: return fine(endAsTold(doors.first[door]));
            case 1: return fine(endAsTold(doors.second[door]));
            case 2: return fine(doors.sill[door]);
            case 3: return fine(doors.wide[door]);
            case 4: return fine(doors.leaks[door]);
            case 5: return fine(doors.hoursOnRota(door));
            default: return none(NO_SUCH);
        }
    }

    private static int endAsTold(int end) {
        return end == SEA ? NONE : end;
    }

    public int errand(int errand, int what) {
        if (errand < 0 || errand >= land.errands) {
            return none(NO_SUCH);
        }
        switch (what) {
            case 0: return fine(land.errandDoor[errand]);
            case 1: return fine(land.errandFrom[errand]);
            case 2: return fine(land.errandTo[errand]);
            default: return none(NO_SUCH);
        }
    }

    public int tide(int hour) {
        return isHourOfDay(hour) ? fine(land.tide[hour]) : none(NO_SUCH);
    }

    // ---- water

    private Land asItFlows() {
        land.findSurfaces();
        land.findFlows();
        return land;
    }

    public int drive(int door) {
        if (!isDoor(door)) {
            return none(NO_SUCH);
        }
        return fine(asItFlows().drives[door]);
    }

    public int flow(int door) {
        if (!isDoor(door)) {
            return none(NO_SUCH);
        }
        return fine(asItFlows().flows[door]);
    }

    public int flowOpen(int door) {
        if (!isDoor(door)) {
            return none(NO_SUCH);
        }
        return fine(asItFlows().openFlows[door]);
    }

    public int deepest() {
        int deepest = NONE;
        int depth = 0;
        for (int r = 0; r < land.rooms.count; r++) {
            if (land.rooms.depth(r) > depth) {
                depth = land.rooms.depth(r);
                deepest = r;
            }
        }
        return deepest == NONE ? none(NONE_SUCH) : fine(deepest);
    }

    public int busiest() {
        int[] flows = asItFlows().flows;
        int busiest = NONE;
        int flow = 0;
        for (int d = 0; d < land.doors.count; d++) {
            if (Math.abs(flows[d]) > flow) {
                flow = Math.abs(flows[d]);
                busiest = d;
            }
        }
        return busiest == NONE ? none(NONE_SUCH) : fine(busiest);
    }

    public int spare(int room) {
        if (!isRoom(room)) {
            return none(NO_SUCH);
        }
        Rooms rooms = land.rooms;
        int borne = rooms.area[room] * (rooms.bears[room] + 1) - 1;
        return fine(Math.max(0, borne - rooms.water[room]));
    }

    public int low() {
        int low = 0;
        for (int h = 1; h < DAY; h++) {
            if (land.tide[h] < land.tide[low]) {
                low = h;
            }
        }
        return fine(low);
    }

    public int high(int door) {
        if (!isDoor(door)) {
            return none(NO_SUCH);
        }
        int hours = 0;
        for (int h = 0; h < DAY; h++) {
            if (land.tide[h] > land.doors.sill[door]) {
                hours |= 1 << h;
            }
        }
        return fine(hours);
    }

    public int linked(int room) {
        if (!isRoom(room)) {
            return none(NO_SUCH);
        }
        Doors doors = land.doors;
        int inside = doors.all() & ~doors.walled & ~doors.toSea();
        return fine(doors.reached(1 << room, inside));
    }

    // ---- what is done

    public int hour(int many) {
        if (!isWithin(many, 1, FORESEEN)) {
            return none(NO_SUCH);
        }
        if (land.hour + many > LAST_HOUR) {
            return none(ONE_TOO_MANY);
        }
        int ahead = land.rooms.drowned;
        land.goOn(many);
        return fine(land.rooms.drowned & ~ahead);
    }

    public boolean hold(int door, boolean open) {
        if (!isDoor(door)) {
            return refused(NO_SUCH);
        }
        if (land.doors.isHeld(door) == open) {
            return refused(CANT_BE);
        }
        land.doors.held ^= 1 << door;
        return done();
    }

    public boolean wall(int door, boolean is) {
        if (!isDoor(door)) {
            return refused(NO_SUCH);
        }
        if (land.doors.isWalled(door) == is) {
            return refused(CANT_BE);
        }
        land.doors.walled ^= 1 << door;
        return done();
    }

    public int bail(int room, int n) {
        if (!isRoom(room) || !isWithin(n, 1, MOST_BAILED)) {
            return none(NO_SUCH);
        }
        if (land.rooms.water[room] < n) {
            return none(CANT_BE);
        }
        land.rooms.water[room] -= n;
        return fine(land.rooms.water[room]);
    }

    public int wipe() {
        return fine(land.rooms.wipeMarks());
    }

    public boolean rota(int hour, int door, boolean is) {
        if (!isHourOfDay(hour) || !isDoor(door)) {
            return refused(NO_SUCH);
        }
        boolean was = (land.doors.rotaAt[hour] >> door & 1) == 1;
        if (was == is) {
            return refused(CANT_BE);
        }
        land.doors.rotaAt[hour] ^= 1 << door;
        return done();
    }

    public boolean moon(int hour, int height) {
        if (!isHourOfDay(hour) || !isWithin(height, 0, HIGHEST)) {
            return refused(NO_SUCH);
        }
        land.tide[hour] = height;
        return done();
    }

    public boolean pump(int room, int much) {
        if (!isRoom(room) || !isWithin(much, 0, HIGHEST)) {
            return refused(NO_SUCH);
        }
        land.rooms.pump[room] = much;
        return done();
    }

    public int raise(int door, int much) {
        if (!isDoor(door) || !isWithin(much, -HIGHEST, HIGHEST)) {
            return none(NO_SUCH);
        }
        int sill = land.doors.sill[door] + much;
        if (!isWithin(sill, 0, HIGHEST)) {
            return none(CANT_BE);
        }
        land.doors.sill[door] = sill;
        return fine(sill);
    }

    public int build(int room) {
        if (!isRoom(room)) {
            return none(NO_SUCH);
        }
        if (!land.rooms.isDrowned(room)) {
            return none(CANT_BE);
        }
        land.rooms.drowned &= ~(1 << room);
        return fine(Integer.bitCount(land.rooms.drowned));
    }

    // ---- what would be

    private Land asItIs() {
        trial.copyFrom(land);
        return trial;
    }

    private int drownedMore(Land then) {
        return then.rooms.drowned & ~land.rooms.drowned;
    }

    public int later(int room, int hours) {
        if (!isRoom(room) || !isWithin(hours, 0, FORESEEN)) {
            return none(NO_SUCH);
        }
        Land then = asItIs();
        then.goOn(hours);
        return fine(then.rooms.water[room]);
    }

    public int allLater(int hours) {
        if (!isWithin(hours, 0, FORESEEN)) {
            return none(NO_SUCH);
        }
        return fine(asItIs().waterIn(hours));
    }

    public int wetIn(int room) {
        if (!isRoom(room)) {
            return none(NO_SUCH);
        }
        Land then = asItIs();
        for (int h = 0; h <= FORESEEN; h++) {
            if (then.rooms.depth(room) > 0) {
                return fine(h);
            }
            then.goOneHour();
        }
        return none(NONE_SUCH);
    }

    public int drownsIn(int room) {
        if (!isRoom(room)) {
            return none(NO_SUCH);
        }
        Land then = asItIs();
        for (int h = 0; h <= FORESEEN; h++) {
            if (then.rooms.isDrowned(room)) {
                return fine(h);
            }
            then.goOneHour();
        }
        return none(NONE_SUCH);
    }

    public int dryIn() {
        Land then = asItIs();
        for (int h = 0; h <= FORESEEN; h++) {
            if (then.rooms.wetOnes() == 0) {
                return fine(h);
            }
            then.goOneHour();
        }
        return none(NONE_SUCH);
    }

    public int fails(int door) {
        if (!isDoor(door)) {
            return none(NO_SUCH);
        }
        Land then = asItIs();
        then.doors.held |= 1 << door;
        then.goOn(DAY);
        return fine(then.rooms.drowned);
    }

    public int worst() {
        int worst = NONE;
        int most = NONE;
        for (int d = 0; d < land.doors.count; d++) {
            Land then = asItIs();
            then.doors.held |= 1 << d;
            int water = then.waterIn(DAY);
            if (water > most) {
                most = water;
                worst = d;
            }
        }
        return worst == NONE ? none(NONE_SUCH) : fine(worst);
    }

    public int sillFor(int door) {
        if (!isDoor(door)) {
            return none(NO_SUCH);
        }
        for (int higher = 0; land.doors.sill[door] + higher <= HIGHEST; higher++) {
            Land then = asItIs();
            then.doors.held |= 1 << door;
            then.doors.sill[door] += higher;
            then.goOn(DAY);
            if (drownedMore(then) == 0) {
                return fine(higher);
            }
        }
        return none(NONE_SUCH);
    }

    public int through(int door, int hours) {
        if (!isDoor(door) || !isWithin(hours, 0, FORESEEN)) {
            return none(NO_SUCH);
        }
        Land then = asItIs();
        int much = 0;
        for (int h = 0; h < hours; h++) {
            then.goOneHour();
            much += then.passed[door];
        }
        return fine(much);
    }

    public int greatest(int room, int hours) {
        if (!isRoom(room) || !isWithin(hours, 0, FORESEEN)) {
            return none(NO_SUCH);
        }
        Land then = asItIs();
        int greatest = then.rooms.depth(room);
        for (int h = 0; h < hours; h++) {
            then.goOneHour();
            greatest = Math.max(greatest, then.rooms.depth(room));
        }
        return fine(greatest);
    }

    public int firstDrowned() {
        Land then = asItIs();
        for (int h = 0; h < FORESEEN; h++) {
            then.goOneHour();
            int more = drownedMore(then);
            if (more != 0) {
                return fine(Integer.numberOfTrailingZeros(more));
            }
        }
        return none(NONE_SUCH);
    }

    public int bestHour(int door) {
        if (!isDoor(door)) {
            return none(NO_SUCH);
        }
        int best = 0;
        int least = FAR_TOO_MUCH;
        for (int h = 0; h < DAY; h++) {
            Land then = asItIs();
            then.doors.held &= ~(1 << door);
            // opened by hand for one HOUR is as if the ROTA opened it in that HOUR
            then.doors.rotaAt[h] |= 1 << door;
            int water = then.waterIn(DAY);
            if (water < least) {
                least = water;
                best = h;
            }
        }
        return fine(best);
    }

    public int pumpFor(int room) {
        if (!isRoom(room)) {
            return none(NO_SUCH);
        }
        for (int much = 0; much <= HIGHEST; much++) {
            Land then = asItIs();
            then.rooms.pump[room] = much;
            then.goOn(2 * DAY);
            if (!then.rooms.isDrowned(room)) {
                return fine(much);
            }
        }
        return none(NONE_SUCH);
    }

    public int pumpAt(int much) {
        if (!isWithin(much, 1, HIGHEST)) {
            return none(NO_SUCH);
        }
        int best = NONE;
        int least = FAR_TOO_MUCH;
        for (int r = 0; r < land.rooms.count; r++) {
            Land then = asItIs();
            then.rooms.pump[r] = Math.min(HIGHEST, then.rooms.pump[r] + much);
            int water = then.waterIn(DAY);
            if (water < least) {
                least = water;
                best = r;
            }
        }
        return best == NONE ? none(NONE_SUCH) : fine(best);
    }

    public int twoWalls() {
        int best = NONE;
        int least = FAR_TOO_MUCH;
        for (int a = 0; a < land.doors.count; a++) {
            for (int b = a + 1; b < land.doors.count; b++) {
                int both = 1 << a | 1 << b;
                int water = (land.doors.walled & both) == 0 ? waterWalled(both) : FAR_TOO_MUCH;
                if (water < least) {
                    least = water;
                    best = 10 * a + b;
                }
            }
        }
        return best == NONE ? none(NONE_SUCH) : fine(best);
    }

    private int waterWalled(int more) {
        Land then = asItIs();
        then.doors.walled |= more;
        return then.waterIn(DAY);
    }

    public int gain(int door) {
        if (!isDoor(door)) {
            return none(NO_SUCH);
        }
        return fine(waterWalled(0) - waterWalled(1 << door));
    }

    public int bailFor(int room, int hours) {
        if (!isRoom(room) || !isWithin(hours, 1, 2 * DAY)) {
            return none(NO_SUCH);
        }
        Land then = asItIs();
        // less WATER at first may well be more later on, so that no amount can be left out
        for (int n = 0; n <= land.rooms.water[room]; n++) {
            then.copyWaterFrom(land);
            then.rooms.water[room] -= n;
            then.goOn(hours);
            if (then.rooms.depth(room) == 0) {
                return fine(n);
            }
        }
        return none(NONE_SUCH);
    }

    private Land besieged(int height) {
        Land then = asItIs();
        then.setAllTides(height);
        then.goOn(DAY);
        return then;
    }

    public int siege(int height) {
        if (!isWithin(height, 0, HIGHEST)) {
            return none(NO_SUCH);
        }
        return fine(besieged(height).rooms.drowned);
    }

    public int borne() {
        for (int height = HIGHEST; height >= 0; height--) {
            if (drownedMore(besieged(height)) == 0) {
                return fine(height);
            }
        }
        return none(NONE_SUCH);
    }

    // ---- plans

    public int keep(int room) {
        return isRoom(room) ? fine(Integer.bitCount(Planner.wallsFor(land.doors, room))) : none(NO_SUCH);
    }

    public int keepSet(int room) {
        return isRoom(room) ? fine(Planner.wallsFor(land.doors, room)) : none(NO_SUCH);
    }

    public int plan(int what) {
        if (!isWithin(what, 0, 1)) {
            return none(NO_SUCH);
        }
        if (land.errands == 0) {
            return none(NONE_SUCH);
        }
        planner.planErrands(land);
        return fine(what == 0 ? planner.bestDrowned : planner.bestWater);
    }

    public int planned(int errand) {
        if (errand < 0 || errand >= land.errands) {
            return none(NO_SUCH);
        }
        planner.planErrands(land);
        return fine(planner.plannedHour(errand));
    }

    public int save(int hours) {
        if (!isWithin(hours, 0, DAY)) {
            return none(NO_SUCH);
        }
        planner.planPumps(land, hours);
        return fine(planner.bestWater);
    }

    public int saveSet(int hours) {
        if (!isWithin(hours, 0, DAY)) {
            return none(NO_SUCH);
        }
        planner.planPumps(land, hours);
        return fine(planner.bestSet);
    }

    private boolean isSetOfDoors(int doors) {
        return (doors & ~land.doors.all()) == 0;
    }

    public int damage(int doors) {
        return isSetOfDoors(doors) ? fine(planner.damageBy(land, doors)) : none(NO_SUCH);
    }

    public boolean guilt(int door, int doors) {
        if (!isDoor(door) || !isSetOfDoors(doors) || (doors >> door & 1) == 0
                || Integer.bitCount(doors) > MOST_GUILTY) {
            return refused(NO_SUCH);
        }
        tellFraction(planner.shareOfOrders(land, door, doors), Planner.ordersOf(doors));
        return done();
    }

    public int print(int door, int tray) {
        Tray row = trayAt(tray);
        if (!isDoor(door) || row == null) {
            return none(NO_SUCH);
        }
        if (row.isMissing()) {
            return none(MISSING);
        }
        if (!row.hasRow(0, land.rooms.count)) {
            return none(NO_PLACE);
        }
        planner.findPrints(land);
        for (int r = 0; r < land.rooms.count; r++) {
            row.put(r, planner.prints[door][r]);
        }
        return fine(land.rooms.count);
    }

    public int suspects(int tray) {
        Tray row = trayAt(tray);
        if (row == null) {
            return none(NO_SUCH);
        }
        if (row.isMissing()) {
            return none(MISSING);
        }
        if (!row.hasRow(0, land.rooms.count)) {
            return none(NO_PLACE);
        }
        planner.findPrints(land);
        int suspects = 0;
        for (int d = 0; d < land.doors.count; d++) {
            if (!land.doors.isWalled(d) && row.startsWith(planner.prints[d], land.rooms.count)) {
                suspects |= 1 << d;
            }
        }
        return fine(suspects);
    }

    public int telling() {
        planner.findPrints(land);
        int telling = NONE;
        int most = NONE;
        for (int r = 0; r < land.rooms.count; r++) {
            int unlike = planner.unlikeMarks(land.doors, r);
            if (unlike > most) {
                most = unlike;
                telling = r;
            }
        }
        return telling == NONE ? none(NONE_SUCH) : fine(telling);
    }

    public int prints(int room) {
        if (!isRoom(room)) {
            return none(NO_SUCH);
        }
        planner.findPrints(land);
        return fine(planner.unlikeMarks(land.doors, room));
    }

    // ---- NIGHTS

    public int live(int seed) {
        if (!isWithin(seed, 0, LAST_SEED)) {
            return none(NO_SUCH);
        }
        if (!nights.given) {
            return none(NONE_SUCH);
        }
        life.pass(nights, land, seed);
        return fine(life.steps);
    }

    public int lived(int what) {
        if (!isWithin(what, 0, 4)) {
            return none(NO_SUCH);
        }
        if (!life.passed) {
            return none(NONE_SUCH);
        }
        switch (what) {
            case 0: return fine(life.missed);
            case 1: return fine(life.hours);
            case 2: return fine(life.bailed);
            case 3: return fine(life.drowned);
            default: return fine(life.left);
        }
    }

    public boolean mean(int seed, int many) {
        if (!isWithin(seed, 0, LAST_SEED) || !isWithin(many, 1, MOST_SEEDS) || seed + many - 1 > LAST_SEED) {
            return refused(NO_SUCH);
        }
        if (!nights.given) {
            return refused(NONE_SUCH);
        }
        long water = 0;
        for (int i = 0; i < many; i++) {
            Land then = asItIs();
            dreamt.pass(nights, then, seed + i);
            water += then.rooms.allWater();
        }
        tellFraction(water, many);
        return done();
    }

    // ---- MARKS

    public int mark() {
        if (marked >= MOST_MARKS) {
            return none(ONE_TOO_MANY);
        }
        markedLands[marked].copyFrom(land);
        markedNights[marked].copyFrom(nights);
        marked++;
        return fine(marked);
    }

    public int undo() {
        if (marked <= 0) {
            return none(NONE_SUCH);
        }
        marked--;
        land.copyFrom(markedLands[marked]);
        nights.copyFrom(markedNights[marked]);
        return fine(marked);
    }

    /** A TRAY; its row is made once, so that laying it anew makes nothing. */
    private static final class Tray {
        static final int LAST_SORT = 3;

        final long[] numbers = new long[MOST_IN_TRAY];
        int sort;
        int many = NONE;

        void lay(int newSort, int newMany) {
            sort = newSort;
            many = newMany;
            for (int i = 0; i < MOST_IN_TRAY; i++) {
                numbers[i] = 0;
            }
        }

        boolean isMissing() {
            return many < 0;
        }

        boolean has(int place) {
            return place >= 0 && place < many;
        }

        /** Asked by what is left behind the place, as place and howMany together may not fit an int. */
        boolean hasRow(int place, int howMany) {
            return place >= 0 && howMany >= 0 && place <= many && howMany <= many - place;
        }

        long at(int place) {
            return has(place) ? numbers[place] : 0;
        }

        void put(int place, long v) {
            if (has(place)) {
                numbers[place] = cut(v);
            }
        }

        private long cut(long v) {
            switch (sort) {
                case 0: return (byte) v;
                case 1: return (short) v;
                case 2: return (int) v;
                default: return v;
            }
        }

        boolean startsWith(int[] row, int howMany) {
            if (howMany > many || howMany > row.length) {
                return false;
            }
            for (int i = 0; i < howMany; i++) {
                if (numbers[i] != row[i]) {
                    return false;
                }
            }
            return true;
        }
    }

    /** The ROOMS with their WATER. */
    private static final class Rooms {
        int count;
        int drowned;
        final long[] name = new long[MOST_ROOMS];
        final int[] floor = new int[MOST_ROOMS];
        final int[] area = new int[MOST_ROOMS];
        final int[] bears = new int[MOST_ROOMS];
        final int[] pump = new int[MOST_ROOMS];
        final int[] water = new int[MOST_ROOMS];
        final int[] mark = new int[MOST_ROOMS];

        void clear() {
            count = 0;
            drowned = 0;
        }

        void add(long newName, int newFloor, int newArea, int newBears, int newWater) {
            if (count >= MOST_ROOMS) {
                return;
            }
            name[count] = newName;
            floor[count] = newFloor;
            area[count] = newArea;
            bears[count] = newBears;
            water[count] = newWater;
            pump[count] = 0;
            mark[count] = 0;
            count++;
        }

        void copyFrom(Rooms other) {
            count = other.count;
            drowned = other.drowned;
            System.arraycopy(other.name, 0, name, 0, MOST_ROOMS);
            System.arraycopy(other.floor, 0, floor, 0, MOST_ROOMS);
            System.arraycopy(other.area, 0, area, 0, MOST_ROOMS);
            System.arraycopy(other.bears, 0, bears, 0, MOST_ROOMS);
            System.arraycopy(other.pump, 0, pump, 0, MOST_ROOMS);
            System.arraycopy(other.water, 0, water, 0, MOST_ROOMS);
            System.arraycopy(other.mark, 0, mark, 0, MOST_ROOMS);
        }

        int indexOf(long wanted) {
            return indexIn(name, count, wanted);
        }

        int depth(int room) {
            if (room < 0 || room >= MOST_ROOMS || area[room] < 1) {
                return 0;
            }
            return water[room] / area[room];
        }

        boolean isDrowned(int room) {
            return (drowned >> room & 1) == 1;
        }

        int allWater() {
            int all = 0;
            for (int r = 0; r < count; r++) {
                all += water[r];
            }
            return all;
        }

        int wetOnes() {
            int wet = 0;
            for (int r = 0; r < count; r++) {
                if (depth(r) > 0) {
                    wet |= 1 << r;
                }
            }
            return wet;
        }

        int wipeMarks() {
            int wiped = 0;
            for (int r = 0; r < count; r++) {
                if (mark[r] > 0) {
                    wiped++;
                }
                mark[r] = 0;
            }
            return wiped;
        }

        void pumpOut() {
            for (int r = 0; r < count; r++) {
                water[r] -= Math.min(pump[r], water[r]);
            }
        }

        void lookAtDepths() {
            for (int r = 0; r < count; r++) {
                int depth = depth(r);
                if (depth > bears[r]) {
                    drowned |= 1 << r;
                }
                if (depth > mark[r]) {
                    mark[r] = depth;
                }
            }
        }
    }

    private static int indexIn(long[] names, int count, long wanted) {
        for (int i = 0; i < count && i < names.length; i++) {
            if (names[i] == wanted) {
                return i;
            }
        }
        return NONE;
    }

    /** The DOORS, and by which of them one comes where. */
    private static final class Doors {
        int count;
        int held;
        int walled;
        final long[] name = new long[MOST_DOORS];
        final int[] first = new int[MOST_DOORS];
        final int[] second = new int[MOST_DOORS];
        final int[] sill = new int[MOST_DOORS];
        final int[] wide = new int[MOST_DOORS];
        final int[] leaks = new int[MOST_DOORS];
        /** HOUR by HOUR of the day the set of DOORS that the ROTA opens. */
        final int[] rotaAt = new int[DAY];

        void clear() {
            count = 0;
            held = 0;
            walled = 0;
            clearRota();
        }

        void clearRota() {
            for (int h = 0; h < DAY; h++) {
                rotaAt[h] = 0;
            }
        }

        void add(long newName, int newFirst, int newSecond, int newSill, int newWide, int newLeaks) {
            if (count >= MOST_DOORS) {
                return;
            }
            name[count] = newName;
            first[count] = newFirst;
            second[count] = newSecond;
            sill[count] = newSill;
            wide[count] = newWide;
            leaks[count] = newLeaks;
            count++;
        }

        void copyFrom(Doors other) {
            count = other.count;
            held = other.held;
            walled = other.walled;
            System.arraycopy(other.name, 0, name, 0, MOST_DOORS);
            System.arraycopy(other.first, 0, first, 0, MOST_DOORS);
            System.arraycopy(other.second, 0, second, 0, MOST_DOORS);
            System.arraycopy(other.sill, 0, sill, 0, MOST_DOORS);
            System.arraycopy(other.wide, 0, wide, 0, MOST_DOORS);
            System.arraycopy(other.leaks, 0, leaks, 0, MOST_DOORS);
            System.arraycopy(other.rotaAt, 0, rotaAt, 0, DAY);
        }

        int indexOf(long wanted) {
            return indexIn(name, count, wanted);
        }

        int all() {
            return (1 << count) - 1;
        }

        boolean isHeld(int door) {
            return (held >> door & 1) == 1;
        }

        boolean isWalled(int door) {
            return (walled >> door & 1) == 1;
        }

        /** Just these are OPEN in all HOURS: neither ROTA nor hands count any more. */
        void openJust(int doors) {
            clearRota();
            held = doors;
        }

        int hoursOnRota(int door) {
            int hours = 0;
            for (int h = 0; h < DAY; h++) {
                if ((rotaAt[h] >> door & 1) == 1) {
                    hours |= 1 << h;
                }
            }
            return hours;
        }

        int toSea() {
            int doors = 0;
            for (int d = 0; d < count; d++) {
                if (first[d] == SEA || second[d] == SEA) {
                    doors |= 1 << d;
                }
            }
            return doors;
        }

        /** The set of ENDS to which rows of these DOORS lead from a set of ENDS. */
        int reached(int from, int by) {
            int reached = from;
            // no row of DOORS to a new END is longer than there are ENDS
            for (int i = 0; i <= MOST_ROOMS; i++) {
                for (int d = 0; d < count; d++) {
                    int ends = 1 << first[d] | 1 << second[d];
                    if ((by >> d & 1) == 1 && (reached & ends) != 0) {
                        reached |= ends;
                    }
                }
            }
            return reached;
        }
    }

    /** A LAND with all that became of it, or with what would become of it. */
    private static final class Land {
        final Rooms rooms = new Rooms();
        final Doors doors = new Doors();
        int errands;
        final long[] errandName = new long[MOST_ERRANDS];
        final int[] errandDoor = new int[MOST_ERRANDS];
        final int[] errandFrom = new int[MOST_ERRANDS];
        final int[] errandTo = new int[MOST_ERRANDS];
        final int[] tide = new int[DAY];
        int hour;
        /** HOURS of the day in which PUMPS go: all of them, but where SAVE tries fewer. */
        int pumpHours = ALL_HOURS;
        final int[] surface = new int[MOST_ROOMS + 1];
        final int[] drives = new int[MOST_DOORS];
        final int[] openFlows = new int[MOST_DOORS];
        final int[] flows = new int[MOST_DOORS];
        final int[] passed = new int[MOST_DOORS];

        Land() {
            setAllTides(TIDE_UNTOLD);
        }

        void clear() {
            rooms.clear();
            doors.clear();
            errands = 0;
            setAllTides(TIDE_UNTOLD);
            hour = 0;
            pumpHours = ALL_HOURS;
        }

        void setAllTides(int height) {
            for (int h = 0; h < DAY; h++) {
                tide[h] = height;
            }
        }

        void addErrand(long name, int door, int from, int to) {
            if (errands >= MOST_ERRANDS) {
                return;
            }
            errandName[errands] = name;
            errandDoor[errands] = door;
            errandFrom[errands] = from;
            errandTo[errands] = to;
            errands++;
        }

        void copyFrom(Land other) {
            rooms.copyFrom(other.rooms);
            doors.copyFrom(other.doors);
            errands = other.errands;
            System.arraycopy(other.errandName, 0, errandName, 0, MOST_ERRANDS);
            System.arraycopy(other.errandDoor, 0, errandDoor, 0, MOST_ERRANDS);
            System.arraycopy(other.errandFrom, 0, errandFrom, 0, MOST_ERRANDS);
            System.arraycopy(other.errandTo, 0, errandTo, 0, MOST_ERRANDS);
            System.arraycopy(other.tide, 0, tide, 0, DAY);
            hour = other.hour;
            pumpHours = other.pumpHours;
        }

        /** Enough to begin once more, where only HOURS went by since a copy was made. */
        void copyWaterFrom(Land other) {
            hour = other.hour;
            rooms.drowned = other.rooms.drowned;
            System.arraycopy(other.rooms.water, 0, rooms.water, 0, MOST_ROOMS);
            System.arraycopy(other.rooms.mark, 0, rooms.mark, 0, MOST_ROOMS);
        }

        boolean isNameTaken(long name) {
            return rooms.indexOf(name) != NONE || doors.indexOf(name) != NONE
                    || indexIn(errandName, errands, name) != NONE;
        }

        int hourOfDay() {
            return hour % DAY;
        }

        int openNow() {
            return (doors.held | doors.rotaAt[hour % DAY]) & ~doors.walled;
        }

        void findSurfaces() {
            for (int r = 0; r < rooms.count; r++) {
                surface[r] = rooms.floor[r] + rooms.depth(r);
            }
            surface[SEA] = tide[hour % DAY];
        }

        /** By the surfaces found latest. */
        void findFlows() {
            int open = openNow();
            for (int d = 0; d < doors.count; d++) {
                int one = surfaceOf(doors.first[d]);
                int other = surfaceOf(doors.second[d]);
                int higher = Math.max(one, other);
                int drive = Math.min(higher - doors.sill[d], higher - Math.min(one, other));
                drives[d] = Math.max(0, drive);
                int much = drives[d] * doors.wide[d];
                int leaking = Math.min(much, doors.leaks[d]);
                int shut = doors.isWalled(d) ? 0 : leaking;
                int now = (open >> d & 1) == 1 ? much : shut;
                openFlows[d] = one >= other ? much : -much;
                flows[d] = one >= other ? now : -now;
            }
        }

        private int surfaceOf(int end) {
            return end >= 0 && end <= SEA ? surface[end] : 0;
        }

        private void letThrough() {
            int[] water = rooms.water;
            for (int d = 0; d < doors.count; d++) {
                int from = flows[d] >= 0 ? doors.first[d] : doors.second[d];
                int to = flows[d] >= 0 ? doors.second[d] : doors.first[d];
                int much = Math.abs(flows[d]);
                if (isRoomEnd(from)) {
                    much = Math.min(much, water[from]);
                    water[from] -= much;
                }
                if (isRoomEnd(to)) {
                    water[to] = Math.min(MOST_WATER, water[to] + much);
                }
                passed[d] = much;
            }
        }

        private static boolean isRoomEnd(int end) {
            return end >= 0 && end < MOST_ROOMS;
        }

        void goOneHour() {
            findSurfaces();
            findFlows();
            letThrough();
            if ((pumpHours >> hourOfDay() & 1) == 1) {
                rooms.pumpOut();
            }
            rooms.lookAtDepths();
            hour++;
        }

        void goOn(int hours) {
            for (int h = 0; h < hours; h++) {
                goOneHour();
            }
        }

        int waterIn(int hours) {
            goOn(hours);
            return rooms.allWater();
        }
    }

    /** The NIGHTS line by line; an end is a line, too, but no STEP. */
    private static final class Nights {
        static final int MOST_STEPS = 30;
        static final int MOST_LINES = 2 * MOST_STEPS;

        static final int HOUR = 0;
        static final int OPEN = 1;
        static final int SHUT = 2;
        static final int BAIL = 3;
        static final int ANY = 4;
        static final int WHEN_WET = 5;
        static final int WHEN_OPEN = 6;
        static final int WHEN_BELOW = 7;
        static final int WHEN_ABOVE = 8;
        static final int WHEN_EQUAL = 9;
        static final int LOOP = 10;
        static final int STOP = 11;
        static final int END = 12;

        /** A text without STEPS is taken as NIGHTS all the same. */
        boolean given;
        int steps;
        int lines;
        final int[] kind = new int[MOST_LINES];
        final int[] thing = new int[MOST_LINES];
        final int[] number = new int[MOST_LINES];
        /** Of a when, loop the line of its end; of an end the line where it begins. */
        final int[] partner = new int[MOST_LINES];

        void forget() {
            given = false;
            steps = 0;
            lines = 0;
        }

        void add(int newKind, int newThing, int newNumber) {
            if (lines >= MOST_LINES) {
                return;
            }
            kind[lines] = newKind;
            thing[lines] = newThing;
            number[lines] = newNumber;
            partner[lines] = NONE;
            lines++;
        }

        void pair(int beginning, int end) {
            if (beginning >= 0 && beginning < lines && end >= 0 && end < lines) {
                partner[beginning] = end;
                partner[end] = beginning;
            }
        }

        void copyFrom(Nights other) {
            given = other.given;
            steps = other.steps;
            lines = other.lines;
            System.arraycopy(other.kind, 0, kind, 0, MOST_LINES);
            System.arraycopy(other.thing, 0, thing, 0, MOST_LINES);
            System.arraycopy(other.number, 0, number, 0, MOST_LINES);
            System.arraycopy(other.partner, 0, partner, 0, MOST_LINES);
        }
    }

    /** A TEXT as TOKENS, of which one is looked at, and the first FAULT along it. */
    private static final class Text {
        /** Those that are no NAMES, in the order of the numbers below. */
        static final String LAND_WORDS =
                "room floor area bears water door from to sill wide leaks tide pump rota errand by sea ";
        static final String NIGHTS_WORDS = "hour open shut bail any when wet depth loop end stop ";
        static final int ROOM = 0;
        static final int FLOOR = 1;
        static final int AREA = 2;
        static final int BEARS = 3;
        static final int WATER = 4;
        static final int DOOR = 5;
        static final int FROM = 6;
        static final int TO = 7;
        static final int SILL = 8;
        static final int WIDE = 9;
        static final int LEAKS = 10;
        static final int TIDE = 11;
        static final int PUMP = 12;
        static final int ROTA = 13;
        static final int ERRAND = 14;
        static final int BY = 15;
        static final int OF_SEA = 16;
        static final int HOUR = 17;
        static final int OPEN = 18;
        static final int SHUT = 19;
        static final int BAIL = 20;
        static final int ANY = 21;
        static final int WHEN = 22;
        static final int WET = 23;
        static final int DEPTH = 24;
        static final int LOOP = 25;
        static final int END = 26;
        static final int STOP = 27;
        static final int ALL_WORDS = 28;

        static final int AT_END = 0;
        static final int IS_WORD = 1;
        static final int IS_NUMBER = 2;
        static final int IS_SIGN = 3;
        static final int IS_BAD = 4;

        static final int BEGINS_NONE = 1;
        static final int CANT_STAND = 2;
        static final int WRONG_NAME = 3;
        static final int WRONG_NUMBER = 4;
        static final int TO_ITSELF = 5;
        static final int TOO_MANY = 6;
        static final int TOO_DEEP = 7;

        static final int LONGEST_NAME = 8;
        static final int LONGEST_NUMBER = 4;

        final long[] reserved = new long[ALL_WORDS];
        final int mostTokens;
        final int[] kinds;
        final int[] places;
        /** Of a WORD its letters, of a NUMBER it, of a SIGN its byte. */
        final long[] codes;
        final int[] words;
        int tokens;
        int at;
        int kind;
        int place;
        /** Of a WORD of at most 8 letters these, five bits each; else 0. */
        long letters;
        /** Of a WORD that is no NAME which one it is; else NONE. */
        int word;
        int number;
        int sign;
        int fault;
        int faultPlace;

        Text(int mostBytes) {
            // a byte each at the least, and the text's end
            mostTokens = Math.max(0, mostBytes) + 1;
            kinds = new int[mostTokens];
            places = new int[mostTokens];
            codes = new long[mostTokens];
            words = new int[mostTokens];
            reserve(NIGHTS_WORDS, reserve(LAND_WORDS, 0));
        }

        private int reserve(String words, int from) {
            int which = from;
            long code = 0;
            for (int i = 0; i < words.length() && which < ALL_WORDS; i++) {
                char c = words.charAt(i);
                if (c == ' ') {
                    reserved[which] = code;
                    which++;
                    code = 0;
                } else {
                    code = withLetter(code, c);
                }
            }
            return which;
        }

        private static long withLetter(long code, int letter) {
            return code << 5 | letter - 'a' + 1;
        }

        private static boolean isLetter(int c) {
            return c >= 'a' && c <= 'z';
        }

        private static boolean isDigit(int c) {
            return c >= '0' && c <= '9';
        }

        private static boolean isBlank(int c) {
            return c == 10 || c == ' ';
        }

        private static boolean isSign(int c) {
            return c == ';' || c == '<' || c == '>' || c == '=';
        }

        /** Behind what begins no TOKEN nothing is looked at. */
        void begin(byte[] bytes, int length) {
            tokens = 0;
            int end = Math.min(length, bytes.length);
            int next = 0;
            for (int i = 0; i <= end && next < end; i++) {
                next = isBlank(bytes[next]) ? next + 1 : behindToken(bytes, next, end);
            }
            add(AT_END, end, 0);
            fault = 0;
            faultPlace = NONE;
            at = NONE;
            advance();
        }

        private void add(int newKind, int newPlace, long newCode) {
            if (tokens >= mostTokens) {
                return;
            }
            kinds[tokens] = newKind;
            places[tokens] = newPlace;
            codes[tokens] = newCode;
            words[tokens] = newKind == IS_WORD ? indexIn(reserved, ALL_WORDS, newCode) : NONE;
            tokens++;
        }

        private int behindToken(byte[] bytes, int from, int length) {
            if (isLetter(bytes[from])) {
                return behindWord(bytes, from, length);
            }
            if (isDigit(bytes[from])) {
                return behindNumber(bytes, from, length);
            }
            if (isSign(bytes[from])) {
                add(IS_SIGN, from, bytes[from]);
                return from + 1;
            }
            add(IS_BAD, from, 0);
            return length;
        }

        private int behindWord(byte[] bytes, int from, int length) {
            long code = 0;
            int next = from;
            for (; next < length && isLetter(bytes[next]); next++) {
                code = next - from < LONGEST_NAME ? withLetter(code, bytes[next]) : 0;
            }
            add(IS_WORD, from, code);
            return next;
        }

        private int behindNumber(byte[] bytes, int from, int length) {
            int value = 0;
            int next = from;
            for (; next < length && isDigit(bytes[next]); next++) {
                value = next - from < LONGEST_NUMBER ? value * 10 + bytes[next] - '0' : 0;
            }
            add(next - from > LONGEST_NUMBER ? IS_BAD : IS_NUMBER, from, value);
            return next;
        }

        void advance() {
            at = at + 1 < tokens ? at + 1 : at;
            kind = kinds[at];
            place = places[at];
            word = words[at];
            letters = kind == IS_WORD ? codes[at] : 0;
            number = kind == IS_NUMBER ? (int) codes[at] : 0;
            sign = kind == IS_SIGN ? (int) codes[at] : 0;
        }

        boolean isAtEnd() {
            return kind == AT_END;
        }

        /** The FAULT is at the TOKEN looked at; if no TOKEN begins so, that is the least kind. */
        boolean wrong(int newFault) {
            fault = kind == IS_BAD ? BEGINS_NONE : newFault;
            faultPlace = place;
            return false;
        }

        boolean takeWord(int wanted) {
            if (word != wanted) {
                return wrong(CANT_STAND);
            }
            advance();
            return true;
        }

        boolean takeStop() {
            if (sign != ';') {
                return wrong(CANT_STAND);
            }
            advance();
            return true;
        }

        /** NONE with a FAULT. */
        int takeNumber(int least, int most) {
            if (kind != IS_NUMBER) {
                wrong(CANT_STAND);
                return NONE;
            }
            if (number < least || number > most) {
                wrong(WRONG_NUMBER);
                return NONE;
            }
            int taken = number;
            advance();
            return taken;
        }

        int takeNumberBehind(int wanted, int least, int most, int without) {
            if (word != wanted) {
                return without;
            }
            advance();
            return takeNumber(least, most);
        }

        private boolean isName() {
            return kind == IS_WORD && letters != 0 && word == NONE;
        }

        /** 0 with a FAULT. */
        long takeNewName(Land land) {
            if (!isName()) {
                wrong(CANT_STAND);
                return 0;
            }
            if (land.isNameTaken(letters)) {
                wrong(WRONG_NAME);
                return 0;
            }
            long taken = letters;
            advance();
            return taken;
        }

        /** NONE with a FAULT. */
        int takeRoom(Land land) {
            return takeThing(land.rooms.indexOf(letters));
        }

        /** NONE with a FAULT. */
        int takeDoor(Land land) {
            return takeThing(land.doors.indexOf(letters));
        }

        private int takeThing(int thing) {
            if (!isName()) {
                wrong(CANT_STAND);
                return NONE;
            }
            if (thing == NONE) {
                wrong(WRONG_NAME);
                return NONE;
            }
            advance();
            return thing;
        }

        /** An END that is not the other one; NONE with a FAULT. */
        int takeEnd(Land land, int other) {
            boolean isSea = word == OF_SEA;
            if (!isSea && !isName()) {
                wrong(CANT_STAND);
                return NONE;
            }
            int end = isSea ? SEA : land.rooms.indexOf(letters);
            if (end == NONE) {
                wrong(WRONG_NAME);
                return NONE;
            }
            if (end == other) {
                wrong(TO_ITSELF);
                return NONE;
            }
            advance();
            return end;
        }
    }

    /** Reads a LAND into a draft, so that one with a FAULT harms nothing. */
    private static final class LandReader {
        final Text text = new Text(MOST_ON_TAPE);
        final Land draft = new Land();

        boolean readAll(byte[] bytes, int length) {
            draft.clear();
            text.begin(bytes, length);
            for (int i = 0; i <= MOST_ON_TAPE && !text.isAtEnd(); i++) {
                if (!readPart()) {
                    return false;
                }
            }
            return true;
        }

        private boolean readPart() {
            switch (text.word) {
                case Text.ROOM: return readRoom();
                case Text.DOOR: return readDoor();
                case Text.TIDE: return readTide();
                case Text.PUMP: return readPump();
                case Text.ROTA: return readRota();
                case Text.ERRAND: return readErrand();
                default: return text.wrong(Text.CANT_STAND);
            }
        }

        private boolean readRoom() {
            if (draft.rooms.count >= MOST_ROOMS) {
                return text.wrong(Text.TOO_MANY);
            }
            text.advance();
            long name = text.takeNewName(draft);
            if (name == 0 || !text.takeWord(Text.FLOOR)) {
                return false;
            }
            int floor = text.takeNumber(0, HIGHEST);
            if (floor == NONE) {
                return false;
            }
            int area = text.takeNumberBehind(Text.AREA, 1, 20, 1);
            if (area == NONE) {
                return false;
            }
            int bears = text.takeNumberBehind(Text.BEARS, 1, 99, 10);
            if (bears == NONE) {
                return false;
            }
            int water = text.takeNumberBehind(Text.WATER, 0, 999, 0);
            if (water == NONE || !text.takeStop()) {
                return false;
            }
            draft.rooms.add(name, floor, area, bears, water);
            return true;
        }

        private boolean readDoor() {
            if (draft.doors.count >= MOST_DOORS) {
                return text.wrong(Text.TOO_MANY);
            }
            text.advance();
            long name = text.takeNewName(draft);
            if (name == 0 || !text.takeWord(Text.FROM)) {
                return false;
            }
            int first = text.takeEnd(draft, NONE);
            if (first == NONE || !text.takeWord(Text.TO)) {
                return false;
            }
            int second = text.takeEnd(draft, first);
            if (second == NONE || !text.takeWord(Text.SILL)) {
                return false;
            }
            int sill = text.takeNumber(0, HIGHEST);
            if (sill == NONE) {
                return false;
            }
            int wide = text.takeNumberBehind(Text.WIDE, 1, 9, 1);
            if (wide == NONE) {
                return false;
            }
            int leaks = text.takeNumberBehind(Text.LEAKS, 0, 9, 0);
            if (leaks == NONE || !text.takeStop()) {
                return false;
            }
            draft.doors.add(name, first, second, sill, wide, leaks);
            return true;
        }

        private boolean readTide() {
            text.advance();
            int hour = text.takeNumber(0, DAY - 1);
            if (hour == NONE) {
                return false;
            }
            int height = text.takeNumber(0, HIGHEST);
            if (height == NONE || !text.takeStop()) {
                return false;
            }
            draft.tide[hour] = height;
            return true;
        }

        private boolean readPump() {
            text.advance();
            int room = text.takeRoom(draft);
            if (room == NONE) {
                return false;
            }
            int much = text.takeNumber(0, HIGHEST);
            if (much == NONE || !text.takeStop()) {
                return false;
            }
            draft.rooms.pump[room] = much;
            return true;
        }

        private boolean readRota() {
            text.advance();
            int hour = text.takeNumber(0, DAY - 1);
            if (hour == NONE) {
                return false;
            }
            int door = text.takeDoor(draft);
            if (door == NONE || !text.takeStop()) {
                return false;
            }
            draft.doors.rotaAt[hour] |= 1 << door;
            return true;
        }

        private boolean readErrand() {
            if (draft.errands >= MOST_ERRANDS) {
                return text.wrong(Text.TOO_MANY);
            }
            text.advance();
            long name = text.takeNewName(draft);
            if (name == 0 || !text.takeWord(Text.BY)) {
                return false;
            }
            int door = text.takeDoor(draft);
            if (door == NONE || !text.takeWord(Text.FROM)) {
                return false;
            }
            int from = text.takeNumber(0, DAY - 1);
            if (from == NONE || !text.takeWord(Text.TO)) {
                return false;
            }
            int to = text.takeNumber(from, DAY - 1);
            if (to == NONE || !text.takeStop()) {
                return false;
            }
            draft.addErrand(name, door, from, to);
            return true;
        }
    }

    /** Reads NIGHTS into a draft, so that those with a FAULT harm nothing. */
    private static final class NightsReader {
        static final int MOST_WITHIN = 3;

        final Text text = new Text(MOST_IN_NIGHTS);
        final Nights draft = new Nights();
        /** The lines of those whens and loops that have no end yet. */
        final int[] begun = new int[MOST_WITHIN];
        int within;

        boolean readAll(byte[] bytes, int length, Land land) {
            draft.forget();
            within = 0;
            text.begin(bytes, length);
            for (int i = 0; i <= MOST_IN_NIGHTS && !text.isAtEnd(); i++) {
                boolean isRead = text.word == Text.END ? readEnd() : mayBegin() && readStep(land);
                if (!isRead || !text.takeStop()) {
                    return false;
                }
            }
            if (within > 0) {
                return text.wrong(Text.CANT_STAND);
            }
            draft.given = true;
            return true;
        }

        private boolean mayBegin() {
            if (!beginsStep(text.word)) {
                return text.wrong(Text.CANT_STAND);
            }
            if (draft.steps >= Nights.MOST_STEPS) {
                return text.wrong(Text.TOO_MANY);
            }
            draft.steps++;
            return text.word != Text.WHEN && text.word != Text.LOOP || goWithin();
        }

        private boolean goWithin() {
            if (within >= MOST_WITHIN) {
                return text.wrong(Text.TOO_DEEP);
            }
            begun[within] = draft.lines;
            within++;
            return true;
        }

        private static boolean beginsStep(int word) {
            switch (word) {
                case Text.HOUR:
                case Text.OPEN:
                case Text.SHUT:
                case Text.BAIL:
                case Text.ANY:
                case Text.WHEN:
                case Text.LOOP:
                case Text.STOP:
                    return true;
                default:
                    return false;
            }
        }

        private boolean readEnd() {
            if (within <= 0 || within > MOST_WITHIN) {
                return text.wrong(Text.CANT_STAND);
            }
            text.advance();
            within--;
            draft.add(Nights.END, NONE, 0);
            draft.pair(begun[within], draft.lines - 1);
            return true;
        }

        private boolean readStep(Land land) {
            int word = text.word;
            text.advance();
            switch (word) {
                case Text.HOUR: return addNumber(Nights.HOUR, 12);
                case Text.OPEN: return addDoor(Nights.OPEN, land);
                case Text.SHUT: return addDoor(Nights.SHUT, land);
                case Text.BAIL: return addBail(land);
                case Text.ANY: return addBare(Nights.ANY);
                case Text.WHEN: return readTest(land);
                case Text.LOOP: return addNumber(Nights.LOOP, 99);
                default: return addBare(Nights.STOP);
            }
        }

        private boolean addBare(int kind) {
            draft.add(kind, NONE, 0);
            return true;
        }

        private boolean addNumber(int kind, int most) {
            int number = text.takeNumber(1, most);
            draft.add(kind, NONE, number);
            return number != NONE;
        }

        private boolean addDoor(int kind, Land land) {
            int door = text.takeDoor(land);
            draft.add(kind, door, 0);
            return door != NONE;
        }

        private boolean addBail(Land land) {
            int room = text.takeRoom(land);
            if (room == NONE) {
                return false;
            }
            int number = text.takeNumber(1, MOST_BAILED);
            draft.add(Nights.BAIL, room, number);
            return number != NONE;
        }

        private boolean readTest(Land land) {
            int word = text.word;
            if (word != Text.WET && word != Text.OPEN && word != Text.DEPTH) {
                return text.wrong(Text.CANT_STAND);
            }
            text.advance();
            if (word == Text.OPEN) {
                return addDoor(Nights.WHEN_OPEN, land);
            }
            int room = text.takeRoom(land);
            if (room == NONE) {
                return false;
            }
            if (word == Text.DEPTH) {
                return addDepth(room);
            }
            draft.add(Nights.WHEN_WET, room, 0);
            return true;
        }

        private boolean addDepth(int room) {
            int kind = kindOf(text.sign);
            if (kind == NONE) {
                return text.wrong(Text.CANT_STAND);
            }
            text.advance();
            int number = text.takeNumber(0, 9999);
            draft.add(kind, room, number);
            return number != NONE;
        }

        private static int kindOf(int sign) {
            switch (sign) {
                case '<': return Nights.WHEN_BELOW;
                case '>': return Nights.WHEN_ABOVE;
                case '=': return Nights.WHEN_EQUAL;
                default: return NONE;
            }
        }
    }

    /** NIGHTS as they are LIVED by a seed, and what is told of it. */
    private static final class Life {
        static final int MOST_COME_TO = 300;
        /** Far above what 300 STEPS with all their ends can come to. */
        static final int FAR = 1000000;

        boolean passed;
        int steps;
        int missed;
        int hours;
        int bailed;
        int drowned;
        int left;
        int draw;
        final int[] rounds = new int[Nights.MOST_LINES];

        void pass(Nights nights, Land land, int seed) {
            passed = true;
            steps = 0;
            missed = 0;
            hours = 0;
            bailed = 0;
            drowned = 0;
            left = 0;
            draw = seed;
            int line = 0;
            for (int i = 0; i < FAR && line >= 0 && line < nights.lines; i++) {
                if (nights.kind[line] == Nights.END) {
                    line = behindEnd(nights, line);
                } else if (steps >= MOST_COME_TO) {
                    left = 1;
                    line = NONE;
                } else {
                    steps++;
                    line = behindStep(nights, land, line);
                }
            }
        }

        private int behindEnd(Nights nights, int line) {
            int beginning = nights.partner[line];
            if (beginning < 0 || beginning >= line || nights.kind[beginning] != Nights.LOOP) {
                return line + 1;
            }
            rounds[beginning]--;
            return rounds[beginning] > 0 ? beginning + 1 : line + 1;
        }

        /** The line to come to next; NONE if there is none any more. */
        private int behindStep(Nights nights, Land land, int line) {
            int thing = nights.thing[line];
            int number = nights.number[line];
            switch (nights.kind[line]) {
                case Nights.HOUR:
                    goOn(land, number);
                    break;
                case Nights.OPEN:
                    turn(land, thing, true);
                    break;
                case Nights.SHUT:
                    turn(land, thing, false);
                    break;
                case Nights.BAIL:
                    bailOut(land, thing, number);
                    break;
                case Nights.ANY:
                    turnAny(land);
                    break;
                case Nights.LOOP:
                    rounds[line] = number;
                    break;
                case Nights.STOP:
                    return NONE;
                default:
                    return isSo(nights.kind[line], land, thing, number) ? line + 1 : nights.partner[line] + 1;
            }
            return line + 1;
        }

        private void goOn(Land land, int many) {
            if (land.hour + many > LAST_HOUR) {
                missed++;
                return;
            }
            int ahead = land.rooms.drowned;
            for (int h = 0; h < many; h++) {
                land.goOneHour();
            }
            hours += many;
            drowned += Integer.bitCount(land.rooms.drowned & ~ahead);
        }

        private void turn(Land land, int door, boolean open) {
            if (land.doors.isHeld(door) == open) {
                missed++;
            } else {
                land.doors.held ^= 1 << door;
            }
        }

        private void turnAny(Land land) {
            if (land.doors.count < 1) {
                missed++;
            } else {
                land.doors.held ^= 1 << drawBy(land.doors.count);
            }
        }

        private int drawBy(int n) {
            draw = (draw * 3011 + 11213) % 65536;
            return n < 1 ? 0 : draw / 8 % n;
        }

        private void bailOut(Land land, int room, int n) {
            if (room < 0 || room >= land.rooms.count || land.rooms.water[room] < n) {
                missed++;
            } else {
                land.rooms.water[room] -= n;
                bailed += n;
            }
        }

        private static boolean isSo(int kind, Land land, int thing, int number) {
            switch (kind) {
                case Nights.WHEN_WET: return land.rooms.depth(thing) > 0;
                case Nights.WHEN_OPEN: return (land.openNow() >> thing & 1) == 1;
                case Nights.WHEN_BELOW: return land.rooms.depth(thing) < number;
                case Nights.WHEN_ABOVE: return land.rooms.depth(thing) > number;
                case Nights.WHEN_EQUAL: return land.rooms.depth(thing) == number;
                default: return false;
            }
        }
    }

    /** Plans by trying them all on a copy of the LAND. */
    private static final class Planner {
        private static final int[] ORDERS = {1, 1, 2, 6, 24, 120};

        final Land then = new Land();
        final int[][] prints = new int[MOST_DOORS][MOST_ROOMS];
        final int[][] waterAt = new int[DAY][MOST_ROOMS];
        final int[] drownedAt = new int[DAY];
        int bestDrowned;
        int bestWater;
        int bestSet;

        static int wallsFor(Doors doors, int room) {
            int standing = doors.all() & ~doors.walled;
            int best = standing;
            int fewest = MOST_DOORS + 1;
            for (int set = 0; set <= standing; set++) {
                if ((set & ~standing) == 0 && Integer.bitCount(set) < fewest
                        && (doors.reached(1 << SEA, standing & ~set) >> room & 1) == 0) {
                    best = set;
                    fewest = Integer.bitCount(set);
                }
            }
            return best;
        }

        void planErrands(Land land) {
            then.copyFrom(land);
            then.doors.clearRota();
            bestDrowned = MOST_ROOMS + 1;
            bestWater = 0;
            bestSet = 0;
            tryErrands(this, 0, (1 << land.errands) - 1, 0);
        }

        /** The HOURS of the ERRANDS are kept four bits each, ERRAND 0 the highest: the first plan is the least. */
        private static int shiftOf(int errand) {
            return 4 * (MOST_ERRANDS - 1 - errand);
        }

        int plannedHour(int errand) {
            return bestSet >> shiftOf(errand) & 15;
        }

        /** All ways to go on the ERRANDS left; what was by the HOURS gone is had in common by them all. */
        private static void tryErrands(Planner p, int gone, int left, int plan) {
            if (gone >= DAY) {
                if (left == 0) {
                    p.weighPlan(plan);
                }
                return;
            }
            p.keepWater(gone);
            int hour = p.then.hourOfDay();
            int may = p.errandsAt(left, hour);
            int must = left & ~p.errandsLater(left, gone + 1, hour + 1);
            for (int now = 0; now <= may; now++) {
                if ((now & ~may) == 0 && (must & ~now) == 0) {
                    p.then.doors.rotaAt[hour] = p.doorsOf(now);
                    p.then.goOneHour();
                    tryErrands(p, gone + 1, left & ~now, plan | p.hoursOf(now, hour));
                    p.takeWaterBack(gone);
                }
            }
            p.then.doors.rotaAt[hour] = 0;
        }

        private void weighPlan(int plan) {
            int drowned = Integer.bitCount(then.rooms.drowned);
            int water = then.rooms.allWater();
            boolean isBetter = drowned < bestDrowned
                    || drowned == bestDrowned && water < bestWater
                    || drowned == bestDrowned && water == bestWater && plan < bestSet;
            if (isBetter) {
                bestDrowned = drowned;
                bestWater = water;
                bestSet = plan;
            }
        }

        private void keepWater(int gone) {
            System.arraycopy(then.rooms.water, 0, waterAt[gone], 0, MOST_ROOMS);
            drownedAt[gone] = then.rooms.drowned;
        }

        private void takeWaterBack(int gone) {
            System.arraycopy(waterAt[gone], 0, then.rooms.water, 0, MOST_ROOMS);
            then.rooms.drowned = drownedAt[gone];
            then.hour--;
        }

        private int errandsAt(int of, int hour) {
            int errands = 0;
            for (int e = 0; e < then.errands; e++) {
                if ((of >> e & 1) == 1 && hour >= then.errandFrom[e] && hour <= then.errandTo[e]) {
                    errands |= 1 << e;
                }
            }
            return errands;
        }

        private int errandsLater(int of, int gone, int firstHour) {
            int errands = 0;
            for (int i = 0; i < DAY - gone; i++) {
                errands |= errandsAt(of, (firstHour + i) % DAY);
            }
            return errands;
        }

        private int doorsOf(int errands) {
            int doors = 0;
            for (int e = 0; e < then.errands; e++) {
                if ((errands >> e & 1) == 1) {
                    doors |= 1 << then.errandDoor[e];
                }
            }
            return doors;
        }

        private int hoursOf(int errands, int hour) {
            int hours = 0;
            for (int e = 0; e < then.errands; e++) {
                if ((errands >> e & 1) == 1) {
                    hours |= hour << shiftOf(e);
                }
            }
            return hours;
        }

        void planPumps(Land land, int many) {
            then.copyFrom(land);
            bestWater = FAR_TOO_MUCH;
            bestSet = 0;
            for (int hours = 0; hours <= ALL_HOURS; hours++) {
                if (Integer.bitCount(hours) == many) {
                    then.copyWaterFrom(land);
                    then.pumpHours = hours;
                    int water = then.waterIn(DAY);
                    if (water < bestWater) {
                        bestWater = water;
                        bestSet = hours;
                    }
                }
            }
        }

        int damageBy(Land land, int doors) {
            then.copyFrom(land);
            then.doors.openJust(doors);
            return then.waterIn(DAY);
        }

        static int ordersOf(int doors) {
            int count = Integer.bitCount(doors);
            return count < ORDERS.length ? ORDERS[count] : 1;
        }

        /** How much more it is with the DOOR in all orders together: those ahead, those behind in any order. */
        long shareOfOrders(Land land, int door, int doors) {
            int others = doors & ~(1 << door);
            long share = 0;
            for (int ahead = 0; ahead <= others; ahead++) {
                if ((ahead & ~others) == 0) {
                    long orders = (long) ordersOf(ahead) * ordersOf(others & ~ahead);
                    share += orders * (damageBy(land, ahead | 1 << door) - damageBy(land, ahead));
                }
            }
            return share;
        }

        void findPrints(Land land) {
            for (int d = 0; d < land.doors.count; d++) {
                then.copyFrom(land);
                then.rooms.wipeMarks();
                then.doors.openJust(1 << d);
                then.goOn(DAY);
                System.arraycopy(then.rooms.mark, 0, prints[d], 0, MOST_ROOMS);
            }
        }

        /** By the prints found latest. */
        int unlikeMarks(Doors doors, int room) {
            int unlike = 0;
            for (int d = 0; d < doors.count; d++) {
                if (!doors.isWalled(d) && !isAmong(doors, d, room)) {
                    unlike++;
                }
            }
            return unlike;
        }

        private boolean isAmong(Doors doors, int door, int room) {
            for (int d = 0; d < door; d++) {
                if (!doors.isWalled(d) && prints[d][room] == prints[door][room]) {
                    return true;
                }
            }
            return false;
        }
    }
}
