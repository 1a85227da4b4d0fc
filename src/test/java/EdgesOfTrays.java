/** The sentences that name a boundary case: a new object, STATUS, FRACTIONS, TRAYS (promises 1 to 8). */
public final class EdgesOfTrays {
    private static final int LEAST = Integer.MIN_VALUE;
    private static final int MOST = Integer.MAX_VALUE;

    // ---- promise 1

    private static void newLandIsEmpty() {
        Kit.sentence("Promise 1: a LAND of no ROOMS, DOORS; no ERRANDS; HOUR 0");
        DryDoors x = new DryDoors();
        Kit.fine(x, "told(0)", x.told(0), 0);
        Kit.fine(x, "told(1)", x.told(1), 0);
        Kit.fine(x, "told(2)", x.told(2), 0);
        Kit.fine(x, "told(3)", x.told(3), 0);
        Kit.refused(x, "room(0, 0)", x.room(0, 0), 1);
        Kit.refused(x, "door(0, 0)", x.door(0, 0), 1);
        Kit.refused(x, "errand(0, 0)", x.errand(0, 0), 1);
    }

    private static void newTideIsTen() {
        Kit.sentence("Promise 1: TIDE 10");
        DryDoors x = new DryDoors();
        for (int h = 0; h < 12; h++) {
            Kit.fine(x, "tide " + h, x.tide(h), 10);
        }
    }

    private static void newWithoutNights() {
        Kit.sentence("Promise 1: no NIGHTS");
        DryDoors x = new DryDoors();
        Kit.refused(x, "live(0)", x.live(0), 6);
        Kit.refused(x, "mean(0, 1)", x.mean(0, 1), 6);
        Kit.refused(x, "lived(0)", x.lived(0), 6);
    }

    private static void newWithoutMarks() {
        Kit.sentence("Promise 1: no MARKS");
        DryDoors x = new DryDoors();
        Kit.refused(x, "undo()", x.undo(), 6);
        Kit.fine(x, "mark()", x.mark(), 1);
    }

    private static void newTraysAreMissing() {
        Kit.sentence("Promise 1: TRAYS are MISSING");
        DryDoors x = new DryDoors();
        for (int t = 0; t < 4; t++) {
            Kit.refused(x, "read " + t, x.read(t, 0), 2);
        }
    }

    private static void newTapeIsEmpty() {
        Kit.sentence("Promise 1: an empty tape");
        DryDoors x = new DryDoors();
        Kit.refused(x, "land(1)", x.land(1), 1);
        Kit.refused(x, "nights(1)", x.nights(1), 1);
        Kit.due("feed", x.feed(0, 0, 0, 0, 0), 20);
    }

    private static void newFraction() {
        Kit.sentence("Promise 1: the FRACTION 0 by 1; STATUS 0");
        DryDoors x = new DryDoors();
        Kit.due("status", x.status(), 0);
        Kit.due("top", x.top(), 0);
        Kit.due("bottom", x.bottom(), 1);
        Kit.due("status still", x.status(), 0);
    }

    // ---- promises 2 to 4

    private static void statusOfTheLatest() {
        Kit.sentence("Promise 2: STATUS of the latest call that has one");
        DryDoors x = Kit.of("room a floor 0;door p from sea to a sill 5;");
        Kit.refused(x, "room(1, 0)", x.room(1, 0), 1);
        Kit.refused(x, "read(0, 0)", x.read(0, 0), 2);
        Kit.fine(x, "told(0)", x.told(0), 1);
        Kit.refused(x, "undo()", x.undo(), 6);
        Kit.refused(x, "hold", x.hold(0, false), 7);
        Kit.fine(x, "hold", x.hold(0, true));
    }

    private static void callsWithoutStatus() {
        Kit.sentence("5.: status(), top(), bottom(), feed(), fault() have none");
        DryDoors x = new DryDoors();
        x.undo();
        x.top();
        Kit.due("behind top()", x.status(), 6);
        x.bottom();
        Kit.due("behind bottom()", x.status(), 6);
        x.fault(0);
        x.fault(7);
        Kit.due("behind fault()", x.status(), 6);
        for (int i = 0; i < 46; i++) {
            x.feed(0, 0, 0, 0, 0);
        }
        Kit.due("behind feed(), which had no room any more", x.status(), 6);
        x.status();
        Kit.due("behind status()", x.status(), 6);
        x.wipe();
        x.feed(0, 0, 0, 0, 0);
        Kit.due("behind feed(), 0 stays 0", x.status(), 0);
    }

    private static void latestFraction() {
        Kit.sentence("Promises 3, 4: the FRACTION told latest");
        DryDoors x = Kit.of("room a floor 0;door p from sea to a sill 5;");
        Kit.fine(x, "guilt", x.guilt(0, 1));
        // 5 in the first HOUR, 5 in the second, then as high as the SEA
        Kit.due("top", x.top(), 10);
        Kit.due("bottom", x.bottom(), 1);
        Kit.refused(x, "guilt of no set", x.guilt(0, 2), 1);
        Kit.refused(x, "mean without NIGHTS", x.mean(0, 1), 6);
        Kit.due("top is kept", x.top(), 10);
        Kit.due("bottom is kept", x.bottom(), 1);
        Kit.nights(x, "any;hour 1;");
        // seed 0: 11,213, by 8 is 1,401; of one DOOR it is 0, which is OPEN then: 5
        Kit.fine(x, "mean", x.mean(0, 1));
        Kit.due("top is another one", x.top(), 5);
    }

    private static void noCommonDivisor() {
        Kit.sentence("4.: FRACTIONS without a common divisor, the bottom above 0");
        DryDoors x = Kit.withNights("room a floor 0 area 20 water 6;", "hour 1;", 1);
        // the mean of 6 and 6 and .. is 6
        Kit.fine(x, "mean", x.mean(0, 20));
        Kit.due("top", x.top(), 6);
        Kit.due("bottom", x.bottom(), 1);
        // p alone takes 1 away, in the first of 12 HOURS
        DryDoors less = Kit.of("room a floor 50 water 1;door p from a to sea sill 50;");
        Kit.fine(less, "guilt", less.guilt(0, 1));
        Kit.due("top below 0", less.top(), -1);
        Kit.due("bottom above 0", less.bottom(), 1);
        // either DOOR alone takes it, both together no more: half of it each
        DryDoors two = Kit.of("room a floor 50 water 1;door p from a to sea sill 50;door q from a to sea sill 50;");
        Kit.fine(two, "guilt of two", two.guilt(1, 3));
        Kit.due("top of two", two.top(), -1);
        Kit.due("bottom of two", two.bottom(), 2);
        // half of 2 each
        DryDoors half = Kit.of("room a floor 50 water 2;door p from a to sea sill 50;door q from a to sea sill 50;");
        Kit.fine(half, "guilt of two", half.guilt(1, 3));
        Kit.due("top of half of -2", half.top(), -1);
        Kit.due("bottom of half of -2", half.bottom(), 1);
        // in 3 of 6 orders p is ahead of q; r takes nothing
        DryDoors three = Kit.of("room a floor 50 water 1;door p from a to sea sill 50;door q from a to sea sill 50;"
                + "door r from a to sea sill 99;");
        Kit.fine(three, "guilt of three", three.guilt(0, 7));
        Kit.due("top of -3 by 6", three.top(), -1);
        Kit.due("bottom of -3 by 6", three.bottom(), 2);
    }

    private static void zeroByOne() {
        Kit.sentence("4.: 0 is 0 by 1");
        DryDoors x = Kit.withNights("room a floor 0;door p from sea to a sill 99;", "hour 1;", 1);
        Kit.fine(x, "mean", x.mean(0, 7));
        Kit.due("top", x.top(), 0);
        Kit.due("bottom", x.bottom(), 1);
        Kit.fine(x, "guilt", x.guilt(0, 1));
        Kit.due("top", x.top(), 0);
        Kit.due("bottom", x.bottom(), 1);
    }

    // ---- promise 5

    private static void traysAreFour() {
        Kit.sentence("Terms: TRAYS 0 to 3");
        DryDoors x = new DryDoors();
        Kit.refused(x, "tray -1", x.tray(-1, 0, 1), 1);
        Kit.refused(x, "tray 4", x.tray(4, 0, 1), 1);
        Kit.refused(x, "tray least", x.tray(LEAST, 0, 1), 1);
        Kit.refused(x, "tray most", x.tray(MOST, 0, 1), 1);
        for (int t = 0; t < 4; t++) {
            Kit.fine(x, "tray " + t, x.tray(t, 3, 1));
            Kit.fine(x, "write", x.write(t, 0, 10 + t));
        }
        for (int t = 0; t < 4; t++) {
            Kit.fine(x, "each has its own row " + t, x.read(t, 0), 10 + t);
        }
    }

    private static void rowsOfZeroToSixty() {
        Kit.sentence("Terms: rows of 0 to 60 numbers");
        DryDoors x = new DryDoors();
        Kit.refused(x, "many -1", x.tray(0, 0, -1), 1);
        Kit.refused(x, "many 61", x.tray(0, 0, 61), 1);
        Kit.refused(x, "many least", x.tray(0, 0, LEAST), 1);
        Kit.refused(x, "many most", x.tray(0, 0, MOST), 1);
        Kit.refused(x, "it is MISSING still", x.read(0, 0), 2);
        Kit.fine(x, "many 60", x.tray(0, 0, 60));
        Kit.fine(x, "place 59", x.write(0, 59, 7));
        Kit.refused(x, "place 60", x.write(0, 60, 7), 3);
        Kit.fine(x, "many 0", x.tray(0, 0, 0));
        Kit.refused(x, "an empty row is not MISSING", x.read(0, 0), 3);
    }

    private static void sortsAreFour() {
        Kit.sentence("Terms: numbers of 8 bits (sort 0), 16 (1), 32 (2) or 64 (3)");
        DryDoors x = new DryDoors();
        Kit.refused(x, "sort -1", x.tray(0, -1, 1), 1);
        Kit.refused(x, "sort 4", x.tray(0, 4, 1), 1);
        Kit.refused(x, "sort least", x.tray(0, LEAST, 1), 1);
        Kit.refused(x, "sort most", x.tray(0, MOST, 1), 1);
        long[] most = {127, 32767, 2147483647L, Long.MAX_VALUE};
        for (int sort = 0; sort < 4; sort++) {
            x.tray(0, sort, 2);
            x.write(0, 0, most[sort]);
            x.write(0, 1, -most[sort] - 1);
            Kit.fine(x, "the most of sort " + sort, x.read(0, 0), most[sort]);
            Kit.fine(x, "the least of sort " + sort, x.read(0, 1), -most[sort] - 1);
        }
    }

    private static void rowOfZeros() {
        Kit.sentence("Promise 5: a row of so many 0s");
        DryDoors x = new DryDoors();
        x.tray(1, 3, 60);
        for (int i = 0; i < 60; i++) {
            x.write(1, i, i + 1);
        }
        Kit.fine(x, "laid anew", x.tray(1, 3, 59));
        for (int i = 0; i < 59; i++) {
            Kit.fine(x, "read " + i, x.read(1, i), 0);
        }
        Kit.refused(x, "read 59", x.read(1, 59), 3);
        Kit.fine(x, "laid longer", x.tray(1, 3, 60));
        Kit.fine(x, "read 59 of the longer", x.read(1, 59), 0);
    }

    // ---- promises 6, 7

    private static void cutToItsSort() {
        Kit.sentence("Promise 6: cut to its sort");
        DryDoors x = new DryDoors();
        long[] half = {128, 32768, 2147483648L};
        for (int sort = 0; sort < 3; sort++) {
            x.tray(0, sort, 1);
            long[] written = {half[sort], 2 * half[sort] - 1, 2 * half[sort], 2 * half[sort] + 5, -half[sort] - 1};
            long[] kept = {-half[sort], -1, 0, 5, half[sort] - 1};
            for (int i = 0; i < written.length; i++) {
                Kit.fine(x, "write " + written[i], x.write(0, 0, written[i]));
                Kit.fine(x, "read of sort " + sort, x.read(0, 0), kept[i]);
            }
        }
    }

    private static void placesOfWrite() {
        Kit.sentence("Promise 6: a place of a TRAY (3)");
        DryDoors x = new DryDoors();
        x.tray(2, 3, 3);
        Kit.refused(x, "place -1", x.write(2, -1, 5), 3);
        Kit.refused(x, "place 3", x.write(2, 3, 5), 3);
        Kit.refused(x, "place least", x.write(2, LEAST, 5), 3);
        Kit.refused(x, "place most", x.write(2, MOST, 5), 3);
        for (int i = 0; i < 3; i++) {
            Kit.fine(x, "nothing is written", x.read(2, i), 0);
        }
        Kit.fine(x, "place 0", x.write(2, 0, 6));
        Kit.fine(x, "place 2", x.write(2, 2, 8));
        Kit.fine(x, "first", x.read(2, 0), 6);
        Kit.fine(x, "between", x.read(2, 1), 0);
        Kit.fine(x, "last", x.read(2, 2), 8);
    }

    private static void orderOfWrite() {
        Kit.sentence("Promise 6: (1, 2, 3), the first that holds");
        DryDoors x = new DryDoors();
        Kit.refused(x, "no such TRAY, and no such place", x.write(4, -1, 0), 1);
        Kit.refused(x, "no such TRAY", x.write(-1, 0, 0), 1);
        Kit.refused(x, "MISSING, and no such place", x.write(3, -1, 0), 2);
        Kit.refused(x, "MISSING, and no such place", x.write(3, 60, 0), 2);
    }

    private static void placesOfRead() {
        Kit.sentence("Promise 7: the number in a place of a TRAY (3)");
        DryDoors x = new DryDoors();
        x.tray(0, 0, 1);
        Kit.refused(x, "place -1", x.read(0, -1), 3);
        Kit.refused(x, "place 1", x.read(0, 1), 3);
        Kit.refused(x, "place least", x.read(0, LEAST), 3);
        Kit.refused(x, "place most", x.read(0, MOST), 3);
        Kit.fine(x, "place 0", x.read(0, 0), 0);
    }

    private static void orderOfRead() {
        Kit.sentence("Promise 7: (1, 2, 3), the first that holds");
        DryDoors x = new DryDoors();
        Kit.refused(x, "no such TRAY, and no such place", x.read(4, -1), 1);
        Kit.refused(x, "no such TRAY", x.read(-1, 0), 1);
        Kit.refused(x, "MISSING, and no such place", x.read(3, -1), 2);
        Kit.refused(x, "MISSING, and no such place", x.read(3, 60), 2);
    }

    private static void noneAndMinusOne() {
        Kit.sentence("Promise 7: STATUS tells NONE from -1");
        DryDoors x = new DryDoors();
        x.tray(0, 2, 1);
        x.write(0, 0, -1);
        Kit.fine(x, "-1 is there", x.read(0, 0), -1);
        Kit.refused(x, "nothing is there", x.read(0, 1), 3);
    }

    // ---- promise 8

    private static DryDoors poured() {
        DryDoors x = new DryDoors();
        x.tray(0, 2, 4);
        x.tray(1, 2, 2);
        x.tray(2, 1, 4);
        for (int i = 0; i < 4; i++) {
            x.write(0, i, i + 1);
        }
        return x;
    }

    private static void dueRow(DryDoors x, String what, int tray, long... row) {
        for (int i = 0; i < row.length; i++) {
            Kit.fine(x, what + ": place " + i, x.read(tray, i), row[i]);
        }
    }

    private static void pouredAsTheyWere() {
        Kit.sentence("Promise 8: (or its own) place on, as they were");
        DryDoors up = poured();
        Kit.fine(up, "up by one", up.pour(0, 0, 0, 1, 3));
        dueRow(up, "up by one", 0, 1, 1, 2, 3);
        DryDoors down = poured();
        Kit.fine(down, "down by one", down.pour(0, 1, 0, 0, 3));
        dueRow(down, "down by one", 0, 2, 3, 4, 4);
        DryDoors same = poured();
        Kit.fine(same, "onto itself", same.pour(0, 0, 0, 0, 4));
        dueRow(same, "onto itself", 0, 1, 2, 3, 4);
        DryDoors other = poured();
        Kit.fine(other, "to another", other.pour(0, 2, 1, 0, 2));
        dueRow(other, "to another", 1, 3, 4);
        dueRow(other, "where it came from", 0, 1, 2, 3, 4);
    }

    private static void noneArePoured() {
        Kit.sentence("Promise 8: so many numbers: none of them");
        DryDoors x = poured();
        Kit.fine(x, "none", x.pour(0, 0, 1, 0, 0));
        Kit.fine(x, "none from behind the last to behind the last", x.pour(0, 4, 1, 2, 0));
        Kit.refused(x, "none from a place further on", x.pour(0, 5, 1, 0, 0), 3);
        Kit.refused(x, "none to a place further on", x.pour(0, 0, 1, 3, 0), 3);
        dueRow(x, "nothing came", 1, 0, 0);
        x.tray(3, 2, 0);
        Kit.fine(x, "none of an empty TRAY", x.pour(3, 0, 1, 0, 0));
        Kit.refused(x, "one of an empty TRAY", x.pour(3, 0, 1, 0, 1), 3);
    }

    private static void belowZero() {
        Kit.sentence("Promise 8: (1: below 0, too");
        DryDoors x = poured();
        Kit.refused(x, "place -1", x.pour(0, -1, 1, 0, 1), 1);
        Kit.refused(x, "at -1", x.pour(0, 0, 1, -1, 1), 1);
        Kit.refused(x, "many -1", x.pour(0, 1, 1, 1, -1), 1);
        Kit.refused(x, "least", x.pour(0, LEAST, 1, LEAST, LEAST), 1);
        Kit.refused(x, "from no TRAY", x.pour(-1, 0, 1, 0, 1), 1);
        Kit.refused(x, "from no TRAY", x.pour(4, 0, 1, 0, 1), 1);
        Kit.refused(x, "to no TRAY", x.pour(0, 0, -1, 0, 1), 1);
        Kit.refused(x, "to no TRAY", x.pour(0, 0, 4, 0, 1), 1);
        dueRow(x, "nothing came", 1, 0, 0);
    }

    private static void tooFew() {
        Kit.sentence("Promise 8: (3: a place that the TRAY has not, or too few numbers");
        DryDoors x = poured();
        Kit.fine(x, "the last two", x.pour(0, 2, 1, 0, 2));
        Kit.refused(x, "three from place 2", x.pour(0, 2, 0, 0, 3), 3);
        Kit.refused(x, "two to place 1", x.pour(0, 0, 1, 1, 2), 3);
        Kit.refused(x, "five", x.pour(0, 0, 0, 0, 5), 3);
        Kit.refused(x, "most", x.pour(0, MOST, 1, MOST, MOST), 3);
        Kit.refused(x, "most numbers from place 1", x.pour(0, 1, 1, 0, MOST), 3);
        Kit.refused(x, "from the place most", x.pour(0, MOST, 1, 0, 1), 3);
        Kit.refused(x, "to the place most", x.pour(0, 0, 1, MOST, 1), 3);
        dueRow(x, "nothing else came", 1, 3, 4);
        dueRow(x, "nothing else came", 0, 1, 2, 3, 4);
    }

    private static void orderOfPour() {
        Kit.sentence("Promise 8: 1, 2, 8, 3, asked in this order");
        DryDoors x = poured();
        Kit.refused(x, "1 ahead of 2", x.pour(3, -1, 0, 0, 0), 1);
        Kit.refused(x, "1 ahead of 2", x.pour(3, 0, 4, 0, 0), 1);
        Kit.refused(x, "1 ahead of 8", x.pour(0, 0, 2, 0, -1), 1);
        Kit.refused(x, "1 ahead of 3", x.pour(0, 99, 1, -1, 99), 1);
        Kit.refused(x, "2 ahead of 8", x.pour(0, 0, 3, 0, 1), 2);
        Kit.refused(x, "2 ahead of 3", x.pour(3, 0, 0, 0, 99), 2);
        Kit.refused(x, "2 ahead of 3", x.pour(0, 99, 3, 0, 99), 2);
        Kit.refused(x, "8 ahead of 3", x.pour(0, 0, 2, 0, 5), 8);
        Kit.refused(x, "8 ahead of 3", x.pour(2, 99, 0, 99, 1), 8);
        Kit.refused(x, "8 of no numbers", x.pour(0, 0, 2, 0, 0), 8);
        Kit.refused(x, "3 alone", x.pour(0, 0, 1, 0, 3), 3);
    }

    private static void traysStayBehindALand() {
        Kit.sentence("Promise 5: a TRAY is a row until it is laid anew");
        DryDoors x = new DryDoors();
        x.tray(0, 1, 1);
        x.write(0, 0, 300);
        Kit.land(x, "room a floor 0;");
        Kit.fine(x, "behind a LAND", x.read(0, 0), 300);
        Kit.refused(x, "refused", x.tray(0, 1, 61), 1);
        Kit.fine(x, "behind a refused call", x.read(0, 0), 300);
    }

    public static void main(String[] args) {
        newLandIsEmpty();
        newTideIsTen();
        newWithoutNights();
        newWithoutMarks();
        newTraysAreMissing();
        newTapeIsEmpty();
        newFraction();
        statusOfTheLatest();
        callsWithoutStatus();
        latestFraction();
        noCommonDivisor();
        zeroByOne();
        traysAreFour();
        rowsOfZeroToSixty();
        sortsAreFour();
        rowOfZeros();
        cutToItsSort();
        placesOfWrite();
        orderOfWrite();
        placesOfRead();
        orderOfRead();
        noneAndMinusOne();
        pouredAsTheyWere();
        noneArePoured();
        belowZero();
        tooFew();
        orderOfPour();
        traysStayBehindALand();
        Kit.end("edges of trays");
    }
}
