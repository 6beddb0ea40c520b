import java.lang.reflect.InvocationTargetException;
import java.lang.reflect.Method;
import java.util.TreeMap;

/**
 * One test for each clause of the 22 promises that names a boundary case: a range's ends, what is empty or full,
 * what is refused. Each test names its promise and its words with says; every private static void method without
 * parameters is a test and is run.
 */
public final class PromiseBoundaries {
    private static final int LEAST = Integer.MIN_VALUE, MOST = Integer.MAX_VALUE;
    private static final int NO_SUCH_POSITION = -1, NO_SUCH_TRACK = -2, NO_SUCH_LOCOMOTIVE = -3, BAD_VALUE = -4,
            NOT_EMPTY = -5, TOO_FEW = -6, ALL_DEAD = -7, NO_ROOM = -8, TOO_MANY = -9, NOT_SAVED = -10, NONE = -11;
    private static final int A = 0, B = 1, TABLE = 12;
    private static final int[] NO_POSITIONS = {-1, 12, 13, LEAST, MOST};
    private static final int[] NO_ENDS = {-1, 2, LEAST, MOST};
    private static final int[] NO_SLOTS = {-1, 2, LEAST, MOST};
    private static final int[] NO_COUNTS = {0, -1, -8, LEAST};

    private static String clause = "";
    private static int checks = 0;
    private static int wrong = 0;

    private static void says(int promise, String text) {
        clause = "promise " + promise + ", \"" + text + "\"";
    }

    private static void due(String call, Object got, Object want) {
        checks++;
        if (!got.equals(want)) {
            wrong++;
            System.out.println(clause + ": " + call + " answered " + got + ", due is " + want);
        }
    }

    public static void main(String[] args) throws IllegalAccessException {
        TreeMap<String, Method> tests = new TreeMap<>();
        for (Method m : PromiseBoundaries.class.getDeclaredMethods()) {
            if (m.getParameterCount() == 0 && m.getReturnType() == void.class && !m.isSynthetic()) {
                tests.put(m.getName(), m);
            }
        }
        for (Method test : tests.values()) {
            run(test);
        }
        System.out.println(tests.size() + " tests, " + checks + " checks, " + wrong + " wrong");
        if (wrong != 0 || tests.isEmpty()) {
            System.exit(1);
        }
    }

    private static void run(Method test) throws IllegalAccessException {
        clause = "";
        int before = checks;
        try {
            test.invoke(null);
        } catch (InvocationTargetException e) {
            wrong++;
            System.out.println(clause + ": " + test.getName() + " threw " + e.getCause());
        }
        if (clause.isEmpty() || checks == before) {
            wrong++;
            System.out.println(test.getName() + " names no clause or checks nothing");
        }
    }

    /** Track 0 of 40 with locomotives 1 (12) and 0 (10), track 6 of 30 with locomotive 2 (8), a table of 30. */
    private static TurntableHouse house() {
        TurntableHouse x = new TurntableHouse();
        x.setTrack(0, 40);
        x.setTrack(6, 30);
        x.addLocomotive(10, 0);
        x.addLocomotive(12, 0);
        x.addLocomotive(8, 6);
        return x;
    }

    /** Eight locomotives of 5 on track 0 of 60, a table of 60, a track 6 of 60. */
    private static TurntableHouse fullHouse() {
        TurntableHouse x = new TurntableHouse();
        x.setTableLength(60);
        x.setTrack(0, 60);
        x.setTrack(6, 60);
        for (int i = 0; i < 8; i++) {
            x.addLocomotive(5, 0);
        }
        return x;
    }

    private static String row(TurntableHouse x, int place) {
        StringBuilder digits = new StringBuilder();
        int count = x.row(place, -1);
        for (int i = 0; i < count; i++) {
            digits.append(x.row(place, i));
        }
        return digits.toString();
    }

    // ---- Promise 1: a new object

    private static void newWithoutTracks() {
        says(1, "Creates a house without tracks and locomotives");
        TurntableHouse x = new TurntableHouse();
        for (int position = 0; position < 12; position++) {
            due("trackLength(" + position + ")", x.trackLength(position), 0);
            due("freeLength(" + position + ")", x.freeLength(position), NO_SUCH_TRACK);
            due("row(" + position + ",-1)", x.row(position, -1), NO_SUCH_TRACK);
            due("addLocomotive(1," + position + ")", x.addLocomotive(1, position), NO_SUCH_TRACK);
        }
        due("locomotives()", x.locomotives(), 0);
        due("place(0)", x.place(0), NO_SUCH_LOCOMOTIVE);
        due("row(12,-1)", x.row(TABLE, -1), 0);
        due("freeLength(12)", x.freeLength(TABLE), 30);
        due("removeLocomotive()", x.removeLocomotive(), NONE);
    }

    private static void newPointsTo0() {
        says(1, "end A points to position 0");
        TurntableHouse x = new TurntableHouse();
        due("pointsTo(0)", x.pointsTo(A), 0);
        due("pointsTo(1)", x.pointsTo(B), 6);
        due("turnsMade()", x.turnsMade(), 0);
    }

    private static void newLogIsEmpty() {
        says(1, "the log is empty");
        TurntableHouse x = new TurntableHouse();
        due("log(-1)", x.log(-1), 0);
        due("log(0)", x.log(0), NONE);
        due("undo()", x.undo(), NONE);
    }

    private static void newNothingSaved() {
        says(1, "nothing is saved");
        TurntableHouse x = new TurntableHouse();
        due("restore(0)", x.restore(0), NOT_SAVED);
        due("restore(1)", x.restore(1), NOT_SAVED);
        TurntableHouse other = new TurntableHouse();
        other.save(0);
        due("restore(0), saved in another house", x.restore(0), NOT_SAVED);
    }

    // ---- Promise 2: setTrack

    private static void setTrackPositions() {
        says(2, "position: 0 to 11");
        TurntableHouse x = new TurntableHouse();
        due("setTrack(0,5)", x.setTrack(0, 5), 0);
        due("setTrack(11,6)", x.setTrack(11, 6), 0);
        due("trackLength(0)", x.trackLength(0), 5);
        due("trackLength(11)", x.trackLength(11), 6);
        due("trackLength(1)", x.trackLength(1), 0);
        due("trackLength(10)", x.trackLength(10), 0);
    }

    private static void setTrackLengths() {
        says(2, "length: 0 to remove the track, or its new length, 1 to 60");
        TurntableHouse x = new TurntableHouse();
        due("setTrack(4,1)", x.setTrack(4, 1), 0);
        due("trackLength(4)", x.trackLength(4), 1);
        due("setTrack(4,60)", x.setTrack(4, 60), 1);
        due("trackLength(4)", x.trackLength(4), 60);
        due("setTrack(4,0)", x.setTrack(4, 0), 60);
        due("freeLength(4) of a removed track", x.freeLength(4), NO_SUCH_TRACK);
        due("addLocomotive(1,4) to a removed track", x.addLocomotive(1, 4), NO_SUCH_TRACK);
    }

    private static void setTrackNoTrackBefore() {
        says(2, "Returns the previous length, 0 if there was no track");
        TurntableHouse x = new TurntableHouse();
        due("setTrack(4,0) without a track", x.setTrack(4, 0), 0);
        due("setTrack(4,7) without a track", x.setTrack(4, 7), 0);
        due("setTrack(4,7) again", x.setTrack(4, 7), 7);
        due("setTrack(4,0)", x.setTrack(4, 0), 7);
        due("setTrack(4,9) after it was removed", x.setTrack(4, 9), 0);
    }

    private static void setTrackNoPosition() {
        says(2, "NO_SUCH_POSITION if the position does not exist");
        TurntableHouse x = new TurntableHouse();
        for (int position : NO_POSITIONS) {
            due("setTrack(" + position + ",5)", x.setTrack(position, 5), NO_SUCH_POSITION);
            due("setTrack(" + position + ",0)", x.setTrack(position, 0), NO_SUCH_POSITION);
        }
        due("freeLength(12): the table", x.freeLength(TABLE), 30);
    }

    private static void setTrackBadLength() {
        says(2, "BAD_VALUE if the length is out of range");
        TurntableHouse x = new TurntableHouse();
        for (int length : new int[] {-1, 61, LEAST, MOST}) {
            due("setTrack(3," + length + ")", x.setTrack(3, length), BAD_VALUE);
        }
        due("trackLength(3)", x.trackLength(3), 0);
    }

    private static void setTrackNotEmpty() {
        says(2, "NOT_EMPTY if the locomotives on the track do not fit onto the new length");
        TurntableHouse x = house();
        due("setTrack(0,21) with 22 on it", x.setTrack(0, 21), NOT_EMPTY);
        due("setTrack(0,1) with 22 on it", x.setTrack(0, 1), NOT_EMPTY);
        due("trackLength(0)", x.trackLength(0), 40);
        due("setTrack(0,22) with 22 on it", x.setTrack(0, 22), 40);
        due("setTrack(0,21) with 22 on 22", x.setTrack(0, 21), NOT_EMPTY);
        x.moveIn(A, 1);
        due("setTrack(0,9) with 10 on it", x.setTrack(0, 9), NOT_EMPTY);
        due("setTrack(0,10) with 10 on it", x.setTrack(0, 10), 22);
    }

    private static void setTrackNotRemoved() {
        says(2, "also if the track would be removed and there is a locomotive on it");
        TurntableHouse x = new TurntableHouse();
        x.setTrack(0, 1);
        x.addLocomotive(1, 0);
        due("setTrack(0,0) with one of 1 on it", x.setTrack(0, 0), NOT_EMPTY);
        due("trackLength(0)", x.trackLength(0), 1);
        due("place(0)", x.place(0), 0);
        x.moveIn(A, 1);
        due("setTrack(0,0) after it has left", x.setTrack(0, 0), 1);
    }

    // ---- Promise 3: setTableLength

    private static void tableLengths() {
        says(3, "length: 1 to 60 Returns the previous length");
        TurntableHouse x = new TurntableHouse();
        due("setTableLength(1)", x.setTableLength(1), 30);
        due("freeLength(12)", x.freeLength(TABLE), 1);
        due("setTableLength(60)", x.setTableLength(60), 1);
        due("freeLength(12)", x.freeLength(TABLE), 60);
        due("setTableLength(60) again", x.setTableLength(60), 60);
    }

    private static void tableBadLength() {
        says(3, "BAD_VALUE if the length is out of range");
        TurntableHouse x = new TurntableHouse();
        for (int length : new int[] {0, -1, 61, LEAST, MOST}) {
            due("setTableLength(" + length + ")", x.setTableLength(length), BAD_VALUE);
        }
        due("freeLength(12)", x.freeLength(TABLE), 30);
    }

    private static void tableNotEmpty() {
        says(3, "NOT_EMPTY if the locomotives on the table do not fit onto it");
        TurntableHouse x = house();
        due("setTableLength(1) of an empty table", x.setTableLength(1), 30);
        x.setTableLength(30);
        x.moveIn(A, 2);
        due("setTableLength(21) with 22 on it", x.setTableLength(21), NOT_EMPTY);
        due("setTableLength(1) with 22 on it", x.setTableLength(1), NOT_EMPTY);
        due("freeLength(12)", x.freeLength(TABLE), 8);
        due("setTableLength(22) with 22 on it", x.setTableLength(22), 30);
        due("freeLength(12)", x.freeLength(TABLE), 0);
    }

    // ---- Promise 4: addLocomotive

    private static void addAsTheFirst() {
        says(4, "Adds a locomotive as the first one of the row on a track. It is alive.");
        TurntableHouse x = house();
        due("addLocomotive(5,0) before two others", x.addLocomotive(5, 0), 3);
        due("the row", row(x, 0), "310");
        due("moveIn(0,1) of it", x.moveIn(A, 1), 1);
        x.setDead(3, true);
        x.removeLocomotive();
        due("addLocomotive(5,0) after a dead one was removed", x.addLocomotive(5, 0), 3);
        due("moveIn(0,1) of it", x.moveIn(A, 1), 1);
        due("setDead(3,false)", x.setDead(3, false), 0);
    }

    private static void addLengths() {
        says(4, "length: 1 to 20");
        TurntableHouse x = new TurntableHouse();
        x.setTrack(11, 60);
        due("addLocomotive(1,11)", x.addLocomotive(1, 11), 0);
        due("freeLength(11)", x.freeLength(11), 59);
        due("addLocomotive(20,11)", x.addLocomotive(20, 11), 1);
        due("freeLength(11)", x.freeLength(11), 39);
    }

    private static void addNoPosition() {
        says(4, "NO_SUCH_POSITION if the position does not exist");
        TurntableHouse x = house();
        for (int position : NO_POSITIONS) {
            due("addLocomotive(5," + position + ")", x.addLocomotive(5, position), NO_SUCH_POSITION);
        }
        due("locomotives()", x.locomotives(), 3);
    }

    private static void addNoTrack() {
        says(4, "NO_SUCH_TRACK if there is no track");
        TurntableHouse x = house();
        for (int position = 0; position < 12; position++) {
            if (position % 6 != 0) {
                due("addLocomotive(5," + position + ")", x.addLocomotive(5, position), NO_SUCH_TRACK);
            }
        }
        due("locomotives()", x.locomotives(), 3);
    }

    private static void addBadLength() {
        says(4, "BAD_VALUE if the length is out of range");
        TurntableHouse x = house();
        for (int length : new int[] {0, -1, 21, LEAST, MOST}) {
            due("addLocomotive(" + length + ",6)", x.addLocomotive(length, 6), BAD_VALUE);
        }
        due("locomotives()", x.locomotives(), 3);
    }

    private static void addNoRoom() {
        says(4, "NO_ROOM if it does not fit");
        TurntableHouse x = house();
        due("addLocomotive(19,0) with 18 free", x.addLocomotive(19, 0), NO_ROOM);
        due("addLocomotive(18,0) with 18 free", x.addLocomotive(18, 0), 3);
        due("addLocomotive(1,0) to a full track", x.addLocomotive(1, 0), NO_ROOM);
        x.setTrack(3, 1);
        due("addLocomotive(2,3) to an empty track of 1", x.addLocomotive(2, 3), NO_ROOM);
        due("addLocomotive(1,3) to an empty track of 1", x.addLocomotive(1, 3), 4);
    }

    private static void addTooMany() {
        says(4, "TOO_MANY if there are 8 locomotives");
        TurntableHouse x = fullHouse();
        due("a ninth", x.addLocomotive(5, 0), TOO_MANY);
        due("a ninth on an empty track", x.addLocomotive(5, 6), TOO_MANY);
        x.moveIn(A, 8);
        due("a ninth with all on the table", x.addLocomotive(5, 0), TOO_MANY);
        due("removeLocomotive()", x.removeLocomotive(), 7);
        due("an eighth", x.addLocomotive(5, 0), 7);
        due("a ninth", x.addLocomotive(5, 0), TOO_MANY);
        due("locomotives()", x.locomotives(), 8);
    }

    // ---- Promise 5: removeLocomotive

    private static void removeWherever() {
        says(5, "Removes the locomotive that was added last, wherever it stands.");
        TurntableHouse x = fullHouse();
        x.moveIn(A, 8);
        due("the table", row(x, TABLE), "01234567");
        due("removeLocomotive() at the table's end", x.removeLocomotive(), 7);
        due("the table", row(x, TABLE), "0123456");
        due("freeLength(12)", x.freeLength(TABLE), 25);
        x.moveOut(B, 2);
        due("the track", row(x, 6), "56");
        due("removeLocomotive() at the track's end", x.removeLocomotive(), 6);
        due("the track", row(x, 6), "5");
        due("freeLength(6)", x.freeLength(6), 55);
        due("removeLocomotive() of the only one", x.removeLocomotive(), 5);
        due("row(6,-1)", x.row(6, -1), 0);
        due("freeLength(6)", x.freeLength(6), 60);
        due("the table", row(x, TABLE), "01234");
    }

    private static void removeKeepsTheOrder() {
        says(5, "The others keep their order.");
        TurntableHouse x = fullHouse();
        due("removeLocomotive() at the front of a row", x.removeLocomotive(), 7);
        due("the track", row(x, 0), "6543210");
        x.moveIn(A, 1);
        x.moveOut(B, 1);
        x.moveIn(A, 6);
        x.moveIn(B, 1);
        due("the table", row(x, TABLE), "0123456");
        x.moveOut(B, 2);
        x.turn(6);
        x.moveOut(B, 2);
        x.turn(6);
        due("the track at 0", row(x, 0), "34");
        x.moveIn(B, 2);
        x.moveOut(A, 5);
        due("the track at 0", row(x, 0), "6521034");
        due("removeLocomotive() in front", x.removeLocomotive(), 6);
        due("removeLocomotive() in front", x.removeLocomotive(), 5);
        due("removeLocomotive() at the end", x.removeLocomotive(), 4);
        due("removeLocomotive() at the end", x.removeLocomotive(), 3);
        due("the track at 0", row(x, 0), "210");
        x.moveIn(A, 2);
        x.moveOut(A, 1);
        due("the track at 0", row(x, 0), "10");
        x.moveOut(A, 1);
        due("the track at 0", row(x, 0), "210");
    }

    private static void removeInTheMiddle() {
        says(5, "The others keep their order.");
        TurntableHouse x = fullHouse();
        x.removeLocomotive();
        x.removeLocomotive();
        x.removeLocomotive();
        x.moveIn(A, 1);
        x.moveOut(B, 1);
        x.moveIn(A, 2);
        x.moveIn(B, 1);
        x.moveIn(A, 2);
        due("the table", row(x, TABLE), "01234");
        x.moveOut(B, 1);
        x.moveOut(A, 2);
        x.moveIn(B, 1);
        x.turn(6);
        x.moveIn(B, 2);
        due("the table, the last one in the middle", row(x, TABLE), "23410");
        due("removeLocomotive() in the middle", x.removeLocomotive(), 4);
        due("the table", row(x, TABLE), "2310");
    }

    private static void removeNumberLeft() {
        says(5, "Returns the number of locomotives left; NONE if there is no locomotive.");
        TurntableHouse x = fullHouse();
        for (int left = 7; left >= 0; left--) {
            due("removeLocomotive()", x.removeLocomotive(), left);
            due("locomotives()", x.locomotives(), left);
        }
        due("removeLocomotive() of none", x.removeLocomotive(), NONE);
        due("removeLocomotive() of none again", x.removeLocomotive(), NONE);
        due("locomotives()", x.locomotives(), 0);
        due("freeLength(0)", x.freeLength(0), 60);
    }

    // ---- Promise 6: setDead

    private static void deadBefore() {
        says(6, "Returns 1 if it was dead before, otherwise 0");
        TurntableHouse x = fullHouse();
        for (int locomotive = 0; locomotive < 8; locomotive += 7) {
            due("setDead(l,false) of a live one", x.setDead(locomotive, false), 0);
            due("setDead(l,true) of a live one", x.setDead(locomotive, true), 0);
            due("setDead(l,true) of a dead one", x.setDead(locomotive, true), 1);
            due("setDead(l,false) of a dead one", x.setDead(locomotive, false), 1);
            due("setDead(l,false) of a live one", x.setDead(locomotive, false), 0);
        }
        x.setDead(3, true);
        due("setDead(2,true), its neighbour", x.setDead(2, true), 0);
        due("setDead(4,true), its neighbour", x.setDead(4, true), 0);
        due("setDead(3,false)", x.setDead(3, false), 1);
        due("setDead(2,false)", x.setDead(2, false), 1);
    }

    private static void deadNoLocomotive() {
        says(6, "NO_SUCH_LOCOMOTIVE if it does not exist");
        TurntableHouse x = house();
        for (int locomotive : new int[] {-1, 3, 7, 8, 32, LEAST, MOST}) {
            due("setDead(" + locomotive + ",true)", x.setDead(locomotive, true), NO_SUCH_LOCOMOTIVE);
            due("setDead(" + locomotive + ",false)", x.setDead(locomotive, false), NO_SUCH_LOCOMOTIVE);
        }
        due("setDead(2,true), the last one", x.setDead(2, true), 0);
        x.removeLocomotive();
        due("setDead(2,true), removed", x.setDead(2, true), NO_SUCH_LOCOMOTIVE);
        due("setDead(0,true), the first one", x.setDead(0, true), 0);
        TurntableHouse y = fullHouse();
        due("setDead(8,true) of eight", y.setDead(8, true), NO_SUCH_LOCOMOTIVE);
        due("setDead(7,true) of eight", y.setDead(7, true), 0);
    }

    // ---- Promise 7: locomotives

    private static void numberOfLocomotives() {
        says(7, "Returns the number of locomotives.");
        due("locomotives() of a new house", new TurntableHouse().locomotives(), 0);
        TurntableHouse x = fullHouse();
        due("locomotives() of a full house", x.locomotives(), 8);
        x.addLocomotive(1, 0);
        due("locomotives() after a refused ninth", x.locomotives(), 8);
        x.moveIn(A, 8);
        due("locomotives() with all on the table", x.locomotives(), 8);
        x.removeLocomotive();
        due("locomotives()", x.locomotives(), 7);
    }

    // ---- Promise 8: trackLength

    private static void trackLengths() {
        says(8, "Returns the length, 0 if there is no track");
        TurntableHouse x = new TurntableHouse();
        x.setTrack(0, 60);
        x.setTrack(11, 1);
        x.addLocomotive(20, 0);
        due("trackLength(0) with a locomotive on it", x.trackLength(0), 60);
        due("trackLength(11)", x.trackLength(11), 1);
        due("trackLength(1) without a track", x.trackLength(1), 0);
        due("trackLength(10) without a track", x.trackLength(10), 0);
        x.setTrack(11, 0);
        due("trackLength(11) of a removed track", x.trackLength(11), 0);
    }

    private static void trackLengthPositions() {
        says(8, "position: 0 to 11");
        TurntableHouse x = new TurntableHouse();
        for (int position = 0; position < 12; position++) {
            x.setTrack(position, position + 1);
        }
        for (int position = 0; position < 12; position++) {
            due("trackLength(" + position + ")", x.trackLength(position), position + 1);
        }
        due("trackLength(12): the table is no position", x.trackLength(TABLE), NO_SUCH_POSITION);
        due("trackLength(-1)", x.trackLength(-1), NO_SUCH_POSITION);
    }

    private static void trackLengthNoPosition() {
        says(8, "NO_SUCH_POSITION if the position does not exist");
        TurntableHouse x = house();
        for (int position : NO_POSITIONS) {
            due("trackLength(" + position + ")", x.trackLength(position), NO_SUCH_POSITION);
        }
    }

    // ---- Promise 9: freeLength

    private static void freeLengths() {
        says(9, "Returns the length that no locomotive occupies");
        TurntableHouse x = fullHouse();
        due("freeLength(6) of an empty track", x.freeLength(6), 60);
        due("freeLength(12) of an empty table", x.freeLength(TABLE), 60);
        due("freeLength(0)", x.freeLength(0), 20);
        x.setTrack(0, 40);
        due("freeLength(0) of a full track", x.freeLength(0), 0);
        x.setTableLength(40);
        x.moveIn(A, 8);
        due("freeLength(12) of a full table", x.freeLength(TABLE), 0);
        due("freeLength(0) of an emptied track", x.freeLength(0), 40);
        x.setTrack(11, 3);
        due("freeLength(11)", x.freeLength(11), 3);
    }

    private static void freeLengthPlaces() {
        says(9, "place: 0 to 11 for the track at this position, TABLE for the table");
        TurntableHouse x = new TurntableHouse();
        for (int position = 0; position < 12; position++) {
            x.setTrack(position, 20 + position);
        }
        x.addLocomotive(7, 0);
        x.addLocomotive(9, 11);
        due("freeLength(0)", x.freeLength(0), 13);
        for (int position = 1; position < 11; position++) {
            due("freeLength(" + position + ")", x.freeLength(position), 20 + position);
        }
        due("freeLength(11)", x.freeLength(11), 22);
        due("freeLength(12)", x.freeLength(TABLE), 30);
        due("freeLength(13)", x.freeLength(13), NO_SUCH_POSITION);
        due("freeLength(-1)", x.freeLength(-1), NO_SUCH_POSITION);
    }

    private static void freeLengthNoPlace() {
        says(9, "NO_SUCH_POSITION if there is no such place");
        TurntableHouse x = house();
        for (int place : new int[] {-1, 13, LEAST, MOST}) {
            due("freeLength(" + place + ")", x.freeLength(place), NO_SUCH_POSITION);
        }
        due("freeLength(12): the table is a place", x.freeLength(TABLE), 30);
    }

    private static void freeLengthNoTrack() {
        says(9, "NO_SUCH_TRACK if there is no track at the position");
        TurntableHouse x = new TurntableHouse();
        due("freeLength(0)", x.freeLength(0), NO_SUCH_TRACK);
        due("freeLength(11)", x.freeLength(11), NO_SUCH_TRACK);
        x.setTrack(11, 5);
        due("freeLength(11) with a track", x.freeLength(11), 5);
        x.setTrack(11, 0);
        due("freeLength(11) of a removed track", x.freeLength(11), NO_SUCH_TRACK);
    }

    // ---- Promise 10: row

    private static void rowIndices() {
        says(10, "index: index in the row, from 0; or -1 for the number of locomotives in the row");
        TurntableHouse x = fullHouse();
        due("row(0,-1)", x.row(0, -1), 8);
        due("row(0,0)", x.row(0, 0), 7);
        due("row(0,7)", x.row(0, 7), 0);
        due("row(6,-1) of an empty track", x.row(6, -1), 0);
        due("row(12,-1) of an empty table", x.row(TABLE, -1), 0);
        x.moveIn(A, 8);
        due("row(12,-1)", x.row(TABLE, -1), 8);
        due("row(12,0)", x.row(TABLE, 0), 0);
        due("row(12,7)", x.row(TABLE, 7), 7);
    }

    private static void rowPlaces() {
        says(10, "place: 0 to 11 for the track at this position, TABLE for the table");
        TurntableHouse x = new TurntableHouse();
        x.setTrack(0, 10);
        x.setTrack(1, 10);
        x.setTrack(11, 10);
        x.addLocomotive(1, 0);
        x.addLocomotive(1, 11);
        x.addLocomotive(1, 0);
        x.moveIn(A, 1);
        due("row(0,0)", x.row(0, 0), 0);
        due("row(1,0)", x.row(1, 0), NONE);
        due("row(11,0)", x.row(11, 0), 1);
        due("row(12,0)", x.row(TABLE, 0), 2);
        due("row(13,0)", x.row(13, 0), NO_SUCH_POSITION);
        due("row(-1,0)", x.row(-1, 0), NO_SUCH_POSITION);
    }

    private static void rowNoPlace() {
        says(10, "NO_SUCH_POSITION if there is no such place");
        TurntableHouse x = house();
        for (int place : new int[] {-1, 13, LEAST, MOST}) {
            due("row(" + place + ",-1)", x.row(place, -1), NO_SUCH_POSITION);
            due("row(" + place + ",0)", x.row(place, 0), NO_SUCH_POSITION);
        }
    }

    private static void rowNoTrack() {
        says(10, "NO_SUCH_TRACK if there is no track at the position");
        TurntableHouse x = house();
        due("row(11,-1)", x.row(11, -1), NO_SUCH_TRACK);
        due("row(1,0)", x.row(1, 0), NO_SUCH_TRACK);
        x.removeLocomotive();
        x.setTrack(6, 0);
        due("row(6,-1) of a removed track", x.row(6, -1), NO_SUCH_TRACK);
    }

    private static void rowNoIndex() {
        says(10, "NONE if there is no such index");
        TurntableHouse x = house();
        for (int index : new int[] {2, 8, -2, LEAST, MOST}) {
            due("row(0," + index + ")", x.row(0, index), NONE);
        }
        due("row(12,0) of an empty table", x.row(TABLE, 0), NONE);
        x.moveIn(B, 1);
        due("row(6,0) of an empty track", x.row(6, 0), NONE);
        due("row(12,1)", x.row(TABLE, 1), NONE);
        TurntableHouse y = fullHouse();
        due("row(0,8) of eight", y.row(0, 8), NONE);
        y.moveIn(A, 8);
        due("row(12,8) of eight", y.row(TABLE, 8), NONE);
        due("row(12,-2) of eight", y.row(TABLE, -2), NONE);
    }

    // ---- Promise 11: place

    private static void places() {
        says(11, "Returns the position of its track, or TABLE");
        TurntableHouse x = new TurntableHouse();
        x.setTrack(0, 10);
        x.setTrack(11, 10);
        x.addLocomotive(5, 0);
        x.addLocomotive(5, 11);
        due("place(0)", x.place(0), 0);
        due("place(1)", x.place(1), 11);
        x.moveIn(A, 1);
        due("place(0) on the table", x.place(0), TABLE);
        due("place(1)", x.place(1), 11);
        x.turn(-1);
        x.moveOut(A, 1);
        due("place(0) moved out", x.place(0), 11);
        x.undo();
        due("place(0) undone", x.place(0), TABLE);
    }

    private static void placeNoLocomotive() {
        says(11, "NO_SUCH_LOCOMOTIVE if it does not exist");
        TurntableHouse x = house();
        for (int locomotive : new int[] {-1, 3, 8, LEAST, MOST}) {
            due("place(" + locomotive + ")", x.place(locomotive), NO_SUCH_LOCOMOTIVE);
        }
        due("place(2), the last one", x.place(2), 6);
        x.removeLocomotive();
        due("place(2), removed", x.place(2), NO_SUCH_LOCOMOTIVE);
        TurntableHouse y = fullHouse();
        due("place(8) of eight", y.place(8), NO_SUCH_LOCOMOTIVE);
        due("place(7) of eight", y.place(7), 0);
    }

    // ---- Promise 12: pointsTo

    private static void pointsToWrapsAround() {
        says(12, "Returns the position to which an end of the table points.");
        TurntableHouse x = new TurntableHouse();
        x.turn(5);
        due("pointsTo(1) with end A at 5", x.pointsTo(B), 11);
        x.turn(1);
        due("pointsTo(1) with end A at 6", x.pointsTo(B), 0);
        x.turn(5);
        due("pointsTo(0)", x.pointsTo(A), 11);
        due("pointsTo(1) with end A at 11", x.pointsTo(B), 5);
        x.turn(1);
        due("pointsTo(0) after a round", x.pointsTo(A), 0);
        due("pointsTo(1) after a round", x.pointsTo(B), 6);
    }

    private static void pointsToEnds() {
        says(12, "end: END_A or END_B");
        TurntableHouse x = new TurntableHouse();
        due("pointsTo(END_A)", x.pointsTo(TurntableHouse.END_A), 0);
        due("pointsTo(END_B)", x.pointsTo(TurntableHouse.END_B), 6);
        due("pointsTo(END_A - 1)", x.pointsTo(TurntableHouse.END_A - 1), BAD_VALUE);
        due("pointsTo(END_B + 1)", x.pointsTo(TurntableHouse.END_B + 1), BAD_VALUE);
    }

    private static void pointsToNoEnd() {
        says(12, "BAD_VALUE if there is no such end");
        TurntableHouse x = new TurntableHouse();
        for (int end : NO_ENDS) {
            due("pointsTo(" + end + ")", x.pointsTo(end), BAD_VALUE);
        }
    }

    // ---- Promise 13: turn

    private static void turnRange() {
        says(13, "turns: number of turns, 1 to 11 clockwise, or -1 to -11 counterclockwise");
        TurntableHouse x = new TurntableHouse();
        due("turn(1)", x.turn(1), 1);
        due("turn(-1)", x.turn(-1), 0);
        due("turn(11)", x.turn(11), 11);
        due("turn(-11)", x.turn(-11), 0);
        due("turn(-1) over 0", x.turn(-1), 11);
        due("turn(1) over 11", x.turn(1), 0);
        due("turn(-11) over 0", x.turn(-11), 1);
        due("turn(11) over 11", x.turn(11), 0);
        due("turnsMade()", x.turnsMade(), 48);
    }

    private static void turnOutOfRange() {
        says(13, "BAD_VALUE if the number of turns is out of range or 0");
        TurntableHouse x = new TurntableHouse();
        for (int turns : new int[] {0, 12, -12, 13, LEAST, MOST}) {
            due("turn(" + turns + ")", x.turn(turns), BAD_VALUE);
        }
        due("pointsTo(0)", x.pointsTo(A), 0);
        due("turnsMade()", x.turnsMade(), 0);
        due("log(-1)", x.log(-1), 0);
    }

    // ---- Promise 14: moveIn

    private static void moveInNumber() {
        says(14, "Returns the number of locomotives on the table then");
        TurntableHouse x = fullHouse();
        due("moveIn(0,1) onto the empty table", x.moveIn(A, 1), 1);
        due("moveIn(0,7): all that are left", x.moveIn(A, 7), 8);
        TurntableHouse y = fullHouse();
        due("moveIn(0,8): all", y.moveIn(A, 8), 8);
        due("row(0,-1)", y.row(0, -1), 0);
        TurntableHouse z = house();
        due("moveIn(1,1)", z.moveIn(B, 1), 1);
        due("moveIn(0,1)", z.moveIn(A, 1), 2);
    }

    private static void moveInRanges() {
        says(14, "end: END_A or END_B - count: number of locomotives, at least 1");
        TurntableHouse x = house();
        due("moveIn(END_A,1)", x.moveIn(TurntableHouse.END_A, 1), 1);
        due("place(1), from the track at end A", x.place(1), TABLE);
        due("moveIn(END_B,1)", x.moveIn(TurntableHouse.END_B, 1), 2);
        due("place(2), from the track at end B", x.place(2), TABLE);
        due("the table", row(x, TABLE), "12");
        due("moveIn(END_A,0)", x.moveIn(TurntableHouse.END_A, 0), BAD_VALUE);
        due("moveIn(END_B + 1,1)", x.moveIn(TurntableHouse.END_B + 1, 1), BAD_VALUE);
        due("moveIn(END_A - 1,1)", x.moveIn(TurntableHouse.END_A - 1, 1), BAD_VALUE);
    }

    private static void moveInBadValue() {
        says(14, "BAD_VALUE if there is no such end, or the count is less than 1");
        TurntableHouse x = house();
        for (int end : NO_ENDS) {
            due("moveIn(" + end + ",1)", x.moveIn(end, 1), BAD_VALUE);
        }
        for (int count : NO_COUNTS) {
            due("moveIn(0," + count + ")", x.moveIn(A, count), BAD_VALUE);
            due("moveIn(1," + count + ")", x.moveIn(B, count), BAD_VALUE);
        }
        due("row(12,-1)", x.row(TABLE, -1), 0);
    }

    private static void moveInNoTrack() {
        says(14, "NO_SUCH_TRACK if the end does not point to a track");
        TurntableHouse x = house();
        x.turn(1);
        due("moveIn(0,1)", x.moveIn(A, 1), NO_SUCH_TRACK);
        due("moveIn(1,1)", x.moveIn(B, 1), NO_SUCH_TRACK);
        x.setTrack(7, 5);
        due("moveIn(0,1) with a track at the other end", x.moveIn(A, 1), NO_SUCH_TRACK);
        x.turn(6);
        due("moveIn(1,1) with a track at the other end", x.moveIn(B, 1), NO_SUCH_TRACK);
    }

    private static void moveInTooFew() {
        says(14, "TOO_FEW if there are fewer locomotives on the track");
        TurntableHouse x = house();
        x.setTableLength(60);
        due("moveIn(0,3) of two", x.moveIn(A, 3), TOO_FEW);
        due("moveIn(0,MAX) of two", x.moveIn(A, MOST), TOO_FEW);
        due("moveIn(1,2) of one", x.moveIn(B, 2), TOO_FEW);
        due("moveIn(0,2) of two", x.moveIn(A, 2), 2);
        due("moveIn(0,1) of none", x.moveIn(A, 1), TOO_FEW);
        due("moveIn(1,1) of one", x.moveIn(B, 1), 3);
        due("moveIn(1,1) of none", x.moveIn(B, 1), TOO_FEW);
        due("moveIn(0,9) of eight", fullHouse().moveIn(A, 9), TOO_FEW);
    }

    private static void moveInAllDead() {
        says(14, "ALL_DEAD if none of those that would move is alive");
        TurntableHouse x = fullHouse();
        for (int locomotive = 1; locomotive < 8; locomotive++) {
            x.setDead(locomotive, true);
        }
        due("moveIn(0,1) of a dead one", x.moveIn(A, 1), ALL_DEAD);
        due("moveIn(0,7), the eighth one alive", x.moveIn(A, 7), ALL_DEAD);
        due("moveIn(0,8), the eighth one alive", x.moveIn(A, 8), 8);
        x.undo();
        x.setDead(0, true);
        due("moveIn(0,8), none alive", x.moveIn(A, 8), ALL_DEAD);
        x.setDead(7, false);
        due("moveIn(0,1), alive", x.moveIn(A, 1), 1);
        due("moveIn(0,1), a live one is on the table only", x.moveIn(A, 1), ALL_DEAD);
    }

    private static void moveInNoRoom() {
        says(14, "NO_ROOM if they do not fit onto the table");
        TurntableHouse x = house();
        x.setTableLength(21);
        due("moveIn(0,2) of 22 onto 21", x.moveIn(A, 2), NO_ROOM);
        x.setTableLength(22);
        due("moveIn(0,2) of 22 onto 22", x.moveIn(A, 2), 2);
        due("moveIn(1,1) onto a full table", x.moveIn(B, 1), NO_ROOM);
        x.setTableLength(29);
        due("moveIn(1,1) of 8 with 7 free", x.moveIn(B, 1), NO_ROOM);
        x.setTableLength(30);
        due("moveIn(1,1) of 8 with 8 free", x.moveIn(B, 1), 3);
    }

    // ---- Promise 15: moveOut

    private static void moveOutNumber() {
        says(15, "Returns the number of locomotives on the track then");
        TurntableHouse x = fullHouse();
        x.moveIn(A, 8);
        due("moveOut(1,1) onto an empty track", x.moveOut(B, 1), 1);
        due("moveOut(1,7): all that are left", x.moveOut(B, 7), 8);
        due("row(12,-1)", x.row(TABLE, -1), 0);
        x.moveIn(B, 8);
        due("moveOut(0,8): all", x.moveOut(A, 8), 8);
        TurntableHouse y = house();
        y.moveIn(A, 1);
        due("moveOut(1,1) in front of one", y.moveOut(B, 1), 2);
    }

    private static void moveOutRanges() {
        says(15, "end: END_A or END_B - count: number of locomotives, at least 1");
        TurntableHouse x = house();
        x.moveIn(A, 2);
        due("moveOut(END_A,0)", x.moveOut(TurntableHouse.END_A, 0), BAD_VALUE);
        due("moveOut(END_B + 1,1)", x.moveOut(TurntableHouse.END_B + 1, 1), BAD_VALUE);
        due("moveOut(END_A - 1,1)", x.moveOut(TurntableHouse.END_A - 1, 1), BAD_VALUE);
        due("moveOut(END_B,1)", x.moveOut(TurntableHouse.END_B, 1), 2);
        due("the track at end B", row(x, 6), "12");
        due("moveOut(END_A,1)", x.moveOut(TurntableHouse.END_A, 1), 1);
        due("the track at end A", row(x, 0), "0");
    }

    private static void moveOutBadValue() {
        says(15, "BAD_VALUE if there is no such end, or the count is less than 1");
        TurntableHouse x = house();
        x.moveIn(A, 2);
        for (int end : NO_ENDS) {
            due("moveOut(" + end + ",1)", x.moveOut(end, 1), BAD_VALUE);
        }
        for (int count : NO_COUNTS) {
            due("moveOut(0," + count + ")", x.moveOut(A, count), BAD_VALUE);
            due("moveOut(1," + count + ")", x.moveOut(B, count), BAD_VALUE);
        }
        due("row(12,-1)", x.row(TABLE, -1), 2);
    }

    private static void moveOutNoTrack() {
        says(15, "NO_SUCH_TRACK if the end does not point to a track");
        TurntableHouse x = house();
        x.moveIn(A, 2);
        x.turn(1);
        due("moveOut(0,1)", x.moveOut(A, 1), NO_SUCH_TRACK);
        due("moveOut(1,1)", x.moveOut(B, 1), NO_SUCH_TRACK);
        x.setTrack(7, 60);
        due("moveOut(0,1) with a track at the other end", x.moveOut(A, 1), NO_SUCH_TRACK);
        x.turn(6);
        due("moveOut(1,1) with a track at the other end", x.moveOut(B, 1), NO_SUCH_TRACK);
        due("moveOut(0,1)", x.moveOut(A, 1), 1);
    }

    private static void moveOutTooFew() {
        says(15, "TOO_FEW if there are fewer locomotives on the table");
        TurntableHouse x = house();
        due("moveOut(0,1) from an empty table", x.moveOut(A, 1), TOO_FEW);
        due("moveOut(1,1) from an empty table", x.moveOut(B, 1), TOO_FEW);
        x.moveIn(A, 2);
        due("moveOut(0,3) of two", x.moveOut(A, 3), TOO_FEW);
        due("moveOut(1,3) of two", x.moveOut(B, 3), TOO_FEW);
        due("moveOut(0,MAX) of two", x.moveOut(A, MOST), TOO_FEW);
        due("moveOut(1,2) of two", x.moveOut(B, 2), 3);
        TurntableHouse y = fullHouse();
        y.moveIn(A, 8);
        due("moveOut(1,9) of eight", y.moveOut(B, 9), TOO_FEW);
    }

    private static void moveOutAllDead() {
        says(15, "ALL_DEAD if none of those that would move is alive");
        TurntableHouse x = fullHouse();
        x.moveIn(A, 8);
        for (int locomotive = 1; locomotive < 8; locomotive++) {
            x.setDead(locomotive, true);
        }
        due("moveOut(1,1) of a dead one", x.moveOut(B, 1), ALL_DEAD);
        due("moveOut(1,7), the eighth one alive", x.moveOut(B, 7), ALL_DEAD);
        due("moveOut(1,8), the eighth one alive", x.moveOut(B, 8), 8);
        x.undo();
        due("moveOut(0,1), alive", x.moveOut(A, 1), 1);
        due("moveOut(0,1), a live one is on the track only", x.moveOut(A, 1), ALL_DEAD);
        x.undo();
        x.setDead(0, true);
        x.setDead(7, false);
        due("moveOut(0,7), the eighth one alive", x.moveOut(A, 7), ALL_DEAD);
        due("moveOut(0,8), the eighth one alive", x.moveOut(A, 8), 8);
    }

    private static void moveOutNoRoom() {
        says(15, "NO_ROOM if they do not fit onto the track");
        TurntableHouse x = house();
        x.moveIn(A, 2);
        x.setTrack(6, 19);
        due("moveOut(1,1) of 12 with 11 free", x.moveOut(B, 1), NO_ROOM);
        x.setTrack(6, 20);
        due("moveOut(1,1) of 12 with 12 free", x.moveOut(B, 1), 2);
        due("freeLength(6)", x.freeLength(6), 0);
        due("moveOut(1,1) onto a full track", x.moveOut(B, 1), NO_ROOM);
        x.setTrack(0, 9);
        due("moveOut(0,1) of 10 onto 9", x.moveOut(A, 1), NO_ROOM);
        x.setTrack(0, 10);
        due("moveOut(0,1) of 10 onto 10", x.moveOut(A, 1), 1);
    }

    // ---- Promise 16: turnsMade

    private static void turnsSinceCreated() {
        says(16, "Returns the number of turns since the house was created.");
        TurntableHouse x = house();
        due("turnsMade() of a new house", x.turnsMade(), 0);
        x.turn(1);
        due("turnsMade() after turn(1)", x.turnsMade(), 1);
        x.turn(-11);
        due("turnsMade() after turn(-11)", x.turnsMade(), 12);
        x.turn(0);
        x.turn(12);
        x.moveIn(A, 1);
        due("turnsMade() after refused ones", x.turnsMade(), 12);
        x.turn(-2);
        x.moveIn(A, 1);
        x.moveOut(A, 1);
        due("turnsMade() after movements", x.turnsMade(), 14);
        for (int i = 0; i < 5; i++) {
            x.turn(11);
        }
        due("turnsMade(): more than the log keeps", x.turnsMade(), 69);
        x.setTrack(1, 1);
        x.removeLocomotive();
        due("turnsMade() after the log was emptied", x.turnsMade(), 69);
    }

    private static void turnsUndone() {
        says(16, "Undoing a turn does not change it; undoing is not counted as a turn.");
        TurntableHouse x = new TurntableHouse();
        x.turn(2);
        x.turn(-1);
        for (int i = 0; i < 4; i++) {
            x.undo();
            due("turnsMade() after undo()", x.turnsMade(), 3);
        }
        x.turn(1);
        due("turnsMade() after one more turn", x.turnsMade(), 4);
    }

    private static void turnsRestored() {
        says(16, "restore does not change it either.");
        TurntableHouse x = new TurntableHouse();
        x.turn(5);
        x.save(0);
        x.turn(3);
        x.restore(0);
        due("turnsMade() after restore(0)", x.turnsMade(), 8);
        x.turn(1);
        x.restore(0);
        due("turnsMade() after restore(0) again", x.turnsMade(), 9);
    }

    // ---- Promise 17: undo

    private static void undoOfTheLast() {
        says(17, "Undoes the last action of the log. Returns its code");
        TurntableHouse x = house();
        x.turn(-1);
        due("undo() of turn(-1) over 0", x.undo(), 1);
        due("pointsTo(0)", x.pointsTo(A), 0);
        x.turn(11);
        x.turn(1);
        due("undo() of turn(1) over 11", x.undo(), 0);
        due("pointsTo(0)", x.pointsTo(A), 11);
        due("undo(): one turn of the eleven", x.undo(), 0);
        due("pointsTo(0)", x.pointsTo(A), 10);
        due("log(-1)", x.log(-1), 10);
        x.turn(2);
        x.moveIn(A, 2);
        due("undo() of moveIn(0,2)", x.undo(), 12);
        due("the track", row(x, 0), "10");
        due("row(12,-1)", x.row(TABLE, -1), 0);
        due("freeLength(0)", x.freeLength(0), 18);
        due("freeLength(12)", x.freeLength(TABLE), 30);
    }

    private static void undoOfAllEight() {
        says(17, "Undoes the last action of the log. Returns its code");
        TurntableHouse x = fullHouse();
        x.moveIn(A, 8);
        x.moveOut(B, 8);
        x.moveIn(B, 8);
        x.moveOut(A, 8);
        due("the track", row(x, 0), "76543210");
        due("undo() of moveOut(0,8)", x.undo(), 38);
        due("the table", row(x, TABLE), "01234567");
        due("undo() of moveIn(1,8)", x.undo(), 28);
        due("the other track", row(x, 6), "01234567");
        due("undo() of moveOut(1,8)", x.undo(), 48);
        due("the table", row(x, TABLE), "01234567");
        due("undo() of moveIn(0,8)", x.undo(), 18);
        due("the track", row(x, 0), "76543210");
    }

    private static void undoOfAnEmptyLog() {
        says(17, "NONE if the log is empty");
        TurntableHouse x = house();
        due("undo()", x.undo(), NONE);
        x.turn(11);
        x.turn(11);
        x.turn(11);
        x.turn(11);
        for (int i = 0; i < 40; i++) {
            due("undo()", x.undo(), 0);
        }
        due("undo() of the forty-first", x.undo(), NONE);
        due("undo() again", x.undo(), NONE);
        due("pointsTo(0): 4 turns stay", x.pointsTo(A), 4);
        due("log(-1)", x.log(-1), 0);
    }

    // ---- Promise 18: log

    private static void logIndices() {
        says(18, "index: 0 for the latest action, 1 for the one before, and so on; "
                + "or -1 for the number of actions in the log");
        TurntableHouse x = house();
        due("log(-1) of an empty log", x.log(-1), 0);
        x.moveIn(A, 1);
        due("log(-1) of one", x.log(-1), 1);
        due("log(0) of one", x.log(0), 11);
        x.turn(-11);
        x.turn(11);
        x.turn(-11);
        x.turn(6);
        due("log(-1) of 40", x.log(-1), 40);
        due("log(0)", x.log(0), 0);
        due("log(5)", x.log(5), 0);
        due("log(6)", x.log(6), 1);
        due("log(16)", x.log(16), 1);
        due("log(17)", x.log(17), 0);
        due("log(27)", x.log(27), 0);
        due("log(28)", x.log(28), 1);
        due("log(38)", x.log(38), 1);
        due("log(39)", x.log(39), 11);
        x.turn(-1);
        due("log(-1) of 41", x.log(-1), 40);
        due("log(0)", x.log(0), 1);
        due("log(39)", x.log(39), 1);
    }

    private static void logNoIndex() {
        says(18, "NONE if there is no such index");
        TurntableHouse x = new TurntableHouse();
        for (int index : new int[] {0, 1, -2, LEAST, MOST}) {
            due("log(" + index + ") of an empty log", x.log(index), NONE);
        }
        x.turn(1);
        due("log(1) of one", x.log(1), NONE);
        due("log(-2) of one", x.log(-2), NONE);
        x.undo();
        due("log(0) after undo()", x.log(0), NONE);
        for (int i = 0; i < 4; i++) {
            x.turn(11);
        }
        for (int index : new int[] {40, 41, 43, -2, LEAST, MOST}) {
            due("log(" + index + ") of a full log", x.log(index), NONE);
        }
    }

    // ---- Promise 19: fewestTurns

    private static void fewestTurnsNone() {
        says(19, "Returns the number of turns of the best plan");
        TurntableHouse x = house();
        due("fewestTurns(1,0), already first", x.fewestTurns(1, 0), 0);
        due("fewestTurns(0,0), second", x.fewestTurns(0, 0), 0);
        due("fewestTurns(0,6), opposite", x.fewestTurns(0, 6), 0);
        x.setTrack(5, 60);
        x.setTrack(7, 60);
        x.setTrack(11, 60);
        due("fewestTurns(0,11), one turn over 0", x.fewestTurns(0, 11), 1);
        due("fewestTurns(0,5), one turn to end B", x.fewestTurns(0, 5), 1);
        due("fewestTurns(0,7), one turn to end B", x.fewestTurns(0, 7), 1);
        x.turn(-1);
        due("fewestTurns(1,0), already first, table away", x.fewestTurns(1, 0), 0);
        due("fewestTurns(0,11), there and back", x.fewestTurns(0, 11), 2);
    }

    private static void fewestTurnsNoLocomotive() {
        says(19, "NO_SUCH_LOCOMOTIVE if the locomotive does not exist");
        TurntableHouse x = house();
        for (int locomotive : new int[] {-1, 3, 8, LEAST, MOST}) {
            due("fewestTurns(" + locomotive + ",0)", x.fewestTurns(locomotive, 0), NO_SUCH_LOCOMOTIVE);
        }
        due("fewestTurns(2,6), the last one", x.fewestTurns(2, 6), 0);
        x.removeLocomotive();
        due("fewestTurns(2,6), removed", x.fewestTurns(2, 6), NO_SUCH_LOCOMOTIVE);
        due("fewestTurns(0,0) of none", new TurntableHouse().fewestTurns(0, 0), NO_SUCH_LOCOMOTIVE);
    }

    private static void fewestTurnsNoPosition() {
        says(19, "NO_SUCH_POSITION if the position does not exist");
        TurntableHouse x = house();
        for (int position : NO_POSITIONS) {
            due("fewestTurns(0," + position + ")", x.fewestTurns(0, position), NO_SUCH_POSITION);
        }
    }

    private static void fewestTurnsNoTrack() {
        says(19, "NO_SUCH_TRACK if there is no track");
        TurntableHouse x = house();
        due("fewestTurns(0,1)", x.fewestTurns(0, 1), NO_SUCH_TRACK);
        due("fewestTurns(0,11)", x.fewestTurns(0, 11), NO_SUCH_TRACK);
        x.setTrack(11, 60);
        due("fewestTurns(0,11) with a track", x.fewestTurns(0, 11), 1);
        x.setTrack(11, 0);
        due("fewestTurns(0,11), removed", x.fewestTurns(0, 11), NO_SUCH_TRACK);
    }

    private static void fewestTurnsTooMany() {
        says(19, "TOO_MANY if there are more than 3 locomotives or more than 5 tracks");
        TurntableHouse x = house();
        due("fewestTurns(0,6) with 3 and 2", x.fewestTurns(0, 6), 0);
        x.addLocomotive(1, 6);
        due("fewestTurns(0,6) with 4 and 2", x.fewestTurns(0, 6), TOO_MANY);
        x.moveIn(B, 1);
        due("fewestTurns(0,6) with 4, one on the table", x.fewestTurns(0, 6), TOO_MANY);
        x.removeLocomotive();
        x.setTrack(1, 1);
        x.setTrack(2, 1);
        x.setTrack(3, 1);
        due("fewestTurns(0,6) with 3 and 5", x.fewestTurns(0, 6), 0);
        x.setTrack(4, 1);
        due("fewestTurns(0,6) with 3 and 6", x.fewestTurns(0, 6), TOO_MANY);
        due("fewestTurns(1,0) with 3 and 6, already there", x.fewestTurns(1, 0), TOO_MANY);
        for (int position = 5; position < 12; position++) {
            x.setTrack(position, position == 6 ? 30 : 1);
        }
        due("fewestTurns(0,6) with 3 and 12", x.fewestTurns(0, 6), TOO_MANY);
    }

    private static void fewestTurnsNoPlan() {
        says(19, "NONE if there is no plan");
        TurntableHouse x = house();
        x.setTrack(1, 9);
        due("fewestTurns(0,1), 10 onto 9", x.fewestTurns(0, 1), NONE);
        x.setTrack(1, 10);
        due("fewestTurns(0,1), 10 onto 10", x.fewestTurns(0, 1), 1);
        x.setTableLength(9);
        due("fewestTurns(0,1), over a table of 9", x.fewestTurns(0, 1), NONE);
        due("fewestTurns(2,1), 8 over a table of 9", x.fewestTurns(2, 1), 1);
        x.setTableLength(12);
        due("fewestTurns(0,1), over a table of 12", x.fewestTurns(0, 1), 1);
        x.setTableLength(11);
        due("fewestTurns(0,1), behind one of 12, over 11", x.fewestTurns(0, 1), NONE);
        TurntableHouse y = new TurntableHouse();
        y.setTrack(0, 10);
        y.setTrack(1, 10);
        y.addLocomotive(5, 0);
        y.setDead(0, true);
        due("fewestTurns(0,1), dead and alone", y.fewestTurns(0, 1), NONE);
        due("fewestTurns(0,0), dead and already there", y.fewestTurns(0, 0), 0);
    }

    // ---- Promise 20: plan

    private static void planIndices() {
        says(20, "index: index of the action, from 0; or -1 for the number of actions of the best plan");
        TurntableHouse x = house();
        due("plan(1,0,-1), already first", x.plan(1, 0, -1), 0);
        due("plan(0,0,-1), second", x.plan(0, 0, -1), 1);
        due("plan(0,0,0)", x.plan(0, 0, 0), 11);
        x.setTrack(3, 60);
        due("plan(0,3,-1)", x.plan(0, 3, -1), 5);
        int[] codes = {12, 0, 0, 0, 31};
        for (int i = 0; i < codes.length; i++) {
            due("plan(0,3," + i + ")", x.plan(0, 3, i), codes[i]);
        }
    }

    private static void planErrors() {
        says(20, "Returns the code of the action, or the number; the errors of fewestTurns");
        TurntableHouse x = house();
        for (int index : new int[] {-1, 0, 99, -2}) {
            due("plan(3,0," + index + ")", x.plan(3, 0, index), NO_SUCH_LOCOMOTIVE);
            due("plan(-1,0," + index + ")", x.plan(-1, 0, index), NO_SUCH_LOCOMOTIVE);
            due("plan(0,12," + index + ")", x.plan(0, 12, index), NO_SUCH_POSITION);
            due("plan(0,-1," + index + ")", x.plan(0, -1, index), NO_SUCH_POSITION);
            due("plan(0,11," + index + ")", x.plan(0, 11, index), NO_SUCH_TRACK);
        }
        x.addLocomotive(1, 6);
        for (int index : new int[] {-1, 0, 99, -2}) {
            due("plan(0,6," + index + ") with 4 locomotives", x.plan(0, 6, index), TOO_MANY);
        }
        x.removeLocomotive();
        for (int position = 1; position < 5; position++) {
            x.setTrack(position, 1);
        }
        for (int index : new int[] {-1, 0, 99, -2}) {
            due("plan(0,6," + index + ") with 6 tracks", x.plan(0, 6, index), TOO_MANY);
        }
    }

    private static void planNone() {
        says(20, "NONE if there is no plan, or it has no such index");
        TurntableHouse x = house();
        due("plan(1,0,0), already first", x.plan(1, 0, 0), NONE);
        due("plan(0,6,1), the last one", x.plan(0, 6, 1), 42);
        for (int index : new int[] {2, 3, -2, LEAST, MOST}) {
            due("plan(0,6," + index + ")", x.plan(0, 6, index), NONE);
        }
        x.setTrack(1, 7);
        for (int index : new int[] {-1, 0, 1, -2, LEAST, MOST}) {
            due("plan(0,1," + index + "), 10 onto 7", x.plan(0, 1, index), NONE);
        }
    }

    // ---- Promise 21: save

    private static void saveOverwrites() {
        says(21, "Saves the tracks, the table and where it points, and the locomotives in a slot, "
                + "and overwrites what was saved there.");
        TurntableHouse x = new TurntableHouse();
        due("save(0) of an empty house", x.save(0), 0);
        x.setTrack(0, 60);
        x.setTableLength(60);
        x.turn(11);
        for (int i = 0; i < 8; i++) {
            x.addLocomotive(1, 0);
        }
        due("save(1) of a full house", x.save(1), 8);
        due("restore(0)", x.restore(0), 0);
        due("trackLength(0)", x.trackLength(0), 0);
        due("freeLength(12)", x.freeLength(TABLE), 30);
        due("pointsTo(0)", x.pointsTo(A), 0);
        due("restore(1)", x.restore(1), 8);
        due("the track", row(x, 0), "76543210");
        due("freeLength(0)", x.freeLength(0), 52);
        due("freeLength(12)", x.freeLength(TABLE), 60);
        due("pointsTo(0)", x.pointsTo(A), 11);
        x.removeLocomotive();
        due("save(0) over the empty house", x.save(0), 7);
        x.removeLocomotive();
        due("restore(0)", x.restore(0), 7);
        due("the track", row(x, 0), "6543210");
        due("restore(1), the other slot", x.restore(1), 8);
    }

    private static void saveNotTheLog() {
        says(21, "The log is not saved.");
        TurntableHouse x = house();
        x.turn(3);
        x.save(0);
        due("log(-1): save leaves the log", x.log(-1), 3);
        due("undo()", x.undo(), 0);
        x.save(1);
        x.restore(0);
        due("log(-1) after restore(0)", x.log(-1), 0);
        due("undo() after restore(0)", x.undo(), NONE);
        due("pointsTo(0)", x.pointsTo(A), 3);
        x.restore(1);
        due("log(-1) after restore(1)", x.log(-1), 0);
        due("pointsTo(0)", x.pointsTo(A), 2);
    }

    private static void saveSlots() {
        says(21, "slot: 0 or 1");
        TurntableHouse x = house();
        due("save(0)", x.save(0), 3);
        x.removeLocomotive();
        due("save(1)", x.save(1), 2);
        due("save(2)", x.save(2), BAD_VALUE);
        due("save(-1)", x.save(-1), BAD_VALUE);
        due("restore(0)", x.restore(0), 3);
        due("restore(1)", x.restore(1), 2);
    }

    private static void saveNoSlot() {
        says(21, "Returns the number of locomotives; BAD_VALUE if the slot does not exist");
        TurntableHouse x = house();
        for (int slot : NO_SLOTS) {
            due("save(" + slot + ")", x.save(slot), BAD_VALUE);
        }
        due("restore(0)", x.restore(0), NOT_SAVED);
        due("restore(1)", x.restore(1), NOT_SAVED);
        due("save(0)", x.save(0), 3);
        due("save(1)", x.save(1), 3);
    }

    // ---- Promise 22: restore

    private static void restoreWhatWasSavedLast() {
        says(22, "Restores what was saved last in a slot. The slot keeps it.");
        TurntableHouse x = fullHouse();
        x.setDead(7, true);
        x.moveIn(A, 8);
        x.save(0);
        x.turn(-1);
        x.save(0);
        for (int i = 0; i < 2; i++) {
            for (int left = 7; left >= 0; left--) {
                x.removeLocomotive();
            }
            x.setTableLength(1);
            x.setTrack(0, 0);
            x.setTrack(6, 0);
            x.setTrack(3, 5);
            x.addLocomotive(4, 3);
            due("restore(0)", x.restore(0), 8);
            due("pointsTo(0)", x.pointsTo(A), 11);
            due("the table", row(x, TABLE), "01234567");
            due("freeLength(12)", x.freeLength(TABLE), 20);
            due("trackLength(0)", x.trackLength(0), 60);
            due("trackLength(3)", x.trackLength(3), 0);
            due("place(0)", x.place(0), TABLE);
            due("setDead(7,false)", x.setDead(7, false), 1);
            due("setDead(0,true)", x.setDead(0, true), 0);
        }
        due("restore(1)", x.restore(1), NOT_SAVED);
    }

    /** The same locomotives stand on the same places in another order when the slot is restored. */
    private static void restoreOrderOfRows() {
        says(22, "Restores what was saved last in a slot.");
        for (int position = 0; position < 12; position++) {
            TurntableHouse x = new TurntableHouse();
            int opposite = (position + 6) % 12;
            x.setTrack(position, 60);
            x.setTrack(opposite, 60);
            for (int i = 0; i < 8; i++) {
                x.addLocomotive(3, position);
            }
            if (position > 0) {
                x.turn(position);
            }
            x.moveIn(A, 4);
            x.save(0);
            due("the table", row(x, TABLE), "4567");
            x.moveOut(B, 4);
            x.moveIn(A, 4);
            x.moveOut(B, 4);
            x.turn(6);
            x.moveIn(A, 8);
            x.moveOut(A, 4);
            x.turn(6);
            x.moveOut(A, 4);
            x.turn(6);
            x.moveIn(A, 4);
            due("the table in another order", row(x, TABLE), "7654");
            due("the track in another order", row(x, position), "0123");
            x.restore(0);
            due("the table restored", row(x, TABLE), "4567");
            due("the track restored", row(x, position), "3210");
            due("the opposite track restored", row(x, opposite), "");
        }
    }

    private static void restoreEmptiesTheLog() {
        says(22, "The log is empty then.");
        TurntableHouse x = house();
        x.save(1);
        due("restore(1) with an empty log", x.restore(1), 3);
        due("log(-1)", x.log(-1), 0);
        for (int i = 0; i < 4; i++) {
            x.turn(11);
        }
        due("restore(1) with a full log", x.restore(1), 3);
        due("log(-1)", x.log(-1), 0);
        due("log(0)", x.log(0), NONE);
        due("undo()", x.undo(), NONE);
        due("pointsTo(0)", x.pointsTo(A), 0);
    }

    private static void restoreSlots() {
        says(22, "slot: 0 or 1");
        TurntableHouse x = new TurntableHouse();
        x.turn(4);
        x.save(1);
        x.turn(4);
        x.save(0);
        due("restore(1)", x.restore(1), 0);
        due("pointsTo(0)", x.pointsTo(A), 4);
        due("restore(0)", x.restore(0), 0);
        due("pointsTo(0)", x.pointsTo(A), 8);
        due("restore(2)", x.restore(2), BAD_VALUE);
        due("restore(-1)", x.restore(-1), BAD_VALUE);
        due("pointsTo(0)", x.pointsTo(A), 8);
    }

    private static void restoreNoSlot() {
        says(22, "BAD_VALUE if the slot does not exist");
        TurntableHouse x = house();
        x.save(0);
        x.save(1);
        x.turn(1);
        for (int slot : NO_SLOTS) {
            due("restore(" + slot + ")", x.restore(slot), BAD_VALUE);
        }
        due("log(-1)", x.log(-1), 1);
        due("pointsTo(0)", x.pointsTo(A), 1);
    }

    private static void restoreNotSaved() {
        says(22, "NOT_SAVED if nothing was saved in it");
        for (int slot = 0; slot < 2; slot++) {
            TurntableHouse x = house();
            x.turn(1);
            due("restore(" + slot + ")", x.restore(slot), NOT_SAVED);
            x.save(1 - slot);
            due("restore(" + slot + ") with the other one saved", x.restore(slot), NOT_SAVED);
            due("log(-1)", x.log(-1), 1);
            due("pointsTo(0)", x.pointsTo(A), 1);
            x.save(slot);
            due("restore(" + slot + ") saved", x.restore(slot), 3);
        }
    }
}
