/** For each promise of the document its ordinary answers, the edges it names, and wrong inputs. */
public final class Promises {
    private static final int LEAST = Integer.MIN_VALUE, MOST = Integer.MAX_VALUE;
    private static int wrong = 0;

    private static void due(int promise, String call, int got, int want) {
        if (got != want) {
            wrong++;
            System.out.println("promise " + promise + ": " + call + " answered " + got + ", due is " + want);
        }
    }

    public static void main(String[] args) {
        newObject();
        setTrack();
        setTableLength();
        addLocomotive();
        addLocomotiveOrderOfErrors();
        removeLocomotive();
        setDead();
        locomotives();
        trackLength();
        freeLength();
        row();
        place();
        pointsTo();
        turn();
        moveIn();
        moveInErrors();
        moveOut();
        moveOutErrors();
        turnsMade();
        undo();
        undoOfEachMovement();
        log();
        logIsEmptied();
        logIsKept();
        fewestTurns();
        fewestTurnsLimits();
        fewestTurnsAfterChanges();
        plan();
        planOrder();
        save();
        restore();
        restoreIsWhole();
        if (wrong != 0) {
            System.out.println(wrong + " answers are not as due");
            System.exit(1);
        }
    }

    /** Track 0 of 40 with locomotives 1 (12) and 0 (10), track 6 of 30 with locomotive 2 (8). */
    private static TurntableHouse house() {
        TurntableHouse x = new TurntableHouse();
        x.setTrack(0, 40);
        x.setTrack(6, 30);
        x.addLocomotive(10, 0);
        x.addLocomotive(12, 0);
        x.addLocomotive(8, 6);
        return x;
    }

    /** A row as the digits of a number, the first locomotive as the first digit, behind a digit 9. */
    private static int rowOf(TurntableHouse x, int place) {
        int digits = 9;
        for (int i = 0; i < x.row(place, -1); i++) {
            digits = digits * 10 + x.row(place, i);
        }
        return digits;
    }

    private static void newObject() {
        TurntableHouse x = new TurntableHouse();
        due(1, "locomotives()", x.locomotives(), 0);
        for (int position = 0; position < 12; position++) {
            due(1, "trackLength", x.trackLength(position), 0);
            due(1, "row of no track", x.row(position, -1), -2);
        }
        due(1, "freeLength(12)", x.freeLength(12), 30);
        due(1, "row(12,-1)", x.row(12, -1), 0);
        due(1, "pointsTo(0)", x.pointsTo(0), 0);
        due(1, "pointsTo(1)", x.pointsTo(1), 6);
        due(1, "log(-1)", x.log(-1), 0);
        due(1, "log(0)", x.log(0), -11);
        due(1, "undo()", x.undo(), -11);
        due(1, "turnsMade()", x.turnsMade(), 0);
        due(1, "restore(0)", x.restore(0), -10);
        due(1, "restore(1)", x.restore(1), -10);
        TurntableHouse y = house();
        y.turn(1);
        due(1, "another object's locomotives()", x.locomotives(), 0);
        due(1, "another object's pointsTo(0)", x.pointsTo(0), 0);
    }

    private static void setTrack() {
        TurntableHouse x = new TurntableHouse();
        due(2, "setTrack(0,1)", x.setTrack(0, 1), 0);
        due(2, "setTrack(11,60)", x.setTrack(11, 60), 0);
        due(2, "setTrack(11,59)", x.setTrack(11, 59), 60);
        due(2, "trackLength(11)", x.trackLength(11), 59);
        due(2, "setTrack(11,0)", x.setTrack(11, 0), 59);
        due(2, "trackLength(11) removed", x.trackLength(11), 0);
        due(2, "setTrack(11,0) again", x.setTrack(11, 0), 0);
        due(2, "setTrack(-1,5)", x.setTrack(-1, 5), -1);
        due(2, "setTrack(12,5)", x.setTrack(12, 5), -1);
        due(2, "setTrack(MIN,5)", x.setTrack(LEAST, 5), -1);
        due(2, "setTrack(MAX,61)", x.setTrack(MOST, 61), -1);
        due(2, "setTrack(12,61)", x.setTrack(12, 61), -1);
        due(2, "setTrack(0,-1)", x.setTrack(0, -1), -4);
        due(2, "setTrack(0,61)", x.setTrack(0, 61), -4);
        due(2, "setTrack(0,MIN)", x.setTrack(0, LEAST), -4);
        due(2, "trackLength(0) after errors", x.trackLength(0), 1);
        TurntableHouse y = house();
        due(2, "setTrack(0,21) with 22 on it", y.setTrack(0, 21), -5);
        due(2, "setTrack(0,0) with 22 on it", y.setTrack(0, 0), -5);
        due(2, "setTrack(0,-1) with 22 on it", y.setTrack(0, -1), -4);
        due(2, "setTrack(0,22) with 22 on it", y.setTrack(0, 22), 40);
        due(2, "freeLength(0)", y.freeLength(0), 0);
        due(2, "row(0,-1)", y.row(0, -1), 2);
    }

    private static void setTableLength() {
        TurntableHouse x = house();
        due(3, "setTableLength(60)", x.setTableLength(60), 30);
        due(3, "setTableLength(1)", x.setTableLength(1), 60);
        due(3, "setTableLength(0)", x.setTableLength(0), -4);
        due(3, "setTableLength(-1)", x.setTableLength(-1), -4);
        due(3, "setTableLength(61)", x.setTableLength(61), -4);
        due(3, "setTableLength(MIN)", x.setTableLength(LEAST), -4);
        due(3, "freeLength(12)", x.freeLength(12), 1);
        due(3, "setTableLength(30)", x.setTableLength(30), 1);
        x.moveIn(0, 2);
        due(3, "setTableLength(21) with 22 on it", x.setTableLength(21), -5);
        due(3, "setTableLength(0) with 22 on it", x.setTableLength(0), -4);
        due(3, "freeLength(12) with 22 on it", x.freeLength(12), 8);
        due(3, "setTableLength(22) with 22 on it", x.setTableLength(22), 30);
        due(3, "freeLength(12) filled", x.freeLength(12), 0);
    }

    private static void addLocomotive() {
        TurntableHouse x = new TurntableHouse();
        x.setTrack(5, 22);
        due(4, "addLocomotive(1,5)", x.addLocomotive(1, 5), 0);
        due(4, "addLocomotive(20,5)", x.addLocomotive(20, 5), 1);
        due(4, "addLocomotive(2,5)", x.addLocomotive(2, 5), -8);
        due(4, "locomotives()", x.locomotives(), 2);
        due(4, "addLocomotive(1,5)", x.addLocomotive(1, 5), 2);
        due(4, "the row", rowOf(x, 5), 9210);
        due(4, "freeLength(5)", x.freeLength(5), 0);
        x.setDead(2, true);
        x.removeLocomotive();
        due(4, "addLocomotive(1,5) in its place", x.addLocomotive(1, 5), 2);
        due(4, "setDead(2,false): it is alive", x.setDead(2, false), 0);
    }

    private static void addLocomotiveOrderOfErrors() {
        TurntableHouse x = new TurntableHouse();
        due(4, "addLocomotive(0,-1)", x.addLocomotive(0, -1), -1);
        due(4, "addLocomotive(5,12)", x.addLocomotive(5, 12), -1);
        due(4, "addLocomotive(5,MAX)", x.addLocomotive(5, MOST), -1);
        due(4, "addLocomotive(0,3)", x.addLocomotive(0, 3), -2);
        x.setTrack(3, 10);
        due(4, "addLocomotive(0,3)", x.addLocomotive(0, 3), -4);
        due(4, "addLocomotive(-1,3)", x.addLocomotive(-1, 3), -4);
        due(4, "addLocomotive(21,3)", x.addLocomotive(21, 3), -4);
        due(4, "addLocomotive(MIN,3)", x.addLocomotive(LEAST, 3), -4);
        due(4, "addLocomotive(11,3)", x.addLocomotive(11, 3), -8);
        for (int i = 0; i < 8; i++) {
            due(4, "addLocomotive(1,3)", x.addLocomotive(1, 3), i);
        }
        due(4, "a ninth", x.addLocomotive(1, 3), -9);
        due(4, "a ninth without room", x.addLocomotive(3, 3), -8);
        due(4, "a ninth of no length", x.addLocomotive(0, 3), -4);
        due(4, "a ninth without a track", x.addLocomotive(1, 4), -2);
        due(4, "locomotives()", x.locomotives(), 8);
    }

    private static void removeLocomotive() {
        TurntableHouse x = new TurntableHouse();
        due(5, "removeLocomotive() of none", x.removeLocomotive(), -11);
        x.setTrack(0, 60);
        for (int i = 0; i < 4; i++) {
            x.addLocomotive(5, 0);
        }
        x.setDead(3, true);
        x.moveIn(0, 3);
        due(5, "the table", rowOf(x, 12), 9123);
        due(5, "removeLocomotive() from the table", x.removeLocomotive(), 3);
        due(5, "the table then", rowOf(x, 12), 912);
        due(5, "freeLength(12)", x.freeLength(12), 20);
        due(5, "place(3)", x.place(3), -3);
        x.moveOut(0, 1);
        due(5, "the track", rowOf(x, 0), 910);
        due(5, "removeLocomotive() from the table", x.removeLocomotive(), 2);
        due(5, "row(12,-1)", x.row(12, -1), 0);
        due(5, "removeLocomotive() from a track", x.removeLocomotive(), 1);
        due(5, "the track then", rowOf(x, 0), 90);
        due(5, "freeLength(0)", x.freeLength(0), 55);
        due(5, "removeLocomotive() of the last", x.removeLocomotive(), 0);
        due(5, "removeLocomotive() of none", x.removeLocomotive(), -11);
        due(5, "locomotives()", x.locomotives(), 0);
    }

    private static void setDead() {
        TurntableHouse x = house();
        due(6, "setDead(1,true)", x.setDead(1, true), 0);
        due(6, "setDead(1,true) again", x.setDead(1, true), 1);
        due(6, "moveIn(0,1) of it", x.moveIn(0, 1), -7);
        due(6, "setDead(0,false)", x.setDead(0, false), 0);
        due(6, "setDead(1,false)", x.setDead(1, false), 1);
        due(6, "setDead(1,false) again", x.setDead(1, false), 0);
        due(6, "moveIn(0,1) of it", x.moveIn(0, 1), 1);
        due(6, "setDead(3,true)", x.setDead(3, true), -3);
        due(6, "setDead(-1,true)", x.setDead(-1, true), -3);
        due(6, "setDead(8,true)", x.setDead(8, true), -3);
        due(6, "setDead(MAX,true)", x.setDead(MOST, true), -3);
        due(6, "setDead(MIN,false)", x.setDead(LEAST, false), -3);
        x.addLocomotive(1, 6);
        due(6, "setDead(3,true) of the new one", x.setDead(3, true), 0);
    }

    private static void locomotives() {
        TurntableHouse x = house();
        due(7, "locomotives()", x.locomotives(), 3);
        x.moveIn(0, 2);
        due(7, "locomotives() with some on the table", x.locomotives(), 3);
        x.addLocomotive(99, 0);
        due(7, "locomotives() after an error", x.locomotives(), 3);
        x.removeLocomotive();
        due(7, "locomotives() after one was removed", x.locomotives(), 2);
    }

    private static void trackLength() {
        TurntableHouse x = house();
        due(8, "trackLength(0)", x.trackLength(0), 40);
        due(8, "trackLength(6)", x.trackLength(6), 30);
        due(8, "trackLength(11)", x.trackLength(11), 0);
        due(8, "trackLength(12)", x.trackLength(12), -1);
        due(8, "trackLength(-1)", x.trackLength(-1), -1);
        due(8, "trackLength(MAX)", x.trackLength(MOST), -1);
        due(8, "trackLength(MIN)", x.trackLength(LEAST), -1);
    }

    private static void freeLength() {
        TurntableHouse x = house();
        due(9, "freeLength(0)", x.freeLength(0), 18);
        due(9, "freeLength(6)", x.freeLength(6), 22);
        due(9, "freeLength(12)", x.freeLength(12), 30);
        x.moveIn(0, 1);
        due(9, "freeLength(0)", x.freeLength(0), 30);
        due(9, "freeLength(12)", x.freeLength(12), 18);
        due(9, "freeLength(11)", x.freeLength(11), -2);
        due(9, "freeLength(13)", x.freeLength(13), -1);
        due(9, "freeLength(-1)", x.freeLength(-1), -1);
        due(9, "freeLength(MAX)", x.freeLength(MOST), -1);
        due(9, "freeLength(MIN)", x.freeLength(LEAST), -1);
    }

    private static void row() {
        TurntableHouse x = house();
        due(10, "row(0,-1)", x.row(0, -1), 2);
        due(10, "row(0,0)", x.row(0, 0), 1);
        due(10, "row(0,1)", x.row(0, 1), 0);
        due(10, "row(0,2)", x.row(0, 2), -11);
        due(10, "row(0,-2)", x.row(0, -2), -11);
        due(10, "row(0,8)", x.row(0, 8), -11);
        due(10, "row(0,MAX)", x.row(0, MOST), -11);
        due(10, "row(0,MIN)", x.row(0, LEAST), -11);
        due(10, "row(12,0)", x.row(12, 0), -11);
        due(10, "row(12,-1)", x.row(12, -1), 0);
        due(10, "row(3,-1)", x.row(3, -1), -2);
        due(10, "row(13,-1)", x.row(13, -1), -1);
        due(10, "row(-1,0)", x.row(-1, 0), -1);
        due(10, "row(MAX,MAX)", x.row(MOST, MOST), -1);
    }

    private static void place() {
        TurntableHouse x = house();
        due(11, "place(0)", x.place(0), 0);
        due(11, "place(2)", x.place(2), 6);
        x.moveIn(1, 1);
        due(11, "place(2) on the table", x.place(2), 12);
        due(11, "place(3)", x.place(3), -3);
        due(11, "place(-1)", x.place(-1), -3);
        due(11, "place(8)", x.place(8), -3);
        due(11, "place(MAX)", x.place(MOST), -3);
        due(11, "place(MIN)", x.place(LEAST), -3);
    }

    private static void pointsTo() {
        TurntableHouse x = new TurntableHouse();
        for (int position = 0; position < 12; position++) {
            due(12, "pointsTo(0)", x.pointsTo(0), position);
            due(12, "pointsTo(1)", x.pointsTo(1), position < 6 ? position + 6 : position - 6);
            x.turn(1);
        }
        due(12, "pointsTo(0) after a round", x.pointsTo(0), 0);
        due(12, "pointsTo(2)", x.pointsTo(2), -4);
        due(12, "pointsTo(-1)", x.pointsTo(-1), -4);
        due(12, "pointsTo(MAX)", x.pointsTo(MOST), -4);
        due(12, "pointsTo(MIN)", x.pointsTo(LEAST), -4);
    }

    private static void turn() {
        TurntableHouse x = new TurntableHouse();
        due(13, "turn(1)", x.turn(1), 1);
        due(13, "turn(11)", x.turn(11), 0);
        due(13, "turn(-1)", x.turn(-1), 11);
        due(13, "turn(-11)", x.turn(-11), 0);
        due(13, "turn(7)", x.turn(7), 7);
        due(13, "log(-1)", x.log(-1), 31);
        due(13, "turn(0)", x.turn(0), -4);
        due(13, "turn(12)", x.turn(12), -4);
        due(13, "turn(-12)", x.turn(-12), -4);
        due(13, "turn(MAX)", x.turn(MOST), -4);
        due(13, "turn(MIN)", x.turn(LEAST), -4);
        due(13, "pointsTo(0) after errors", x.pointsTo(0), 7);
        due(13, "log(-1) after errors", x.log(-1), 31);
        TurntableHouse y = house();
        y.moveIn(0, 2);
        y.turn(5);
        due(13, "the table's row keeps its order", rowOf(y, 12), 901);
    }

    private static void moveIn() {
        TurntableHouse x = new TurntableHouse();
        x.setTableLength(60);
        x.setTrack(0, 60);
        x.setTrack(6, 60);
        for (int i = 0; i < 3; i++) {
            x.addLocomotive(5, 0);
        }
        for (int i = 0; i < 3; i++) {
            x.addLocomotive(5, 6);
        }
        due(14, "the track at end A", rowOf(x, 0), 9210);
        due(14, "the track at end B", rowOf(x, 6), 9543);
        due(14, "moveIn(0,1)", x.moveIn(0, 1), 1);
        due(14, "moveIn(1,2)", x.moveIn(1, 2), 3);
        due(14, "the table", rowOf(x, 12), 9254);
        due(14, "moveIn(0,2)", x.moveIn(0, 2), 5);
        due(14, "the table", rowOf(x, 12), 901254);
        due(14, "moveIn(1,1)", x.moveIn(1, 1), 6);
        due(14, "the table", rowOf(x, 12), 9012543);
        due(14, "row(0,-1)", x.row(0, -1), 0);
        due(14, "row(6,-1)", x.row(6, -1), 0);
        due(14, "log(0)", x.log(0), 21);
        due(14, "log(1)", x.log(1), 12);
        due(14, "log(2)", x.log(2), 22);
        due(14, "log(3)", x.log(3), 11);
    }

    private static void moveInErrors() {
        TurntableHouse x = new TurntableHouse();
        due(14, "moveIn(2,1)", x.moveIn(2, 1), -4);
        due(14, "moveIn(-1,1)", x.moveIn(-1, 1), -4);
        due(14, "moveIn(0,0)", x.moveIn(0, 0), -4);
        due(14, "moveIn(0,MIN)", x.moveIn(0, LEAST), -4);
        due(14, "moveIn(MAX,MAX)", x.moveIn(MOST, MOST), -4);
        due(14, "moveIn(0,1) without a track", x.moveIn(0, 1), -2);
        due(14, "moveIn(1,MAX) without a track", x.moveIn(1, MOST), -2);
        x.setTrack(0, 60);
        due(14, "moveIn(0,1) of none", x.moveIn(0, 1), -6);
        due(14, "moveIn(0,MAX) of none", x.moveIn(0, MOST), -6);
        x.addLocomotive(16, 0);
        x.addLocomotive(15, 0);
        x.setDead(0, true);
        x.setDead(1, true);
        due(14, "moveIn(0,3) of two dead", x.moveIn(0, 3), -6);
        due(14, "moveIn(0,2) of two dead without room", x.moveIn(0, 2), -7);
        x.setDead(0, false);
        due(14, "moveIn(0,2) without room", x.moveIn(0, 2), -8);
        due(14, "moveIn(0,1) of the dead one", x.moveIn(0, 1), -7);
        due(14, "log(-1)", x.log(-1), 0);
        due(14, "the track", rowOf(x, 0), 910);
        x.setTableLength(31);
        due(14, "moveIn(0,2) that just fits", x.moveIn(0, 2), 2);
        due(14, "freeLength(12)", x.freeLength(12), 0);
    }

    private static void moveOut() {
        TurntableHouse x = new TurntableHouse();
        x.setTableLength(60);
        x.setTrack(0, 60);
        for (int i = 0; i < 6; i++) {
            x.addLocomotive(5, 0);
        }
        x.setTrack(3, 60);
        x.setTrack(9, 60);
        x.moveIn(0, 6);
        due(15, "the table", rowOf(x, 12), 9012345);
        x.turn(3);
        due(15, "moveOut(0,2)", x.moveOut(0, 2), 2);
        due(15, "the track at end A", rowOf(x, 3), 910);
        due(15, "moveOut(0,1)", x.moveOut(0, 1), 3);
        due(15, "the track at end A", rowOf(x, 3), 9210);
        due(15, "moveOut(1,2)", x.moveOut(1, 2), 2);
        due(15, "the track at end B", rowOf(x, 9), 945);
        due(15, "the table", rowOf(x, 12), 93);
        due(15, "moveOut(1,1)", x.moveOut(1, 1), 3);
        due(15, "the track at end B", rowOf(x, 9), 9345);
        due(15, "log(0)", x.log(0), 41);
        due(15, "log(1)", x.log(1), 42);
        due(15, "log(2)", x.log(2), 31);
        due(15, "log(3)", x.log(3), 32);
    }

    private static void moveOutErrors() {
        TurntableHouse x = new TurntableHouse();
        due(15, "moveOut(2,1)", x.moveOut(2, 1), -4);
        due(15, "moveOut(-1,1)", x.moveOut(-1, 1), -4);
        due(15, "moveOut(1,0)", x.moveOut(1, 0), -4);
        due(15, "moveOut(1,MIN)", x.moveOut(1, LEAST), -4);
        due(15, "moveOut(1,1) without a track", x.moveOut(1, 1), -2);
        x.setTrack(0, 60);
        x.setTrack(6, 14);
        due(15, "moveOut(0,MAX) of none", x.moveOut(0, MOST), -6);
        x.addLocomotive(5, 0);
        x.addLocomotive(15, 0);
        x.moveIn(0, 2);
        x.setDead(0, true);
        x.setDead(1, true);
        due(15, "moveOut(1,3) of two dead", x.moveOut(1, 3), -6);
        due(15, "moveOut(1,2) of two dead without room", x.moveOut(1, 2), -7);
        x.setDead(1, false);
        due(15, "moveOut(1,2) without room", x.moveOut(1, 2), -8);
        due(15, "moveOut(1,1) without room", x.moveOut(1, 1), -8);
        due(15, "moveOut(0,1) of the dead one", x.moveOut(0, 1), -7);
        due(15, "log(-1)", x.log(-1), 0);
        due(15, "the table", rowOf(x, 12), 901);
        x.setTrack(6, 20);
        due(15, "moveOut(1,2) that just fits", x.moveOut(1, 2), 2);
        due(15, "freeLength(6)", x.freeLength(6), 0);
        due(15, "the track", rowOf(x, 6), 901);
    }

    private static void turnsMade() {
        TurntableHouse x = house();
        x.turn(11);
        x.turn(-4);
        due(16, "turnsMade()", x.turnsMade(), 15);
        x.turn(12);
        due(16, "turnsMade() after an error", x.turnsMade(), 15);
        x.undo();
        x.undo();
        due(16, "turnsMade() after undo()", x.turnsMade(), 15);
        x.save(0);
        x.turn(2);
        x.restore(0);
        due(16, "turnsMade() after restore(0)", x.turnsMade(), 17);
        x.fewestTurns(0, 6);
        due(16, "turnsMade() after a plan", x.turnsMade(), 17);
        x.setTrack(1, 1);
        x.turn(-11);
        x.turn(11);
        x.turn(11);
        x.turn(11);
        due(16, "turnsMade() beyond the log", x.turnsMade(), 61);
    }

    private static void undo() {
        TurntableHouse x = house();
        due(17, "undo() of nothing", x.undo(), -11);
        x.turn(2);
        x.turn(-1);
        due(17, "undo()", x.undo(), 1);
        due(17, "pointsTo(0)", x.pointsTo(0), 2);
        due(17, "undo()", x.undo(), 0);
        due(17, "pointsTo(0)", x.pointsTo(0), 1);
        due(17, "log(-1)", x.log(-1), 1);
        due(17, "undo()", x.undo(), 0);
        due(17, "undo() of nothing", x.undo(), -11);
        due(17, "pointsTo(0)", x.pointsTo(0), 0);
        x.turn(-1);
        due(17, "undo() over 0", x.undo(), 1);
        due(17, "pointsTo(0)", x.pointsTo(0), 0);
        for (int i = 0; i < 4; i++) {
            x.turn(11);
        }
        for (int i = 0; i < 40; i++) {
            due(17, "undo() of the latest 40", x.undo(), 0);
        }
        due(17, "undo() of the forty-first", x.undo(), -11);
        due(17, "pointsTo(0) after 4 turns stay", x.pointsTo(0), 4);
    }

    private static void undoOfEachMovement() {
        TurntableHouse x = new TurntableHouse();
        x.setTrack(0, 60);
        x.setTrack(6, 60);
        x.addLocomotive(5, 0);
        x.addLocomotive(5, 0);
        x.addLocomotive(5, 0);
        x.addLocomotive(5, 6);
        x.addLocomotive(5, 6);
        x.setDead(1, true);
        x.moveIn(0, 2);
        x.moveIn(1, 2);
        due(17, "the table", rowOf(x, 12), 91243);
        x.moveOut(0, 3);
        x.moveOut(1, 1);
        due(17, "the track at end A", rowOf(x, 0), 94210);
        due(17, "undo()", x.undo(), 41);
        due(17, "undo()", x.undo(), 33);
        due(17, "the table again", rowOf(x, 12), 91243);
        due(17, "the track at end A again", rowOf(x, 0), 90);
        due(17, "undo()", x.undo(), 22);
        due(17, "the track at end B again", rowOf(x, 6), 943);
        due(17, "the table again", rowOf(x, 12), 912);
        due(17, "undo()", x.undo(), 12);
        due(17, "the track at end A again", rowOf(x, 0), 9210);
        due(17, "freeLength(0)", x.freeLength(0), 45);
        due(17, "freeLength(12)", x.freeLength(12), 30);
        due(17, "log(-1)", x.log(-1), 0);
    }

    private static void log() {
        TurntableHouse x = house();
        due(18, "log(-1)", x.log(-1), 0);
        due(18, "log(0)", x.log(0), -11);
        x.turn(-2);
        x.turn(2);
        x.moveIn(0, 1);
        due(18, "log(-1)", x.log(-1), 5);
        due(18, "log(0)", x.log(0), 11);
        due(18, "log(1)", x.log(1), 0);
        due(18, "log(3)", x.log(3), 1);
        due(18, "log(4)", x.log(4), 1);
        due(18, "log(5)", x.log(5), -11);
        due(18, "log(-2)", x.log(-2), -11);
        due(18, "log(MAX)", x.log(MOST), -11);
        due(18, "log(MIN)", x.log(LEAST), -11);
        x.turn(11);
        x.turn(-11);
        x.turn(11);
        due(18, "log(-1) of 38", x.log(-1), 38);
        due(18, "log(37)", x.log(37), 1);
        x.turn(-2);
        due(18, "log(-1) of 40", x.log(-1), 40);
        due(18, "log(39)", x.log(39), 1);
        x.turn(-2);
        due(18, "log(-1) of the latest 40", x.log(-1), 40);
        due(18, "log(39) of the latest 40", x.log(39), 0);
        due(18, "log(37) of the latest 40", x.log(37), 11);
        due(18, "log(3) of the latest 40", x.log(3), 1);
        due(18, "log(4) of the latest 40", x.log(4), 0);
        due(18, "log(40) of the latest 40", x.log(40), -11);
        x.undo();
        due(18, "log(-1) after undo()", x.log(-1), 39);
        due(18, "log(38) after undo()", x.log(38), 0);
        due(18, "log(39) after undo()", x.log(39), -11);
    }

    private static void logIsEmptied() {
        for (int i = 0; i < 7; i++) {
            TurntableHouse x = house();
            x.save(1);
            x.turn(1);
            int answer = i == 0 ? x.setTrack(0, 40) : i == 1 ? x.setTableLength(30) : i == 2 ? x.addLocomotive(1, 0)
                    : i == 3 ? x.removeLocomotive() : i == 4 ? x.setDead(0, false) : i == 5 ? x.restore(1)
                    : x.setTrack(3, 0);
            due(18, "call " + i + " is no error", answer < 0 ? 1 : 0, 0);
            due(18, "log(-1) after call " + i, x.log(-1), 0);
            due(18, "undo() after call " + i, x.undo(), -11);
        }
    }

    private static void logIsKept() {
        TurntableHouse x = new TurntableHouse();
        x.setTrack(0, 10);
        x.turn(1);
        x.removeLocomotive();
        due(18, "log(-1) after NONE of removeLocomotive()", x.log(-1), 1);
        x.addLocomotive(5, 0);
        x.turn(1);
        x.setTrack(0, 0);
        x.setTrack(12, 1);
        x.setTrack(0, 61);
        x.setTableLength(0);
        x.addLocomotive(6, 0);
        x.addLocomotive(1, 1);
        x.setDead(1, true);
        x.restore(0);
        x.restore(2);
        x.save(0);
        x.save(2);
        x.fewestTurns(0, 0);
        x.plan(0, 0, 0);
        TurntableHouse full = new TurntableHouse();
        full.setTrack(0, 60);
        for (int i = 0; i < 8; i++) {
            full.addLocomotive(1, 0);
        }
        full.turn(1);
        full.addLocomotive(1, 0);
        due(18, "log(-1) after TOO_MANY", full.log(-1), 1);
        due(18, "log(-1) after errors, save and plans", x.log(-1), 1);
    }

    private static void fewestTurns() {
        TurntableHouse x = house();
        due(19, "fewestTurns(1,0) already there", x.fewestTurns(1, 0), 0);
        due(19, "fewestTurns(0,0) behind the other", x.fewestTurns(0, 0), 0);
        due(19, "fewestTurns(0,6)", x.fewestTurns(0, 6), 0);
        x.turn(-1);
        due(19, "fewestTurns(1,0) with the table away", x.fewestTurns(1, 0), 0);
        due(19, "fewestTurns(0,6)", x.fewestTurns(0, 6), 1);
        due(19, "fewestTurns(3,0)", x.fewestTurns(3, 0), -3);
        due(19, "fewestTurns(-1,12)", x.fewestTurns(-1, 12), -3);
        due(19, "fewestTurns(MAX,MAX)", x.fewestTurns(MOST, MOST), -3);
        due(19, "fewestTurns(0,12)", x.fewestTurns(0, 12), -1);
        due(19, "fewestTurns(0,-1)", x.fewestTurns(0, -1), -1);
        due(19, "fewestTurns(0,MIN)", x.fewestTurns(0, LEAST), -1);
        due(19, "fewestTurns(0,3)", x.fewestTurns(0, 3), -2);
        due(19, "nothing moved", rowOf(x, 0), 910);
        due(19, "pointsTo(0)", x.pointsTo(0), 11);
        due(19, "log(-1)", x.log(-1), 1);
        due(19, "turnsMade()", x.turnsMade(), 1);
    }

    private static void fewestTurnsLimits() {
        TurntableHouse x = house();
        x.setTrack(1, 5);
        x.setTrack(2, 60);
        x.setTrack(3, 60);
        due(19, "fewestTurns(0,1) where it does not fit", x.fewestTurns(0, 1), -11);
        due(19, "fewestTurns(0,2) with 3 and 5", x.fewestTurns(0, 2), 2);
        x.addLocomotive(1, 0);
        due(19, "fewestTurns(0,2) with 4 locomotives", x.fewestTurns(0, 2), -9);
        due(19, "fewestTurns(0,7) with 4 locomotives", x.fewestTurns(0, 7), -2);
        x.removeLocomotive();
        x.setTrack(4, 60);
        due(19, "fewestTurns(0,2) with 6 tracks", x.fewestTurns(0, 2), -9);
        due(19, "fewestTurns(1,0) with 6 tracks, already there", x.fewestTurns(1, 0), -9);
        due(19, "fewestTurns(3,0) with 6 tracks", x.fewestTurns(3, 0), -3);
        due(19, "fewestTurns(0,12) with 6 tracks", x.fewestTurns(0, 12), -1);
        TurntableHouse small = new TurntableHouse();
        small.setTableLength(1);
        small.setTrack(0, 1);
        small.setTrack(4, 1);
        small.setTrack(7, 1);
        small.addLocomotive(1, 0);
        due(19, "fewestTurns(0,4) with lengths of 1", small.fewestTurns(0, 4), 2);
        due(19, "fewestTurns(0,7) with lengths of 1", small.fewestTurns(0, 7), 1);
        small.setTrack(1, 1);
        small.setTrack(2, 1);
        due(19, "fewestTurns(0,4) with 5 of length 1", small.fewestTurns(0, 4), 2);
        small.setTrack(3, 1);
        due(19, "fewestTurns(0,4) with 6 of length 1", small.fewestTurns(0, 4), -9);
    }

    private static void fewestTurnsAfterChanges() {
        TurntableHouse x = new TurntableHouse();
        x.setTrack(0, 40);
        x.setTrack(1, 20);
        x.addLocomotive(10, 0);
        due(19, "fewestTurns(0,1)", x.fewestTurns(0, 1), 1);
        x.setDead(0, true);
        due(19, "fewestTurns(0,1) of a dead one", x.fewestTurns(0, 1), -11);
        x.addLocomotive(10, 0);
        due(19, "fewestTurns(0,1) pushed by a live one", x.fewestTurns(0, 1), 1);
        x.setTableLength(19);
        due(19, "fewestTurns(0,1) with a short table", x.fewestTurns(0, 1), -11);
        x.setTableLength(20);
        x.save(0);
        due(19, "fewestTurns(0,1) with a table that just fits", x.fewestTurns(0, 1), 1);
        x.setTrack(1, 19);
        due(19, "fewestTurns(0,1) with a short track", x.fewestTurns(0, 1), -11);
        x.restore(0);
        due(19, "fewestTurns(0,1) restored", x.fewestTurns(0, 1), 1);
        due(19, "plan(0,1,0): both in", x.plan(0, 1, 0), 12);
        due(19, "plan(0,1,2): both out", x.plan(0, 1, 2), 32);
        due(19, "plan(0,1,3): the live one in again", x.plan(0, 1, 3), 11);
        x.moveIn(0, 2);
        x.turn(1);
        due(19, "fewestTurns(0,1) on the way", x.fewestTurns(0, 1), 0);
        due(19, "plan(0,1,-1) on the way", x.plan(0, 1, -1), 2);
        x.removeLocomotive();
        due(19, "fewestTurns(0,1) alone again", x.fewestTurns(0, 1), -11);
    }

    private static void plan() {
        TurntableHouse x = house();
        due(20, "plan(1,0,-1) already there", x.plan(1, 0, -1), 0);
        due(20, "plan(1,0,0) already there", x.plan(1, 0, 0), -11);
        due(20, "plan(0,0,-1) behind the other", x.plan(0, 0, -1), 1);
        due(20, "plan(0,0,0)", x.plan(0, 0, 0), 11);
        due(20, "plan(0,0,1)", x.plan(0, 0, 1), -11);
        x.moveIn(0, 2);
        due(20, "plan(1,0,-1) behind the other on the table", x.plan(1, 0, -1), 1);
        due(20, "plan(1,0,0)", x.plan(1, 0, 0), 32);
        x.undo();
        due(20, "plan(0,6,-1)", x.plan(0, 6, -1), 2);
        due(20, "plan(0,6,0)", x.plan(0, 6, 0), 12);
        due(20, "plan(0,6,1)", x.plan(0, 6, 1), 42);
        due(20, "plan(0,6,2)", x.plan(0, 6, 2), -11);
        due(20, "plan(0,0,-2)", x.plan(0, 0, -2), -11);
        due(20, "plan(0,0,MAX)", x.plan(0, 0, MOST), -11);
        due(20, "plan(0,0,MIN)", x.plan(0, 0, LEAST), -11);
        due(20, "plan(3,0,-1)", x.plan(3, 0, -1), -3);
        due(20, "plan(3,12,-2)", x.plan(3, 12, -2), -3);
        due(20, "plan(0,12,-1)", x.plan(0, 12, -1), -1);
        due(20, "plan(0,1,-1)", x.plan(0, 1, -1), -2);
        x.setTrack(1, 5);
        due(20, "plan(0,1,-1) where it does not fit", x.plan(0, 1, -1), -11);
        due(20, "plan(0,1,0) where it does not fit", x.plan(0, 1, 0), -11);
        x.addLocomotive(1, 0);
        due(20, "plan(0,0,-1) with 4 locomotives", x.plan(0, 0, -1), -9);
        due(20, "plan(0,0,-2) with 4 locomotives", x.plan(0, 0, -2), -9);
    }

    /** Fewest turns before fewest actions, these before the smallest codes. */
    private static void planOrder() {
        TurntableHouse x = new TurntableHouse();
        x.setTrack(0, 40);
        x.setTrack(3, 40);
        x.addLocomotive(5, 0);
        x.turn(6);
        due(20, "end B is nearer: actions", x.plan(0, 3, -1), 5);
        due(20, "in at end B, not after turns", x.plan(0, 3, 0), 21);
        due(20, "clockwise, not back", x.plan(0, 3, 1), 0);
        due(20, "the last turn", x.plan(0, 3, 3), 0);
        due(20, "out at end B", x.plan(0, 3, 4), 41);
        x.setTrack(6, 40);
        x.setTrack(3, 0);
        due(20, "from the opposite track: actions", x.plan(0, 6, -1), 2);
        due(20, "in at end B", x.plan(0, 6, 0), 21);
        due(20, "out at end A", x.plan(0, 6, 1), 31);
        x.turn(3);
        due(20, "a quarter off: actions", x.plan(0, 6, -1), 5);
        due(20, "clockwise comes first", x.plan(0, 6, 0), 0);
        due(20, "the third turn", x.plan(0, 6, 2), 0);
        due(20, "in at end A", x.plan(0, 6, 3), 11);
        due(20, "out at end B", x.plan(0, 6, 4), 41);
    }

    private static void save() {
        TurntableHouse x = house();
        due(21, "save(2)", x.save(2), -4);
        due(21, "save(-1)", x.save(-1), -4);
        due(21, "save(MAX)", x.save(MOST), -4);
        due(21, "save(MIN)", x.save(LEAST), -4);
        due(21, "restore(0): nothing was saved", x.restore(0), -10);
        x.turn(1);
        due(21, "save(0)", x.save(0), 3);
        due(21, "log(-1): the log stays", x.log(-1), 1);
        x.removeLocomotive();
        due(21, "save(1)", x.save(1), 2);
        due(21, "restore(0)", x.restore(0), 3);
        due(21, "restore(1)", x.restore(1), 2);
        x.removeLocomotive();
        due(21, "save(0) over the other", x.save(0), 1);
        due(21, "restore(0)", x.restore(0), 1);
        TurntableHouse empty = new TurntableHouse();
        due(21, "save(1) of an empty house", empty.save(1), 0);
        due(21, "restore(1) of an empty house", empty.restore(1), 0);
        due(21, "restore(0) of an empty house", empty.restore(0), -10);
    }

    private static void restore() {
        TurntableHouse x = house();
        due(22, "restore(2)", x.restore(2), -4);
        due(22, "restore(-1)", x.restore(-1), -4);
        due(22, "restore(MIN)", x.restore(LEAST), -4);
        due(22, "restore(0)", x.restore(0), -10);
        x.save(1);
        due(22, "restore(0) with slot 1 saved", x.restore(0), -10);
        x.turn(1);
        due(22, "restore(1)", x.restore(1), 3);
        due(22, "log(-1)", x.log(-1), 0);
        due(22, "undo()", x.undo(), -11);
        due(22, "pointsTo(0)", x.pointsTo(0), 0);
        x.turn(2);
        due(22, "restore(1) again", x.restore(1), 3);
        due(22, "pointsTo(0)", x.pointsTo(0), 0);
    }

    private static void restoreIsWhole() {
        TurntableHouse x = house();
        x.setTableLength(25);
        x.setDead(0, true);
        x.moveIn(1, 1);
        x.turn(7);
        x.save(0);
        x.turn(-1);
        x.moveOut(0, 1);
        x.setDead(0, false);
        x.setDead(1, true);
        x.removeLocomotive();
        x.addLocomotive(3, 0);
        x.addLocomotive(4, 0);
        x.setTrack(6, 0);
        x.setTrack(4, 7);
        x.setTableLength(60);
        due(22, "restore(0)", x.restore(0), 3);
        due(22, "locomotives()", x.locomotives(), 3);
        due(22, "trackLength(0)", x.trackLength(0), 40);
        due(22, "trackLength(6)", x.trackLength(6), 30);
        due(22, "trackLength(4)", x.trackLength(4), 0);
        due(22, "freeLength(0)", x.freeLength(0), 18);
        due(22, "freeLength(6)", x.freeLength(6), 30);
        due(22, "freeLength(12)", x.freeLength(12), 17);
        due(22, "the table", rowOf(x, 12), 92);
        due(22, "the track", rowOf(x, 0), 910);
        due(22, "pointsTo(0)", x.pointsTo(0), 7);
        due(22, "setDead(0,true): it was dead", x.setDead(0, true), 1);
        due(22, "setDead(1,false): it was alive", x.setDead(1, false), 0);
        x.removeLocomotive();
        due(22, "restore(0): the slot keeps it", x.restore(0), 3);
        due(22, "the table", rowOf(x, 12), 92);
    }
}
