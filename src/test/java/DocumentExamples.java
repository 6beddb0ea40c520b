/** The four examples of the document, each on a new object. */
public final class DocumentExamples {
    private static int wrong = 0;

    private static void due(String call, int got, int want) {
        if (got != want) {
            wrong++;
            System.out.println(call + " answered " + got + ", due is " + want);
        }
    }

    public static void main(String[] args) {
        inAndOutAndUndone();
        bestPlan();
        deadPushed();
        errors();
        if (wrong != 0) {
            System.exit(1);
        }
    }

    private static void inAndOutAndUndone() {
        TurntableHouse x = new TurntableHouse();
        due("1: setTrack(0,40)", x.setTrack(0, 40), 0);
        due("1: setTrack(6,30)", x.setTrack(6, 30), 0);
        due("1: addLocomotive(10,0)", x.addLocomotive(10, 0), 0);
        due("1: addLocomotive(12,0)", x.addLocomotive(12, 0), 1);
        due("1: row(0,0)", x.row(0, 0), 1);
        due("1: moveIn(0,2)", x.moveIn(0, 2), 2);
        due("1: row(12,0)", x.row(12, 0), 0);
        due("1: row(12,1)", x.row(12, 1), 1);
        due("1: moveOut(1,1)", x.moveOut(1, 1), 1);
        due("1: row(6,0)", x.row(6, 0), 1);
        due("1: log(0)", x.log(0), 41);
        due("1: undo()", x.undo(), 41);
        due("1: row(12,-1)", x.row(12, -1), 2);
    }

    private static void bestPlan() {
        TurntableHouse x = new TurntableHouse();
        due("2: setTrack(0,40)", x.setTrack(0, 40), 0);
        due("2: setTrack(3,20)", x.setTrack(3, 20), 0);
        due("2: addLocomotive(10,0)", x.addLocomotive(10, 0), 0);
        due("2: addLocomotive(12,0)", x.addLocomotive(12, 0), 1);
        due("2: fewestTurns(0,3)", x.fewestTurns(0, 3), 3);
        due("2: plan(0,3,-1)", x.plan(0, 3, -1), 5);
        due("2: plan(0,3,0)", x.plan(0, 3, 0), 12);
        due("2: plan(0,3,1)", x.plan(0, 3, 1), 0);
        due("2: turn(3)", x.turn(3), 3);
        due("2: fewestTurns(0,3)", x.fewestTurns(0, 3), 6);
    }

    private static void deadPushed() {
        TurntableHouse x = new TurntableHouse();
        due("3: setTrack(0,40)", x.setTrack(0, 40), 0);
        due("3: setTrack(1,40)", x.setTrack(1, 40), 0);
        due("3: addLocomotive(10,0)", x.addLocomotive(10, 0), 0);
        due("3: addLocomotive(12,0)", x.addLocomotive(12, 0), 1);
        due("3: setDead(1,true)", x.setDead(1, true), 0);
        due("3: moveIn(0,1)", x.moveIn(0, 1), -7);
        due("3: moveIn(0,2)", x.moveIn(0, 2), 2);
        due("3: turn(1)", x.turn(1), 1);
        due("3: moveOut(0,1)", x.moveOut(0, 1), 1);
        due("3: moveOut(0,2)", x.moveOut(0, 2), -6);
        due("3: place(1)", x.place(1), 12);
        due("3: turnsMade()", x.turnsMade(), 1);
    }

    private static void errors() {
        TurntableHouse x = new TurntableHouse();
        due("4: setTrack(0,20)", x.setTrack(0, 20), 0);
        due("4: addLocomotive(15,0)", x.addLocomotive(15, 0), 0);
        due("4: addLocomotive(6,0)", x.addLocomotive(6, 0), -8);
        due("4: moveIn(1,1)", x.moveIn(1, 1), -2);
        due("4: moveIn(0,2)", x.moveIn(0, 2), -6);
        due("4: setTrack(0,10)", x.setTrack(0, 10), -5);
        due("4: turn(12)", x.turn(12), -4);
        due("4: place(1)", x.place(1), -3);
        due("4: fewestTurns(0,1)", x.fewestTurns(0, 1), -2);
    }
}
