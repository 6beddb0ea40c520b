import java.lang.reflect.InvocationTargetException;
import java.lang.reflect.Method;
import java.util.ArrayList;
import java.util.List;
import java.util.TreeMap;
import java.util.function.Supplier;
import java.util.function.ToIntFunction;

/**
 * One test for each sentence of the document's "What it is" and "Description" that names a boundary case.
 * Each test names its sentence with says; every private static void method without parameters is a test and is run.
 */
public final class DescriptionBoundaries {
    private static final int LEAST = Integer.MIN_VALUE, MOST = Integer.MAX_VALUE;
    private static final int NO_SUCH_POSITION = -1, NO_SUCH_TRACK = -2, NO_SUCH_LOCOMOTIVE = -3, BAD_VALUE = -4,
            NOT_EMPTY = -5, TOO_FEW = -6, ALL_DEAD = -7, NO_ROOM = -8, TOO_MANY = -9, NOT_SAVED = -10, NONE = -11;
    private static final int A = 0, B = 1, TABLE = 12;
    private static final int[] NO_POSITIONS = {-1, 12, LEAST, MOST};
    private static final int MOST_CALLS = 512;

    private static String sentence = "";
    private static int checks = 0;
    private static int wrong = 0;

    private static void says(String text) {
        sentence = text;
    }

    private static void due(String call, Object got, Object want) {
        checks++;
        if (!got.equals(want)) {
            wrong++;
            System.out.println(call + " answered " + got + ", due is " + want + ": \"" + sentence + "\"");
        }
    }

    public static void main(String[] args) throws IllegalAccessException {
        TreeMap<String, Method> tests = new TreeMap<>();
        for (Method m : DescriptionBoundaries.class.getDeclaredMethods()) {
            if (m.getParameterCount() == 0 && m.getReturnType() == void.class && !m.isSynthetic()) {
                tests.put(m.getName(), m);
            }
        }
        for (Method test : tests.values()) {
            run(test);
        }
        System.out.println(tests.size() + " tests, " + checks + " checks, " + wrong + " wrong");
        if (wrong != 0 || tests.isEmpty()) {
            System.exit(1);
        }
    }

    private static void run(Method test) throws IllegalAccessException {
        sentence = "";
        int before = checks;
        try {
            test.invoke(null);
        } catch (InvocationTargetException e) {
            wrong++;
            System.out.println(test.getName() + " threw " + e.getCause() + ": \"" + sentence + "\"");
        }
        if (sentence.isEmpty() || checks == before) {
            wrong++;
            System.out.println(test.getName() + " names no sentence or checks nothing");
        }
    }

    /** A house with tracks of the length 60 at the given positions, and a table of 60. */
    private static TurntableHouse withTracks(int... positions) {
        TurntableHouse x = new TurntableHouse();
        x.setTableLength(60);
        for (int position : positions) {
            x.setTrack(position, 60);
        }
        return x;
    }

    private static void add(TurntableHouse x, int number, int length, int position) {
        for (int i = 0; i < number; i++) {
            x.addLocomotive(length, position);
        }
    }

    /** The locomotives of a row, one digit each, the first one first. */
    private static String row(TurntableHouse x, int place) {
        StringBuilder digits = new StringBuilder();
        int count = x.row(place, -1);
        for (int i = 0; i < count; i++) {
            digits.append(x.row(place, i));
        }
        return digits.toString();
    }

    /** The codes of the best plan. */
    private static List<Integer> planOf(TurntableHouse x, int locomotive, int position) {
        List<Integer> codes = new ArrayList<>();
        int count = x.plan(locomotive, position, -1);
        for (int i = 0; i < count; i++) {
            codes.add(x.plan(locomotive, position, i));
        }
        return codes;
    }

    // ---- What it is

    private static void theLastCallOf512() {
        says("An object is used for at most 512 calls after it has been made");
        TurntableHouse x = new TurntableHouse();
        x.setTrack(0, 40);
        x.setTrack(3, 20);
        x.addLocomotive(10, 0);
        x.addLocomotive(12, 0);
        for (int call = 5; call <= 508; call++) {
            x.turn(call % 2 == 0 ? 11 : -11);
        }
        due("call 509, turnsMade()", x.turnsMade(), 504 * 11);
        due("call 510, log(-1)", x.log(-1), 40);
        due("call 511, fewestTurns(0,3)", x.fewestTurns(0, 3), 3);
        due("call 512, plan(0,3,4)", x.plan(0, 3, 4), 31);
    }

    // ---- CONVENTIONS

    private static void severalErrors() {
        says("When several errors apply, a method returns the one that its description lists first.");
        severalErrorsOfTheHouse(house());
        severalErrorsOfAddLocomotive(fullHouse());
        for (int end = A; end <= B; end++) {
            severalErrorsOfMoveIn(end);
            severalErrorsOfMoveOut(end);
        }
        severalErrorsOfPlans(fullHouse());
    }

    private static void severalErrorsOfTheHouse(TurntableHouse x) {
        due("setTrack(12,61)", x.setTrack(12, 61), NO_SUCH_POSITION);
        due("setTrack(-1,-1)", x.setTrack(-1, -1), NO_SUCH_POSITION);
        due("setTrack(0,-1) of a track in use", x.setTrack(0, -1), BAD_VALUE);
        due("setTableLength(0) of a table in use", x.setTableLength(0), BAD_VALUE);
        due("setTableLength(-1) of a table in use", x.setTableLength(-1), BAD_VALUE);
    }

    /** The house is full and track 3 has a free length of 2. */
    private static void severalErrorsOfAddLocomotive(TurntableHouse x) {
        due("addLocomotive(0,12), a ninth", x.addLocomotive(0, 12), NO_SUCH_POSITION);
        due("addLocomotive(1,-1), a ninth", x.addLocomotive(1, -1), NO_SUCH_POSITION);
        due("addLocomotive(21,11), a ninth, no track", x.addLocomotive(21, 11), NO_SUCH_TRACK);
        due("addLocomotive(1,11), a ninth, no track", x.addLocomotive(1, 11), NO_SUCH_TRACK);
        due("addLocomotive(21,3), a ninth, no room", x.addLocomotive(21, 3), BAD_VALUE);
        due("addLocomotive(0,3), a ninth", x.addLocomotive(0, 3), BAD_VALUE);
        due("addLocomotive(3,3), a ninth, no room", x.addLocomotive(3, 3), NO_ROOM);
        due("addLocomotive(2,3), a ninth", x.addLocomotive(2, 3), TOO_MANY);
    }

    private static void severalErrorsOfMoveIn(int end) {
        TurntableHouse x = new TurntableHouse();
        int position = x.pointsTo(end);
        due("moveIn(2,1) without a track", x.moveIn(2, 1), BAD_VALUE);
        due("moveIn(end,0) without a track", x.moveIn(end, 0), BAD_VALUE);
        due("moveIn(end,9) without a track", x.moveIn(end, 9), NO_SUCH_TRACK);
        x.setTrack(position, 60);
        add(x, 2, 16, position);
        due("moveIn(end,3) of 2 without room", x.moveIn(end, 3), TOO_FEW);
        x.setDead(0, true);
        x.setDead(1, true);
        due("moveIn(end,3) of 2 dead ones", x.moveIn(end, 3), TOO_FEW);
        due("moveIn(end,2) of dead ones without room", x.moveIn(end, 2), ALL_DEAD);
        due("moveIn(end,0) of dead ones", x.moveIn(end, 0), BAD_VALUE);
    }

    private static void severalErrorsOfMoveOut(int end) {
        TurntableHouse x = withTracks(0);
        add(x, 2, 16, 0);
        x.moveIn(A, 2);
        x.turn(1);
        int position = x.pointsTo(end);
        due("moveOut(2,1) without a track", x.moveOut(2, 1), BAD_VALUE);
        due("moveOut(end,0) without a track", x.moveOut(end, 0), BAD_VALUE);
        due("moveOut(end,3) without a track", x.moveOut(end, 3), NO_SUCH_TRACK);
        x.setTrack(position, 31);
        due("moveOut(end,3) of 2 without room", x.moveOut(end, 3), TOO_FEW);
        x.setDead(0, true);
        x.setDead(1, true);
        due("moveOut(end,3) of 2 dead ones", x.moveOut(end, 3), TOO_FEW);
        due("moveOut(end,2) of dead ones without room", x.moveOut(end, 2), ALL_DEAD);
        due("moveOut(end,-1) of dead ones", x.moveOut(end, -1), BAD_VALUE);
        x.setTrack(position, 0);
        due("moveOut(end,1) of a dead one without a track", x.moveOut(end, 1), NO_SUCH_TRACK);
    }

    /** The house has too many locomotives and tracks to plan. */
    private static void severalErrorsOfPlans(TurntableHouse x) {
        due("fewestTurns(8,12)", x.fewestTurns(8, 12), NO_SUCH_LOCOMOTIVE);
        due("fewestTurns(-1,11)", x.fewestTurns(-1, 11), NO_SUCH_LOCOMOTIVE);
        due("fewestTurns(0,12)", x.fewestTurns(0, 12), NO_SUCH_POSITION);
        due("fewestTurns(0,11)", x.fewestTurns(0, 11), NO_SUCH_TRACK);
        due("fewestTurns(0,0)", x.fewestTurns(0, 0), TOO_MANY);
        due("plan(8,12,0)", x.plan(8, 12, 0), NO_SUCH_LOCOMOTIVE);
        due("plan(-1,11,0)", x.plan(-1, 11, 0), NO_SUCH_LOCOMOTIVE);
        due("plan(0,12,0)", x.plan(0, 12, 0), NO_SUCH_POSITION);
        due("plan(0,11,0)", x.plan(0, 11, 0), NO_SUCH_TRACK);
        due("plan(0,0,0)", x.plan(0, 0, 0), TOO_MANY);
    }

    private static void noneIsNoError() {
        says("NONE is not an error: it is returned only if no error applies.");
        TurntableHouse x = house();
        due("row(13,9)", x.row(13, 9), NO_SUCH_POSITION);
        due("row(11,9)", x.row(11, 9), NO_SUCH_TRACK);
        due("row(12,9)", x.row(TABLE, 9), NONE);
        due("plan(3,0,99)", x.plan(3, 0, 99), NO_SUCH_LOCOMOTIVE);
        due("plan(0,12,-2)", x.plan(0, 12, -2), NO_SUCH_POSITION);
        due("plan(0,11,99)", x.plan(0, 11, 99), NO_SUCH_TRACK);
        due("plan(0,0,99)", x.plan(0, 0, 99), NONE);
        for (int locomotive = 0; locomotive < 3; locomotive++) {
            x.setDead(locomotive, true);
        }
        due("fewestTurns(0,6) of dead ones", x.fewestTurns(0, 6), NONE);
        due("fewestTurns(3,6) of dead ones", x.fewestTurns(3, 6), NO_SUCH_LOCOMOTIVE);
        due("fewestTurns(0,12) of dead ones", x.fewestTurns(0, 12), NO_SUCH_POSITION);
        due("fewestTurns(0,11) of dead ones", x.fewestTurns(0, 11), NO_SUCH_TRACK);
        x.addLocomotive(1, 0);
        x.setDead(3, true);
        due("fewestTurns(0,6) of 4 dead ones", x.fewestTurns(0, 6), TOO_MANY);
        due("plan(0,6,-2) of 4 dead ones", x.plan(0, 6, -2), TOO_MANY);
    }

    private static void refusedByTheHouse() {
        says("A call that returns an error changes nothing.");
        for (int position : NO_POSITIONS) {
            refused("setTrack", DescriptionBoundaries::house, x -> x.setTrack(position, 5), NO_SUCH_POSITION);
            refused("addLocomotive", DescriptionBoundaries::house, x -> x.addLocomotive(1, position), NO_SUCH_POSITION);
        }
        for (int length : new int[] {-1, 61, LEAST, MOST}) {
            refused("setTrack", DescriptionBoundaries::house, x -> x.setTrack(0, length), BAD_VALUE);
            refused("setTrack", DescriptionBoundaries::house, x -> x.setTrack(11, length), BAD_VALUE);
            refused("setTableLength", DescriptionBoundaries::house, x -> x.setTableLength(length), BAD_VALUE);
        }
        refused("setTableLength(0)", DescriptionBoundaries::house, x -> x.setTableLength(0), BAD_VALUE);
        refused("setTrack(0,0)", DescriptionBoundaries::house, x -> x.setTrack(0, 0), NOT_EMPTY);
        refused("setTrack(0,9)", DescriptionBoundaries::house, x -> x.setTrack(0, 9), NOT_EMPTY);
        refused("setTableLength(11)", DescriptionBoundaries::house, x -> x.setTableLength(11), NOT_EMPTY);
        refused("addLocomotive(5,11)", DescriptionBoundaries::house, x -> x.addLocomotive(5, 11), NO_SUCH_TRACK);
        refused("addLocomotive(0,0)", DescriptionBoundaries::house, x -> x.addLocomotive(0, 0), BAD_VALUE);
        refused("addLocomotive(21,0)", DescriptionBoundaries::house, x -> x.addLocomotive(21, 0), BAD_VALUE);
        refused("addLocomotive(10,3)", DescriptionBoundaries::house, x -> x.addLocomotive(10, 3), NO_ROOM);
        for (int locomotive : new int[] {-1, 3, 8, 32, LEAST, MOST}) {
            refused("setDead", DescriptionBoundaries::house, x -> x.setDead(locomotive, true), NO_SUCH_LOCOMOTIVE);
            refused("setDead", DescriptionBoundaries::house, x -> x.setDead(locomotive, false), NO_SUCH_LOCOMOTIVE);
        }
    }

    private static void refusedWhenAsked() {
        says("A call that returns an error changes nothing.");
        refused("trackLength(12)", DescriptionBoundaries::house, x -> x.trackLength(12), NO_SUCH_POSITION);
        refused("freeLength(13)", DescriptionBoundaries::house, x -> x.freeLength(13), NO_SUCH_POSITION);
        refused("freeLength(11)", DescriptionBoundaries::house, x -> x.freeLength(11), NO_SUCH_TRACK);
        refused("row(13,0)", DescriptionBoundaries::house, x -> x.row(13, 0), NO_SUCH_POSITION);
        refused("row(11,0)", DescriptionBoundaries::house, x -> x.row(11, 0), NO_SUCH_TRACK);
        refused("place(3)", DescriptionBoundaries::house, x -> x.place(3), NO_SUCH_LOCOMOTIVE);
        refused("pointsTo(2)", DescriptionBoundaries::house, x -> x.pointsTo(2), BAD_VALUE);
    }

    private static void refusedMovements() {
        says("A call that returns an error changes nothing.");
        for (int turns : new int[] {0, 12, -12, LEAST, MOST}) {
            refused("turn", DescriptionBoundaries::house, x -> x.turn(turns), BAD_VALUE);
        }
        refused("moveIn(2,1)", DescriptionBoundaries::house, x -> x.moveIn(2, 1), BAD_VALUE);
        refused("moveIn(0,0)", DescriptionBoundaries::house, x -> x.moveIn(A, 0), BAD_VALUE);
        refused("moveIn(0,2)", DescriptionBoundaries::house, x -> x.moveIn(A, 2), TOO_FEW);
        refused("moveIn(1,1)", DescriptionBoundaries::house, x -> x.moveIn(B, 1), ALL_DEAD);
        refused("moveIn(0,1)", DescriptionBoundaries::house, x -> x.moveIn(A, 1), NO_ROOM);
        refused("moveOut(2,1)", DescriptionBoundaries::house, x -> x.moveOut(2, 1), BAD_VALUE);
        refused("moveOut(1,0)", DescriptionBoundaries::house, x -> x.moveOut(B, 0), BAD_VALUE);
        refused("moveOut(0,2)", DescriptionBoundaries::house, x -> x.moveOut(A, 2), TOO_FEW);
        for (int end : new int[] {A, B}) {
            refused("moveIn", () -> turned(1), x -> x.moveIn(end, 1), NO_SUCH_TRACK);
            refused("moveOut", () -> turned(1), x -> x.moveOut(end, 1), NO_SUCH_TRACK);
            refused("moveOut", () -> turned(end == A ? 3 : 9), x -> x.moveOut(end, 1), NO_ROOM);
            refused("moveOut", DescriptionBoundaries::deadOnTheTable, x -> x.moveOut(end, 1), ALL_DEAD);
        }
    }

    private static void refusedPlansAndSlots() {
        says("A call that returns an error changes nothing.");
        refused("fewestTurns(3,0)", DescriptionBoundaries::house, x -> x.fewestTurns(3, 0), NO_SUCH_LOCOMOTIVE);
        refused("fewestTurns(0,12)", DescriptionBoundaries::house, x -> x.fewestTurns(0, 12), NO_SUCH_POSITION);
        refused("fewestTurns(0,11)", DescriptionBoundaries::house, x -> x.fewestTurns(0, 11), NO_SUCH_TRACK);
        refused("plan(3,0,0)", DescriptionBoundaries::house, x -> x.plan(3, 0, 0), NO_SUCH_LOCOMOTIVE);
        refused("plan(0,12,0)", DescriptionBoundaries::house, x -> x.plan(0, 12, 0), NO_SUCH_POSITION);
        refused("plan(0,11,0)", DescriptionBoundaries::house, x -> x.plan(0, 11, 0), NO_SUCH_TRACK);
        for (int slot : new int[] {-1, 2, LEAST, MOST}) {
            refused("save", DescriptionBoundaries::house, x -> x.save(slot), BAD_VALUE);
            refused("restore", DescriptionBoundaries::house, x -> x.restore(slot), BAD_VALUE);
        }
        refused("restore(1)", DescriptionBoundaries::house, x -> x.restore(1), NOT_SAVED);
    }

    private static void refusedWhenFull() {
        says("A call that returns an error changes nothing.");
        refused("addLocomotive(1,0)", DescriptionBoundaries::fullHouse, x -> x.addLocomotive(1, 0), TOO_MANY);
        refused("addLocomotive(3,3)", DescriptionBoundaries::fullHouse, x -> x.addLocomotive(3, 3), NO_ROOM);
        refused("fewestTurns(0,0)", DescriptionBoundaries::fullHouse, x -> x.fewestTurns(0, 0), TOO_MANY);
        refused("plan(0,0,0)", DescriptionBoundaries::fullHouse, x -> x.plan(0, 0, 0), TOO_MANY);
        refused("turn(12)", DescriptionBoundaries::fullHouse, x -> x.turn(12), BAD_VALUE);
        refused("setDead(8,true)", DescriptionBoundaries::fullHouse, x -> x.setDead(8, true), NO_SUCH_LOCOMOTIVE);
    }

    /** Two houses are made alike; the one that refused a call tells the same as the other one. */
    private static void refused(String call, Supplier<TurntableHouse> recipe, ToIntFunction<TurntableHouse> refusal,
            int error) {
        TurntableHouse x = recipe.get();
        due(call, refusal.applyAsInt(x), error);
        due("all that is told after " + call, readAll(x), readAll(recipe.get()));
    }

    /** 12 of 20 of the table are used, by locomotive 1; slot 0 is saved, slot 1 is not; 7 actions are logged. */
    private static TurntableHouse house() {
        TurntableHouse x = new TurntableHouse();
        x.setTrack(0, 40);
        x.setTrack(6, 30);
        x.setTrack(3, 9);
        x.setTrack(9, 11);
        x.setTableLength(20);
        x.addLocomotive(10, 0);
        x.addLocomotive(12, 0);
        x.addLocomotive(8, 6);
        x.setDead(2, true);
        x.save(0);
        x.turn(3);
        x.turn(-3);
        x.moveIn(A, 1);
        return x;
    }

    private static TurntableHouse turned(int turns) {
        TurntableHouse x = house();
        x.turn(turns);
        return x;
    }

    private static TurntableHouse deadOnTheTable() {
        TurntableHouse x = house();
        x.setDead(1, true);
        x.turn(-2);
        x.turn(2);
        return x;
    }

    /** Eight locomotives of 1 on track 3 of 10, six tracks, and more turns than the log keeps. */
    private static TurntableHouse fullHouse() {
        TurntableHouse x = new TurntableHouse();
        for (int position = 0; position < 6; position++) {
            x.setTrack(position, 10);
        }
        add(x, 8, 1, 3);
        x.setDead(6, true);
        x.save(0);
        for (int i = 0; i < 4; i++) {
            x.turn(i % 2 == 0 ? 11 : -10);
        }
        return x;
    }

    /** The answers of all that can be asked, also of what is dead, logged and saved; the house is used up then. */
    private static List<Integer> readAll(TurntableHouse x) {
        List<Integer> answers = new ArrayList<>();
        readHouse(x, answers);
        for (int i = -1; i <= 40; i++) {
            answers.add(x.log(i));
        }
        for (int locomotive = 0; locomotive < 3; locomotive++) {
            for (int position = 0; position < 12; position += 3) {
                answers.add(x.fewestTurns(locomotive, position));
                answers.addAll(planOf(x, locomotive, position));
            }
        }
        for (int i = 0; i <= 40; i++) {
            answers.add(x.undo());
        }
        readHouse(x, answers);
        readDead(x, answers);
        for (int slot = 0; slot < 2; slot++) {
            answers.add(x.restore(slot));
            readHouse(x, answers);
            readDead(x, answers);
        }
        if (answers.size() > MOST_CALLS - 60) {
            due("the number of calls", answers.size(), "at most " + (MOST_CALLS - 60));
        }
        return answers;
    }

    private static void readHouse(TurntableHouse x, List<Integer> answers) {
        answers.add(x.locomotives());
        answers.add(x.turnsMade());
        answers.add(x.pointsTo(A));
        answers.add(x.pointsTo(B));
        for (int place = 0; place <= TABLE; place++) {
            answers.add(x.freeLength(place));
            int count = x.row(place, -1);
            answers.add(count);
            for (int i = 0; i < count; i++) {
                answers.add(x.row(place, i));
            }
        }
    }

    private static void readDead(TurntableHouse x, List<Integer> answers) {
        for (int locomotive = 0; locomotive < 8; locomotive++) {
            answers.add(x.setDead(locomotive, false));
        }
    }

    // ---- TABLE AND TRACKS

    private static void twelvePositions() {
        says("There are 12 positions around the table, numbered 0 to 11 clockwise.");
        TurntableHouse x = withTracks(0, 11);
        due("addLocomotive(5,0)", x.addLocomotive(5, 0), 0);
        due("addLocomotive(5,11)", x.addLocomotive(5, 11), 1);
        due("trackLength(0)", x.trackLength(0), 60);
        due("trackLength(11)", x.trackLength(11), 60);
        due("fewestTurns(0,11)", x.fewestTurns(0, 11), 1);
        due("fewestTurns(1,0)", x.fewestTurns(1, 0), 2);
        for (int position : NO_POSITIONS) {
            due("setTrack(" + position + ",5)", x.setTrack(position, 5), NO_SUCH_POSITION);
            due("addLocomotive(5," + position + ")", x.addLocomotive(5, position), NO_SUCH_POSITION);
            due("trackLength(" + position + ")", x.trackLength(position), NO_SUCH_POSITION);
            due("fewestTurns(0," + position + ")", x.fewestTurns(0, position), NO_SUCH_POSITION);
            due("plan(0," + position + ",0)", x.plan(0, position, 0), NO_SUCH_POSITION);
        }
        due("turn(1): clockwise from 0", x.turn(1), 1);
        due("turn(10): clockwise to the last one", x.turn(10), 11);
    }

    private static void lengthOfATrack() {
        says("At each position there can be a track, which has a length from 1 to 60; initially there are none.");
        TurntableHouse x = new TurntableHouse();
        for (int position = 0; position < 12; position++) {
            due("trackLength(" + position + ") initially", x.trackLength(position), 0);
            due("setTrack(" + position + ",1)", x.setTrack(position, 1), 0);
            due("setTrack(" + position + ",60)", x.setTrack(position, 60), 1);
            due("setTrack(" + position + ",61)", x.setTrack(position, 61), BAD_VALUE);
            due("setTrack(" + position + ",-1)", x.setTrack(position, -1), BAD_VALUE);
        }
        for (int position = 0; position < 12; position++) {
            due("trackLength(" + position + ")", x.trackLength(position), 60);
        }
    }

    private static void plansOverLengthsOf1() {
        says("At each position there can be a track, which has a length from 1 to 60");
        TurntableHouse x = new TurntableHouse();
        x.setTableLength(1);
        x.setTrack(0, 1);
        x.setTrack(2, 1);
        x.setTrack(7, 1);
        x.addLocomotive(1, 0);
        due("the plan to end A", planOf(x, 0, 2), List.of(11, 0, 0, 31));
        due("the plan to end B", planOf(x, 0, 7), List.of(11, 0, 41));
        x.turn(6);
        due("the plan from end B", planOf(x, 0, 2), List.of(21, 0, 0, 41));
    }

    private static void lengthOfTheTable() {
        says("The table has a length from 1 to 60, initially 30, and two ends, END_A and END_B.");
        TurntableHouse x = new TurntableHouse();
        due("freeLength(12) initially", x.freeLength(TABLE), 30);
        due("setTableLength(1)", x.setTableLength(1), 30);
        due("setTableLength(60)", x.setTableLength(60), 1);
        due("setTableLength(0)", x.setTableLength(0), BAD_VALUE);
        due("setTableLength(61)", x.setTableLength(61), BAD_VALUE);
        due("freeLength(12)", x.freeLength(TABLE), 60);
        for (int end : new int[] {-1, 2, LEAST, MOST}) {
            due("pointsTo(" + end + ")", x.pointsTo(end), BAD_VALUE);
            due("moveIn(" + end + ",1)", x.moveIn(end, 1), BAD_VALUE);
            due("moveOut(" + end + ",1)", x.moveOut(end, 1), BAD_VALUE);
        }
    }

    private static void oppositeEnd() {
        says("End A points to a position, initially 0; end B always points to the position opposite to it, "
                + "which is the position of end A plus 6, modulo 12.");
        int[] opposite = {6, 7, 8, 9, 10, 11, 0, 1, 2, 3, 4, 5};
        TurntableHouse x = new TurntableHouse();
        TurntableHouse y = new TurntableHouse();
        for (int position = 0; position < 12; position++) {
            due("pointsTo(0)", x.pointsTo(A), position);
            due("pointsTo(1)", x.pointsTo(B), opposite[position]);
            x.turn(1);
            due("pointsTo(0) the other way", y.pointsTo(A), (12 - position) % 12);
            due("pointsTo(1) the other way", y.pointsTo(B), opposite[(12 - position) % 12]);
            y.turn(-1);
        }
    }

    // ---- LOCOMOTIVES

    private static void eightLocomotives() {
        says("There are up to 8 locomotives, numbered from 0 in the order in which they were added.");
        TurntableHouse x = withTracks(0, 5);
        for (int i = 0; i < 8; i++) {
            due("addLocomotive, number " + i, x.addLocomotive(1, i % 2 == 0 ? 0 : 5), i);
        }
        due("a ninth", x.addLocomotive(1, 0), TOO_MANY);
        due("a ninth on the other track", x.addLocomotive(1, 5), TOO_MANY);
        due("locomotives()", x.locomotives(), 8);
        due("place(7)", x.place(7), 5);
        due("place(8)", x.place(8), NO_SUCH_LOCOMOTIVE);
        due("place(-1)", x.place(-1), NO_SUCH_LOCOMOTIVE);
        x.removeLocomotive();
        due("place(7) removed", x.place(7), NO_SUCH_LOCOMOTIVE);
        due("an eighth again", x.addLocomotive(1, 0), 7);
        due("a ninth again", x.addLocomotive(1, 0), TOO_MANY);
    }

    private static void lengthOfALocomotive() {
        says("A locomotive has a length from 1 to 20 and is alive or dead; it is alive initially.");
        TurntableHouse x = withTracks(0);
        due("addLocomotive(0,0)", x.addLocomotive(0, 0), BAD_VALUE);
        due("addLocomotive(21,0)", x.addLocomotive(21, 0), BAD_VALUE);
        due("addLocomotive(1,0)", x.addLocomotive(1, 0), 0);
        due("freeLength(0)", x.freeLength(0), 59);
        due("addLocomotive(20,0)", x.addLocomotive(20, 0), 1);
        due("freeLength(0)", x.freeLength(0), 39);
        due("moveIn(0,1) of a new one", x.moveIn(A, 1), 1);
        due("setDead(0,true) of a new one", x.setDead(0, true), 0);
        due("setDead(0,false) of a dead one", x.setDead(0, false), 1);
    }

    private static void eachStandsSomewhere() {
        says("Each one stands on a track or on the table.");
        TurntableHouse x = withTracks(0, 11);
        add(x, 4, 5, 0);
        add(x, 4, 5, 11);
        x.moveIn(A, 2);
        int[] places = {0, 0, TABLE, TABLE, 11, 11, 11, 11};
        for (int locomotive = 0; locomotive < 8; locomotive++) {
            due("place(" + locomotive + ")", x.place(locomotive), places[locomotive]);
        }
        due("the sum of the rows", x.row(0, -1) + x.row(11, -1) + x.row(TABLE, -1), 8);
    }

    private static void rowOnATrack() {
        says("The locomotives on a track form a row that is numbered from 0, "
                + "beginning with the one nearest to the table.");
        TurntableHouse x = withTracks(0);
        due("row(0,0) of an empty row", x.row(0, 0), NONE);
        add(x, 8, 7, 0);
        due("the row", row(x, 0), "76543210");
        due("row(0,8)", x.row(0, 8), NONE);
        due("moveIn(0,1): the nearest one", x.moveIn(A, 1), 1);
        due("row(12,0)", x.row(TABLE, 0), 7);
        due("row(0,0) then", x.row(0, 0), 6);
        due("row(0,7) then", x.row(0, 7), NONE);
    }

    private static void rowOnTheTable() {
        says("The locomotives on the table form a row that is numbered from 0, "
                + "beginning with the one nearest to end A.");
        TurntableHouse x = withTracks(0, 6);
        due("row(12,0) of an empty row", x.row(TABLE, 0), NONE);
        add(x, 8, 7, 0);
        x.moveIn(A, 8);
        due("the row", row(x, TABLE), "01234567");
        due("row(12,8)", x.row(TABLE, 8), NONE);
        x.moveOut(A, 1);
        due("row(0,0): the one that was nearest to end A", x.row(0, 0), 0);
        x.moveOut(B, 1);
        due("row(6,0): the one that was nearest to end B", x.row(6, 0), 7);
        due("the row then", row(x, TABLE), "123456");
    }

    private static void sumOfLengths() {
        says("The sum of the lengths of the locomotives on a track, or on the table, "
                + "is never greater than its length.");
        TurntableHouse x = new TurntableHouse();
        x.setTrack(0, 39);
        x.setTrack(6, 18);
        x.addLocomotive(20, 0);
        due("addLocomotive(20,0), one too long", x.addLocomotive(20, 0), NO_ROOM);
        due("addLocomotive(19,0), just fits", x.addLocomotive(19, 0), 1);
        due("setTrack(0,38), one too short", x.setTrack(0, 38), NOT_EMPTY);
        due("setTrack(0,39), just fits", x.setTrack(0, 39), 39);
        x.setTableLength(38);
        due("moveIn(0,2), one too long", x.moveIn(A, 2), NO_ROOM);
        x.setTableLength(39);
        due("moveIn(0,2), just fits", x.moveIn(A, 2), 2);
        due("setTableLength(38), one too short", x.setTableLength(38), NOT_EMPTY);
        due("setTableLength(39), just fits", x.setTableLength(39), 39);
        due("moveOut(1,1), one too long", x.moveOut(B, 1), NO_ROOM);
        due("fewestTurns(1,6), one too long", x.fewestTurns(1, 6), NONE);
        x.setTrack(6, 19);
        due("fewestTurns(1,6), just fits", x.fewestTurns(1, 6), 0);
        due("moveOut(1,1), just fits", x.moveOut(B, 1), 1);
        due("freeLength(6)", x.freeLength(6), 0);
    }

    /** To every position: a locomotive of 10 comes from the opposite track to stand before one of 5. */
    private static void sumOfLengthsInPlans() {
        says("The sum of the lengths of the locomotives on a track, or on the table, "
                + "is never greater than its length.");
        for (int goal = 0; goal < 12; goal++) {
            int start = (goal + 6) % 12;
            TurntableHouse x = new TurntableHouse();
            x.setTableLength(10);
            x.setTrack(goal, 15);
            x.setTrack(start, 10);
            x.addLocomotive(5, goal);
            x.addLocomotive(10, start);
            int toEnd = Math.min(start % 6, 6 - start % 6);
            due("fewestTurns(1," + goal + "), both just fit", x.fewestTurns(1, goal), toEnd);
            x.setTrack(goal, 14);
            due("fewestTurns(1," + goal + "), both are one too long", x.fewestTurns(1, goal), NONE);
            x.setDead(0, true);
            due("fewestTurns(1," + goal + "), one too long, and dead", x.fewestTurns(1, goal), NONE);
            x.setTrack(goal, 9);
            due("fewestTurns(1," + goal + "), alone one too long", x.fewestTurns(1, goal), NONE);
        }
    }

    private static void sumOfLengthsOnTheTableInPlans() {
        says("The sum of the lengths of the locomotives on a track, or on the table, "
                + "is never greater than its length.");
        TurntableHouse x = new TurntableHouse();
        x.setTrack(0, 15);
        x.setTrack(3, 10);
        x.addLocomotive(10, 0);
        x.addLocomotive(5, 0);
        x.setTableLength(15);
        due("the plan with both on the table", planOf(x, 0, 3), List.of(12, 0, 0, 0, 31));
        x.setTableLength(14);
        due("fewestTurns(0,3), both are one too long", x.fewestTurns(0, 3), NONE);
        due("fewestTurns(1,3), which goes alone", x.fewestTurns(1, 3), 3);
        due("fewestTurns(0,0), when the other one has gone in", x.fewestTurns(0, 0), 0);
        x.setTableLength(4);
        due("fewestTurns(0,0), the other one is one too long", x.fewestTurns(0, 0), NONE);
    }

    // ---- ACTIONS

    private static void clockwise() {
        says("The table turns clockwise by one position: the position of end A increases by 1, modulo 12.");
        TurntableHouse x = new TurntableHouse();
        x.turn(10);
        due("turn(1) from 10", x.turn(1), 11);
        due("turn(1) from 11", x.turn(1), 0);
        due("turn(1) from 0", x.turn(1), 1);
        due("turn(11) from 1", x.turn(11), 0);
        x.turn(-1);
        due("turn(11) from 11", x.turn(11), 10);
    }

    private static void counterclockwise() {
        says("The table turns counterclockwise by one position: the position of end A decreases by 1, modulo 12.");
        TurntableHouse x = new TurntableHouse();
        x.turn(1);
        due("turn(-1) from 1", x.turn(-1), 0);
        due("turn(-1) from 0", x.turn(-1), 11);
        due("turn(-1) from 11", x.turn(-1), 10);
        due("turn(-11) from 10", x.turn(-11), 11);
        due("turn(-11) from 11", x.turn(-11), 0);
        due("turn(-11) from 0", x.turn(-11), 1);
    }

    private static void firstOfTheTrack() {
        says("the first k locomotives of the row on the track to which the end points move onto the table.");
        for (int count = 1; count <= 8; count++) {
            TurntableHouse x = withTracks(0);
            add(x, 8, 7, 0);
            due("moveIn(0," + count + ")", x.moveIn(A, count), count);
            due("the track", row(x, 0), "76543210".substring(count));
            due("the table", row(x, TABLE), "01234567".substring(8 - count));
        }
    }

    private static void inAtAnEnd() {
        says("They enter at this end and keep their order: the one that was nearest to the table goes farthest in, "
                + "next to the locomotives that are on the table already.");
        TurntableHouse x = withTracks(0, 6);
        add(x, 4, 5, 0);
        add(x, 4, 5, 6);
        due("moveIn(0,1) onto the empty table", x.moveIn(A, 1), 1);
        due("the table", row(x, TABLE), "3");
        due("moveIn(0,3): the whole row", x.moveIn(A, 3), 4);
        due("the table", row(x, TABLE), "0123");
        due("row(0,-1): an empty row", x.row(0, -1), 0);
        due("moveIn(1,4): the whole row", x.moveIn(B, 4), 8);
        due("the table", row(x, TABLE), "01237654");
        due("row(6,-1): an empty row", x.row(6, -1), 0);
        TurntableHouse y = withTracks(6);
        add(y, 3, 5, 6);
        due("moveIn(1,2) onto the empty table", y.moveIn(B, 2), 2);
        due("the table", row(y, TABLE), "21");
        due("the track", row(y, 6), "0");
    }

    private static void nearestToTheEnd() {
        says("the k locomotives on the table that are nearest to this end "
                + "move onto the track to which the end points.");
        for (int count = 1; count <= 8; count++) {
            TurntableHouse x = withTracks(0, 6);
            add(x, 8, 7, 0);
            x.moveIn(A, 8);
            due("moveOut(0," + count + ")", x.moveOut(A, count), count);
            due("the track at end A", row(x, 0), "76543210".substring(8 - count));
            due("the table", row(x, TABLE), "01234567".substring(count));
            x.undo();
            due("moveOut(1," + count + ")", x.moveOut(B, count), count);
            due("the track at end B", row(x, 6), "01234567".substring(8 - count));
            due("the table", row(x, TABLE), "01234567".substring(0, 8 - count));
        }
    }

    private static void outAtAnEnd() {
        says("They keep their order: the one that was nearest to the end gets the index k - 1 in the row on the track, "
                + "and the locomotives that stood there already come behind it.");
        TurntableHouse x = withTracks(0, 3, 9);
        add(x, 7, 5, 0);
        x.moveIn(A, 7);
        x.turn(3);
        due("moveOut(0,1) onto an empty track", x.moveOut(A, 1), 1);
        due("moveOut(0,2) in front of it", x.moveOut(A, 2), 3);
        due("the track at end A", row(x, 3), "210");
        due("moveOut(1,2) onto an empty track", x.moveOut(B, 2), 2);
        due("the track at end B", row(x, 9), "56");
        due("moveOut(1,2): all that are left", x.moveOut(B, 2), 4);
        due("the track at end B", row(x, 9), "3456");
        due("row(12,-1): an empty table", x.row(TABLE, -1), 0);
        due("moveOut(1,1) from an empty table", x.moveOut(B, 1), TOO_FEW);
    }

    private static void atLeastOne() {
        says("Here k is at least 1.");
        TurntableHouse x = withTracks(0, 6);
        add(x, 3, 5, 0);
        add(x, 3, 5, 6);
        x.moveIn(A, 2);
        for (int end = A; end <= B; end++) {
            for (int count : new int[] {0, -1, LEAST}) {
                due("moveIn(" + end + "," + count + ")", x.moveIn(end, count), BAD_VALUE);
                due("moveOut(" + end + "," + count + ")", x.moveOut(end, count), BAD_VALUE);
            }
            due("moveIn(" + end + ",1)", x.moveIn(end, 1), 3);
            due("moveOut(" + end + ",1)", x.moveOut(end, 1), end == A ? 1 : 3);
        }
    }

    private static void possibleMovements() {
        says("A movement in or out is possible if there is a track at the position, there are at least k locomotives "
                + "on the track, or on the table, respectively, at least one of the k locomotives is alive, and all of "
                + "them fit onto the table, or the track, together with the locomotives that are there already.");
        for (int end = A; end <= B; end++) {
            possibleMovementsAt(end);
        }
    }

    private static void possibleMovementsAt(int end) {
        TurntableHouse x = new TurntableHouse();
        int position = x.pointsTo(end);
        due("moveIn without a track", x.moveIn(end, 1), NO_SUCH_TRACK);
        due("moveOut without a track", x.moveOut(end, 1), NO_SUCH_TRACK);
        x.setTrack(position, 30);
        due("moveIn from an empty track", x.moveIn(end, 1), TOO_FEW);
        due("moveOut from an empty table", x.moveOut(end, 1), TOO_FEW);
        add(x, 3, 10, position);
        due("moveIn of 4 of 3", x.moveIn(end, 4), TOO_FEW);
        x.setDead(2, true);
        x.setDead(1, true);
        due("moveIn of 2 dead ones", x.moveIn(end, 2), ALL_DEAD);
        x.setTableLength(29);
        due("moveIn of all, one too long", x.moveIn(end, 3), NO_ROOM);
        x.setTableLength(30);
        due("moveIn of all, the last one alive", x.moveIn(end, 3), 3);
        due("moveOut of 4 of 3", x.moveOut(end, 4), TOO_FEW);
        x.setDead(0, true);
        x.setDead(2, false);
        due("moveOut of 2 dead ones", x.moveOut(end, 2), ALL_DEAD);
        x.setTrack(position, 29);
        due("moveOut of all, one too long", x.moveOut(end, 3), NO_ROOM);
        x.setTrack(position, 30);
        due("moveOut of all, the last one alive", x.moveOut(end, 3), 3);
        due("moveIn of 1, alive", x.moveIn(end, 1), 1);
        x.addLocomotive(5, position);
        due("moveOut of 1, no longer fits beside the others", x.moveOut(end, 1), NO_ROOM);
        x.setTableLength(14);
        due("moveIn of 1, does not fit beside the other", x.moveIn(end, 1), NO_ROOM);
        x.setTableLength(15);
        due("moveIn of 1, just fits beside the other", x.moveIn(end, 1), 2);
    }

    private static void codes() {
        says("The code of an action is 0 for a clockwise turn, 1 for a counterclockwise turn, 10 + k for moving k "
                + "locomotives in at end A, 20 + k for moving in at end B, 30 + k for moving out at end A, and 40 + k "
                + "for moving out at end B.");
        for (int count = 1; count <= 8; count += 7) {
            TurntableHouse x = withTracks(0, 6);
            add(x, 8, 7, 0);
            x.moveIn(A, count);
            due("log(0) of moveIn(0," + count + ")", x.log(0), 10 + count);
            x.moveOut(B, count);
            due("log(0) of moveOut(1," + count + ")", x.log(0), 40 + count);
            x.moveIn(B, count);
            due("log(0) of moveIn(1," + count + ")", x.log(0), 20 + count);
            x.moveOut(A, count);
            due("log(0) of moveOut(0," + count + ")", x.log(0), 30 + count);
            x.turn(1);
            due("log(0) of turn(1)", x.log(0), 0);
            x.turn(-1);
            due("log(0) of turn(-1)", x.log(0), 1);
            int[] undone = {1, 0, 30 + count, 20 + count, 40 + count, 10 + count, NONE};
            for (int code : undone) {
                due("undo()", x.undo(), code);
            }
        }
    }

    // ---- THE LOG

    private static void turnsInTheLog() {
        says("Actions that are carried out by turn, moveIn and moveOut are appended to the log; a call of turn appends "
                + "as many actions as it makes turns.");
        TurntableHouse x = withTracks(0);
        x.addLocomotive(5, 0);
        int[] turns = {1, 11, -1, -11};
        int[] logged = {1, 12, 13, 24};
        for (int i = 0; i < turns.length; i++) {
            x.turn(turns[i]);
            due("log(-1) after turn(" + turns[i] + ")", x.log(-1), logged[i]);
            due("log(0) after turn(" + turns[i] + ")", x.log(0), turns[i] > 0 ? 0 : 1);
        }
        x.moveIn(A, 1);
        due("log(-1) after moveIn(0,1)", x.log(-1), 25);
        x.moveOut(A, 1);
        due("log(-1) after moveOut(0,1)", x.log(-1), 26);
        x.turn(0);
        x.turn(12);
        x.moveIn(A, 2);
        x.moveOut(A, 1);
        due("log(-1) after refused ones", x.log(-1), 26);
    }

    private static void latest40() {
        says("The log keeps the latest 40 actions.");
        TurntableHouse x = withTracks(0);
        x.addLocomotive(5, 0);
        x.moveIn(A, 1);
        x.turn(-11);
        x.turn(-11);
        x.turn(-11);
        x.turn(-5);
        due("log(-1) of 39", x.log(-1), 39);
        due("log(38): the first action", x.log(38), 11);
        due("log(39)", x.log(39), NONE);
        x.turn(1);
        due("log(-1) of 40", x.log(-1), 40);
        due("log(39): the first action", x.log(39), 11);
        x.turn(1);
        due("log(-1) of 41", x.log(-1), 40);
        due("log(39): the second action", x.log(39), 1);
        due("log(40)", x.log(40), NONE);
        due("log(2)", x.log(2), 1);
        due("log(1)", x.log(1), 0);
        x.turn(11);
        due("log(-1) of 52", x.log(-1), 40);
        due("log(13)", x.log(13), 1);
        due("log(12)", x.log(12), 0);
        x.undo();
        due("log(-1) after undo(): what was dropped is gone", x.log(-1), 39);
        due("log(38)", x.log(38), 1);
        due("log(39)", x.log(39), NONE);
    }

    private static void reverseIsPossible() {
        says("Undoing the last action of the log removes it from the log and carries out its reverse, which is always "
                + "possible as long as the log contains it.");
        TurntableHouse x = new TurntableHouse();
        x.setTrack(0, 20);
        x.setTrack(6, 20);
        x.setTableLength(20);
        add(x, 2, 10, 0);
        x.setDead(1, true);
        for (int i = 0; i < 10; i++) {
            due("moveIn(0,2): a full table", x.moveIn(A, 2), 2);
            due("moveOut(1,2): a full track", x.moveOut(B, 2), 2);
            due("moveIn(1,2): a full table", x.moveIn(B, 2), 2);
            due("moveOut(0,2): a full track", x.moveOut(A, 2), 2);
        }
        x.turn(1);
        due("undo() of the turn", x.undo(), 0);
        for (int i = 38; i >= 0; i--) {
            due("undo()", x.undo(), new int[] {12, 42, 22, 32}[(i + 1) % 4]);
            due("log(-1)", x.log(-1), i);
        }
        due("undo() of an empty log", x.undo(), NONE);
        due("the table, after all but the first action", row(x, TABLE), "01");
        due("row(0,-1)", x.row(0, -1), 0);
        due("row(6,-1)", x.row(6, -1), 0);
    }

    private static void emptyingTheLog() {
        says("The log is emptied by every call of setTrack, setTableLength, addLocomotive, removeLocomotive, setDead "
                + "or restore that returns neither an error nor NONE, also if nothing has another value then.");
        empties("setTrack(0,40): the same length", x -> x.setTrack(0, 40), 40);
        empties("setTrack(0,10): another length", x -> x.setTrack(0, 10), 40);
        empties("setTrack(11,0): no track as before", x -> x.setTrack(11, 0), 0);
        empties("setTrack(3,0): a track removed", x -> x.setTrack(3, 0), 9);
        empties("setTableLength(20): the same length", x -> x.setTableLength(20), 20);
        empties("setTableLength(12): another length", x -> x.setTableLength(12), 20);
        empties("addLocomotive(1,0)", x -> x.addLocomotive(1, 0), 3);
        empties("removeLocomotive()", x -> x.removeLocomotive(), 2);
        empties("setDead(2,true): dead as before", x -> x.setDead(2, true), 1);
        empties("setDead(2,false)", x -> x.setDead(2, false), 1);
        empties("setDead(0,false): alive as before", x -> x.setDead(0, false), 0);
        empties("restore(0)", x -> x.restore(0), 3);
        TurntableHouse x = new TurntableHouse();
        x.turn(1);
        due("removeLocomotive() of none", x.removeLocomotive(), NONE);
        due("log(-1) after NONE", x.log(-1), 1);
        due("undo() after NONE", x.undo(), 0);
        TurntableHouse y = house();
        y.setTrack(0, 9);
        y.setTableLength(11);
        y.addLocomotive(21, 0);
        y.setDead(3, true);
        y.restore(1);
        y.restore(2);
        due("log(-1) after errors", y.log(-1), 7);
        y.save(1);
        due("log(-1) after save(1)", y.log(-1), 7);
    }

    private static void empties(String call, ToIntFunction<TurntableHouse> change, int answer) {
        TurntableHouse x = house();
        due("log(-1) before " + call, x.log(-1), 7);
        due(call, change.applyAsInt(x), answer);
        due("log(-1) after " + call, x.log(-1), 0);
        due("log(0) after " + call, x.log(0), NONE);
        due("undo() after " + call, x.undo(), NONE);
        x.turn(-1);
        due("log(-1) after one more turn", x.log(-1), 1);
        due("log(0) after one more turn", x.log(0), 1);
    }

    // ---- PLANS

    private static void whatAPlanIs() {
        says("A plan for a locomotive and a position is a sequence of possible actions, beginning with the present "
                + "situation, after which the locomotive stands on the track at this position as the first one of the "
                + "row.");
        TurntableHouse x = withTracks(0, 6);
        add(x, 2, 5, 0);
        due("the plan of the first one for its own track", planOf(x, 1, 0), List.of());
        due("fewestTurns(1,0)", x.fewestTurns(1, 0), 0);
        due("the plan of the second one for its own track", planOf(x, 0, 0), List.of(11));
        x.moveIn(A, 2);
        due("the plan of the first one on the table", planOf(x, 0, 0), List.of(31));
        due("the plan of the last one on the table", planOf(x, 1, 0), List.of(32));
        due("the plan of the last one for the other end", planOf(x, 1, 6), List.of(41));
        x.turn(11);
        due("the plan over position 0", planOf(x, 0, 0), List.of(0, 31));
        x.turn(2);
        due("the plan back over position 0", planOf(x, 0, 0), List.of(1, 31));
    }

    /** Five turns and 13 actions are found, though 9 actions with 7 turns would do. */
    private static void fewestTurnsFirst() {
        says("The best plan is the one with the fewest turns;");
        TurntableHouse x = new TurntableHouse();
        x.setTrack(1, 10);
        x.setTrack(7, 20);
        x.setTrack(8, 10);
        x.setTableLength(20);
        x.addLocomotive(10, 7);
        x.addLocomotive(10, 8);
        x.addLocomotive(10, 7);
        due("fewestTurns(0,1)", x.fewestTurns(0, 1), 5);
        due("the plan", planOf(x, 0, 1), List.of(0, 22, 31, 0, 21, 1, 42, 11, 0, 41, 1, 21, 31));
    }

    private static void fewestActionsThen() {
        says("if there are several, the one with the fewest actions;");
        TurntableHouse x = withTracks(0, 6);
        add(x, 3, 5, 0);
        due("three at once, not one by one", planOf(x, 0, 6), List.of(13, 43));
        due("one is enough", planOf(x, 2, 6), List.of(11, 41));
        x.moveIn(A, 3);
        due("the nearest to end B", planOf(x, 2, 6), List.of(41));
        due("the farthest from end B, all at once", planOf(x, 0, 6), List.of(43));
    }

    private static void smallestCodesAtLast() {
        says("if there are still several, the one whose sequence of codes is lexicographically smallest.");
        TurntableHouse x = withTracks(0, 3);
        x.addLocomotive(5, 0);
        x.moveIn(A, 1);
        due("clockwise to end A, not back to end B", planOf(x, 0, 3), List.of(0, 0, 0, 31));
        x.turn(6);
        due("clockwise to end B, not back to end A", planOf(x, 0, 3), List.of(0, 0, 0, 41));
        TurntableHouse y = withTracks(0, 6);
        add(y, 2, 5, 0);
        due("one in, not two", planOf(y, 1, 6), List.of(11, 41));
        y.turn(3);
        due("clockwise first, then in at end B", planOf(y, 1, 6), List.of(0, 0, 0, 21, 31));
    }

    private static void limitsOfPlans() {
        says("Plans are only made if there are at most 3 locomotives and at most 5 tracks.");
        TurntableHouse x = withTracks(0, 2, 4, 6, 8);
        add(x, 3, 5, 0);
        due("fewestTurns(2,2) with 3 and 5", x.fewestTurns(2, 2), 2);
        due("plan(2,2,-1) with 3 and 5", x.plan(2, 2, -1), 4);
        x.addLocomotive(5, 0);
        due("fewestTurns(2,2) with 4 and 5", x.fewestTurns(2, 2), TOO_MANY);
        due("plan(2,2,-1) with 4 and 5", x.plan(2, 2, -1), TOO_MANY);
        x.setTrack(11, 1);
        due("fewestTurns(2,2) with 4 and 6", x.fewestTurns(2, 2), TOO_MANY);
        x.removeLocomotive();
        due("fewestTurns(2,2) with 3 and 6", x.fewestTurns(2, 2), TOO_MANY);
        due("plan(2,2,-1) with 3 and 6", x.plan(2, 2, -1), TOO_MANY);
        x.setTrack(11, 0);
        due("fewestTurns(2,2) with 3 and 5 again", x.fewestTurns(2, 2), 2);
        due("plan(2,2,-1) with 3 and 5 again", x.plan(2, 2, -1), 4);
        TurntableHouse y = withTracks(0);
        add(y, 4, 5, 0);
        due("fewestTurns(3,0) with 4 and 1, already there", y.fewestTurns(3, 0), TOO_MANY);
        TurntableHouse z = withTracks(0, 1, 2, 3, 4, 5);
        z.addLocomotive(5, 0);
        due("fewestTurns(0,0) with 1 and 6, already there", z.fewestTurns(0, 0), TOO_MANY);
    }
}
