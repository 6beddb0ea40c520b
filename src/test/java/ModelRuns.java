import java.util.ArrayList;
import java.util.HashSet;
import java.util.List;
import java.util.PriorityQueue;
import java.util.Set;

/**
 * Long runs of calls, each answer compared with that of a second, slow house that is written straight from the
 * document. Its planner searches forward over whole situations and compares whole plans.
 */
public final class ModelRuns {
    private static final int TABLE = 12;
    private static int wrong = 0;

    /** A situation: what save keeps. */
    private static final class Situation {
        final int[] length = new int[13];
        final List<List<Integer>> rows = new ArrayList<>();
        final List<Integer> size = new ArrayList<>();
        final List<Boolean> dead = new ArrayList<>();
        int endA = 0;

        Situation() {
            length[TABLE] = 30;
            for (int i = 0; i < 13; i++) {
                rows.add(new ArrayList<>());
            }
        }

        Situation copy() {
            Situation c = new Situation();
            System.arraycopy(length, 0, c.length, 0, 13);
            for (int i = 0; i < 13; i++) {
                c.rows.get(i).addAll(rows.get(i));
            }
            c.size.addAll(size);
            c.dead.addAll(dead);
            c.endA = endA;
            return c;
        }

        int sum(List<Integer> row) {
            int sum = 0;
            for (int l : row) {
                sum += size.get(l);
            }
            return sum;
        }

        int points(int end) {
            return (endA + 6 * end) % 12;
        }

        List<Integer> moversIn(int end, int k) {
            return new ArrayList<>(rows.get(points(end)).subList(0, k));
        }

        List<Integer> moversOut(int end, int k) {
            List<Integer> table = rows.get(TABLE);
            List<Integer> movers = new ArrayList<>();
            for (int i = 0; i < k; i++) {
                movers.add(table.get(end == 0 ? i : table.size() - 1 - i));
            }
            return movers;
        }

        int whyNot(boolean in, int end, int k) {
            if (length[points(end)] == 0) {
                return -2;
            }
            List<Integer> from = rows.get(in ? points(end) : TABLE);
            if (from.size() < k) {
                return -6;
            }
            List<Integer> movers = in ? moversIn(end, k) : moversOut(end, k);
            boolean alive = false;
            for (int l : movers) {
                alive |= !dead.get(l);
            }
            if (!alive) {
                return -7;
            }
            int to = in ? TABLE : points(end);
            return sum(rows.get(to)) + sum(movers) > length[to] ? -8 : 0;
        }

        /** Carries out an action that is possible; movers are listed nearest to the place they go to first. */
        void act(int code) {
            if (code < 10) {
                endA = (endA + (code == 0 ? 1 : 11)) % 12;
                return;
            }
            int k = code % 10;
            int end = code / 10 % 2 == 1 ? 0 : 1;
            boolean in = code < 30;
            List<Integer> movers = in ? moversIn(end, k) : moversOut(end, k);
            List<Integer> table = rows.get(TABLE);
            List<Integer> track = rows.get(points(end));
            (in ? track : table).removeAll(movers);
            if (in && end == 1) {
                table.addAll(movers);
                return;
            }
            List<Integer> turned = new ArrayList<>();
            for (int l : movers) {
                turned.add(0, l);
            }
            (in ? table : track).addAll(0, turned);
        }

        List<Integer> possible() {
            List<Integer> codes = new ArrayList<>(List.of(0, 1));
            for (int kind = 10; kind <= 40; kind += 10) {
                for (int k = 1; k <= size.size(); k++) {
                    if (whyNot(kind < 30, kind / 10 % 2 == 1 ? 0 : 1, k) == 0) {
                        codes.add(kind + k);
                    }
                }
            }
            return codes;
        }
    }

    private static final class Path implements Comparable<Path> {
        final Situation at;
        final int turns;
        final List<Integer> codes;

        Path(Situation at, int turns, List<Integer> codes) {
            this.at = at;
            this.turns = turns;
            this.codes = codes;
        }

        @Override
        public int compareTo(Path other) {
            int order = Integer.compare(turns, other.turns);
            if (order == 0) {
                order = Integer.compare(codes.size(), other.codes.size());
            }
            for (int i = 0; order == 0 && i < codes.size(); i++) {
                order = Integer.compare(codes.get(i), other.codes.get(i));
            }
            return order;
        }
    }

    private static Path bestPlan(Situation start, int locomotive, int position) {
        PriorityQueue<Path> open = new PriorityQueue<>();
        Set<String> closed = new HashSet<>();
        open.add(new Path(start, 0, List.of()));
        while (!open.isEmpty()) {
            Path path = open.remove();
            if (!closed.add(path.at.endA + " " + path.at.rows)) {
                continue;
            }
            List<Integer> row = path.at.rows.get(position);
            if (!row.isEmpty() && row.get(0) == locomotive) {
                return path;
            }
            for (int code : path.at.possible()) {
                Situation next = path.at.copy();
                next.act(code);
                List<Integer> codes = new ArrayList<>(path.codes);
                codes.add(code);
                open.add(new Path(next, path.turns + (code < 10 ? 1 : 0), codes));
            }
        }
        return null;
    }

    /** The second house; a call is a number of the method and up to three numbers. */
    private static final class Model {
        Situation now = new Situation();
        final Situation[] slots = new Situation[2];
        final List<Integer> log = new ArrayList<>();
        int turns = 0;
        String planKey = "";
        Path planKept = null;

        int call(int method, int a, int b, int c) {
            switch (method) {
                case 0: return setTrack(a, b);
                case 1: return setTableLength(a);
                case 2: return addLocomotive(a, b);
                case 3: return removeLocomotive();
                case 4: return setDead(a, b != 0);
                case 5: return now.size.size();
                case 6: return a < 0 || a > 11 ? -1 : now.length[a];
                case 7: return noPlace(a) != 0 ? noPlace(a) : now.length[a] - now.sum(now.rows.get(a));
                case 8: return row(a, b);
                case 9: return place(a);
                case 10: return a < 0 || a > 1 ? -4 : now.points(a);
                case 11: return turn(a);
                case 12: return move(true, a, b);
                case 13: return move(false, a, b);
                case 14: return turns;
                case 15: return undo();
                case 16: return a == -1 ? log.size() : a < 0 || a >= log.size() ? -11 : log.get(log.size() - 1 - a);
                case 17: return plan(a, b, true, 0);
                case 18: return plan(a, b, false, c);
                case 19: return save(a);
                default: return restore(a);
            }
        }

        int setTrack(int position, int length) {
            if (position < 0 || position > 11) {
                return -1;
            }
            return length < 0 || length > 60 ? -4 : setLength(position, length);
        }

        int setTableLength(int length) {
            return length < 1 || length > 60 ? -4 : setLength(TABLE, length);
        }

        int setLength(int place, int length) {
            if (now.sum(now.rows.get(place)) > length) {
                return -5;
            }
            int previous = now.length[place];
            now.length[place] = length;
            log.clear();
            return previous;
        }

        int addLocomotive(int length, int position) {
            if (position < 0 || position > 11) {
                return -1;
            }
            if (now.length[position] == 0) {
                return -2;
            }
            if (length < 1 || length > 20) {
                return -4;
            }
            if (now.sum(now.rows.get(position)) + length > now.length[position]) {
                return -8;
            }
            if (now.size.size() == 8) {
                return -9;
            }
            log.clear();
            now.rows.get(position).add(0, now.size.size());
            now.size.add(length);
            now.dead.add(false);
            return now.size.size() - 1;
        }

        int removeLocomotive() {
            int last = now.size.size() - 1;
            if (last < 0) {
                return -11;
            }
            log.clear();
            for (List<Integer> row : now.rows) {
                row.remove(Integer.valueOf(last));
            }
            now.size.remove(last);
            now.dead.remove(last);
            return last;
        }

        boolean noLocomotive(int l) {
            return l < 0 || l >= now.size.size();
        }

        int setDead(int l, boolean dead) {
            if (noLocomotive(l)) {
                return -3;
            }
            log.clear();
            return now.dead.set(l, dead) ? 1 : 0;
        }

        int noPlace(int place) {
            return place < 0 || place > 12 ? -1 : now.length[place] == 0 ? -2 : 0;
        }

        int row(int place, int index) {
            if (noPlace(place) != 0) {
                return noPlace(place);
            }
            List<Integer> row = now.rows.get(place);
            return index == -1 ? row.size() : index < 0 || index >= row.size() ? -11 : row.get(index);
        }

        int place(int l) {
            for (int place = 0; place < 13; place++) {
                if (now.rows.get(place).contains(l)) {
                    return place;
                }
            }
            return -3;
        }

        void logged(int code) {
            now.act(code);
            log.add(code);
            if (log.size() > 40) {
                log.remove(0);
            }
        }

        int turn(int n) {
            if (n == 0 || n > 11 || n < -11) {
                return -4;
            }
            for (int i = 0; i < Math.abs(n); i++) {
                logged(n > 0 ? 0 : 1);
                turns++;
            }
            return now.endA;
        }

        int move(boolean in, int end, int k) {
            if (end < 0 || end > 1 || k < 1) {
                return -4;
            }
            int error = now.whyNot(in, end, k);
            if (error != 0) {
                return error;
            }
            logged((in ? 10 : 30) + 10 * end + k);
            return now.rows.get(in ? TABLE : now.points(end)).size();
        }

        int undo() {
            if (log.isEmpty()) {
                return -11;
            }
            int code = log.remove(log.size() - 1);
            now.act(code < 10 ? 1 - code : code < 30 ? code + 20 : code - 20);
            return code;
        }

        int plan(int l, int position, boolean onlyTurns, int index) {
            if (noLocomotive(l)) {
                return -3;
            }
            if (position < 0 || position > 11) {
                return -1;
            }
            if (now.length[position] == 0) {
                return -2;
            }
            int tracks = 0;
            for (int i = 0; i < 12; i++) {
                tracks += now.length[i] > 0 ? 1 : 0;
            }
            if (now.size.size() > 3 || tracks > 5) {
                return -9;
            }
            String key = l + " " + position + " " + now.endA + now.rows + now.size + now.dead
                    + java.util.Arrays.toString(now.length);
            if (!key.equals(planKey)) {
                planKey = key;
                planKept = bestPlan(now, l, position);
            }
            if (planKept == null) {
                return -11;
            }
            if (onlyTurns) {
                return planKept.turns;
            }
            int n = planKept.codes.size();
            return index == -1 ? n : index < 0 || index >= n ? -11 : planKept.codes.get(index);
        }

        int save(int slot) {
            if (slot < 0 || slot > 1) {
                return -4;
            }
            slots[slot] = now.copy();
            return now.size.size();
        }

        int restore(int slot) {
            if (slot < 0 || slot > 1) {
                return -4;
            }
            if (slots[slot] == null) {
                return -10;
            }
            now = slots[slot].copy();
            log.clear();
            return now.size.size();
        }
    }

    private static final String[] NAMES = {"setTrack", "setTableLength", "addLocomotive", "removeLocomotive",
        "setDead", "locomotives", "trackLength", "freeLength", "row", "place", "pointsTo", "turn", "moveIn",
        "moveOut", "turnsMade", "undo", "log", "fewestTurns", "plan", "save", "restore"};

    private static int callHouse(TurntableHouse x, int method, int a, int b, int c) {
        switch (method) {
            case 0: return x.setTrack(a, b);
            case 1: return x.setTableLength(a);
            case 2: return x.addLocomotive(a, b);
            case 3: return x.removeLocomotive();
            case 4: return x.setDead(a, b != 0);
            case 5: return x.locomotives();
            case 6: return x.trackLength(a);
            case 7: return x.freeLength(a);
            case 8: return x.row(a, b);
            case 9: return x.place(a);
            case 10: return x.pointsTo(a);
            case 11: return x.turn(a);
            case 12: return x.moveIn(a, b);
            case 13: return x.moveOut(a, b);
            case 14: return x.turnsMade();
            case 15: return x.undo();
            case 16: return x.log(a);
            case 17: return x.fewestTurns(a, b);
            case 18: return x.plan(a, b, c);
            case 19: return x.save(a);
            default: return x.restore(a);
        }
    }

    /** A run: both houses, a fixed series of numbers, and the calls so far. */
    private static final class Run {
        final int number;
        final TurntableHouse house = new TurntableHouse();
        final Model model = new Model();
        final StringBuilder calls = new StringBuilder();
        long seed;
        int made = 0;
        boolean failed = false;

        Run(int number) {
            this.number = number;
            seed = number * 7919L + 17;
        }

        int below(int bound) {
            seed = seed * 6364136223846793005L + 1442695040888963407L;
            return (int) ((seed >>> 33) % bound);
        }

        int between(int low, int high) {
            return low + below(high - low + 1);
        }

        void call(int method, int a, int b, int c) {
            if (failed || made >= 500) {
                return;
            }
            made++;
            int want = model.call(method, a, b, c);
            int got = callHouse(house, method, a, b, c);
            String call = NAMES[method] + "(" + a + "," + b + "," + c + ")";
            calls.append(call).append(" = ").append(got).append("; ");
            if (got != want) {
                failed = true;
                wrong++;
                System.out.println("run " + number + ": " + call + " answered " + got + ", due is " + want
                        + " after " + calls);
            }
        }

        /** A number that is mostly in its range, sometimes just outside, seldom far away. */
        int near(int low, int high) {
            switch (below(40)) {
                case 0: return low - 1;
                case 1: return high + 1;
                case 2: return low;
                case 3: return high;
                case 4: return below(2) == 0 ? Integer.MIN_VALUE : Integer.MAX_VALUE;
                default: return between(low, high);
            }
        }

        int aTrack() {
            int position = below(12);
            for (int i = 0; i < 12 && below(15) != 0; i++) {
                if (model.now.length[position] > 0) {
                    return position;
                }
                position = (position + 1) % 12;
            }
            return near(0, 11);
        }

        int aLocomotive() {
            return near(0, Math.max(0, model.now.size.size() - 1));
        }

        void planWhole(int l, int position) {
            call(17, l, position, 0);
            call(18, l, position, -1);
            int n = model.plan(l, position, false, -1);
            for (int i = 0; i <= Math.min(n, 30); i++) {
                call(18, l, position, i);
            }
            if (below(3) == 0) {
                call(18, l, position, near(-1, Math.max(n, 0)));
            }
        }

        void lookAtAll() {
            call(5, 0, 0, 0);
            call(14, 0, 0, 0);
            call(10, 0, 0, 0);
            call(10, 1, 0, 0);
            for (int place = 0; place <= 12; place++) {
                if (model.now.length[place] > 0) {
                    call(7, place, 0, 0);
                    for (int i = -1; i <= model.now.rows.get(place).size(); i++) {
                        call(8, place, i, 0);
                    }
                }
            }
            for (int i = -1; i < 4; i++) {
                call(16, i, 0, 0);
            }
        }

        void anyCall(boolean plans) {
            int choice = below(100);
            if (choice < 4) {
                call(0, near(0, 11), below(4) == 0 ? 0 : near(0, 60), 0);
            } else if (choice < 6) {
                call(1, near(1, 60), 0, 0);
            } else if (choice < 12) {
                call(2, near(1, 20), aTrack(), 0);
            } else if (choice < 15) {
                call(3, 0, 0, 0);
            } else if (choice < 19) {
                call(4, aLocomotive(), below(2), 0);
            } else if (choice < 29) {
                call(8, near(0, 12), near(-1, 3), 0);
                call(7, near(0, 12), 0, 0);
                call(6, near(0, 11), 0, 0);
                call(9, aLocomotive(), 0, 0);
                call(10, near(0, 1), 0, 0);
            } else if (choice < 39) {
                call(11, near(-11, 11), 0, 0);
            } else if (choice < 57) {
                pointAndMove();
            } else if (choice < 69) {
                call(13, near(0, 1), near(1, 3), 0);
            } else if (choice < 80) {
                call(15, 0, 0, 0);
                call(16, near(-1, 41), 0, 0);
            } else if (choice < 83) {
                call(19, near(0, 1), 0, 0);
            } else if (choice < 85) {
                call(20, near(0, 1), 0, 0);
            } else if (choice < 89) {
                lookAtAll();
            } else if (plans) {
                planWhole(aLocomotive(), aTrack());
            } else {
                call(17, aLocomotive(), aTrack(), 0);
            }
        }

        void pointAndMove() {
            int position = aTrack();
            int turns = Math.floorMod(position - model.now.points(below(2)), 12);
            if (turns != 0 && below(2) == 0) {
                call(11, below(2) == 0 ? turns : turns - 12, 0, 0);
            }
            call(12 + below(2), near(0, 1), near(1, 3), 0);
        }

        void build(int tracks, int locomotives) {
            for (int i = 0; i < tracks; i++) {
                call(0, below(12), between(5, 60), 0);
            }
            if (below(3) == 0) {
                call(1, between(10, 60), 0, 0);
            }
            for (int i = 0; i < locomotives; i++) {
                call(2, between(1, 20), aTrack(), 0);
            }
            for (int i = 0; i < locomotives; i++) {
                if (below(4) == 0) {
                    call(4, i, 1, 0);
                }
            }
        }
    }

    /** Little room, so that the plans get long; all of them, from several situations of one house. */
    private static void puzzle(Run run) {
        int tracks = run.between(3, 5);
        for (int i = 0; i < tracks; i++) {
            run.call(0, run.below(12), run.between(9, 32), 0);
        }
        run.call(1, run.between(10, 30), 0, 0);
        for (int i = 0; i < 6 && run.model.now.size.size() < 3; i++) {
            run.call(2, run.between(5, 12), run.aTrack(), 0);
        }
        run.call(4, run.below(3), run.below(2), 0);
        while (run.made < 500 && !run.failed) {
            for (int l = 0; l < run.model.now.size.size(); l++) {
                run.planWhole(l, run.aTrack());
            }
            for (int i = 0; i < 4; i++) {
                run.pointAndMove();
            }
            if (run.below(4) == 0) {
                run.call(4, run.below(3), run.below(2), 0);
            }
        }
    }

    public static void main(String[] args) {
        int runs = args.length > 0 ? Integer.parseInt(args[0]) : 400;
        int calls = 0;
        for (int number = 0; number < runs; number++) {
            Run run = new Run(number);
            if (number % 3 == 2) {
                puzzle(run);
                calls += run.made;
                continue;
            }
            boolean plans = number % 2 == 0;
            run.build(plans ? run.between(1, 5) : run.between(1, 9), plans ? run.between(1, 3) : run.between(0, 8));
            int steps = plans ? 60 : 300;
            for (int i = 0; i < steps; i++) {
                run.anyCall(plans);
            }
            run.lookAtAll();
            calls += run.made;
        }
        System.out.println(runs + " runs, " + calls + " calls, " + wrong + " runs wrong");
        if (wrong != 0) {
            System.exit(1);
        }
    }
}
